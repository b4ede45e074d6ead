theorem c_aff {v : T_Row} {T : Nat → Nat} {n : Nat} (h : RowOf v T n) : ∀ (m p : Nat) (q : Bool) (a : T_Affix) (l : List Nat), n - p < m → p ≤ n → l.length ≤ p → cAff a l →
    ∃ a', f_PatternReader_readAffix_12 v m (nI p) a (bB q) (nI n) = some (bB (!(sAff T n m p q l).2.1), nI (sAff T n m p q l).1, a') ∧ cAff a' (sAff T n m p q l).2.2 := by
  have hN := h.2.1
  have hle := h.le
  intro m
  induction m with
  | zero => intro p q a l hm; omega
  | succ m ih =>
    intro p q a l hm hp hl ha
    rw [e_PatternReader_readAffix_12]
    by_cases hn : n ≤ p
    · rw [if_pos (nI_le hn (by omega)), show sAff T n (m + 1) p q l = (p, q, l) from if_pos hn]
      cases q
      · exact ⟨a, rfl, ha⟩
      · exact ⟨a, rfl, ha⟩
    · have hpn : p < n := by omega
      rw [if_neg (nI_ge hpn (by omega)), row_at h p (by omega), Option.bind_some]
      by_cases h39 : T p = 39
      · rw [if_pos ((chA_eq hle 39 39 rfl (by decide)).mpr ⟨hpn, h39⟩), nI_1, row_at h (p + 1) (by omega), Option.bind_some]
        by_cases h2 : p + 1 < n ∧ T (p + 1) = 39
        · rw [if_pos ((chA_eq hle 39 39 rfl (by decide)).mpr h2)]
          obtain ⟨a', e1, e2⟩ := aff_add ha (by omega) 39 (39 : Int32) rfl
          rw [e1, Option.bind_some, e_PatternReader_readAffix_127, nI_1]
          rw [show sAff T n (m + 1) p q l = sAff T n m (p + 2) q (l ++ [39]) from (if_neg hn).trans ((if_pos h39).trans (if_pos h2))]
          exact ih (p + 2) q a' (l ++ [39]) (by omega) (by omega) (by rw [List.length_append]; show l.length + 1 ≤ _; omega) e2
        · rw [if_neg (fun z => h2 ((chA_eq hle 39 39 rfl (by decide)).mp z))]
          rw [show sAff T n (m + 1) p q l = sAff T n m (p + 1) (!q) l from (if_neg hn).trans ((if_pos h39).trans (if_neg h2))]
          cases q
          · rw [if_pos b_f, e_PatternReader_readAffix_81, e_PatternReader_readAffix_127, nI_1]
            exact ih (p + 1) true a l (by omega) (by omega) (by omega) ha
          · rw [if_neg b_t, e_PatternReader_readAffix_81, e_PatternReader_readAffix_127, nI_1]
            exact ih (p + 1) false a l (by omega) (by omega) (by omega) ha
      · rw [if_neg (fun z => h39 ((chA_eq hle 39 39 rfl (by decide)).mp z).2)]
        have hA : chA T n p = nI (T p) := if_pos hpn
        have h126 := hle p hpn
        cases q
        · rw [if_pos b_f, hA, c_special (by omega), Option.bind_some]
          cases hs : spc (T p)
          · rw [if_pos b_f]
            by_cases h37 : T p = 37
            · rw [show sAff T n (m + 1) p false l = sAff T n m (p + 1) false (l ++ [256]) from (if_neg hn).trans ((if_neg h39).trans ((if_neg (by decide)).trans ((if_neg (by rw [hs]; decide)).trans (by rw [if_pos h37]))))]
              rw [if_pos (show nI (T p) = 37 by rw [h37]; rfl), e_PatternReader_readAffix_124]
              obtain ⟨a', e1, e2⟩ := aff_add ha (by omega) 256 (256 : Int32) rfl
              rw [e1, Option.bind_some, e_PatternReader_readAffix_127, nI_1]
              exact ih (p + 1) false a' (l ++ [256]) (by omega) (by omega) (by rw [List.length_append]; show l.length + 1 ≤ _; omega) e2
            · rw [show sAff T n (m + 1) p false l = sAff T n m (p + 1) false (l ++ [T p]) from (if_neg hn).trans ((if_neg h39).trans ((if_neg (by decide)).trans ((if_neg (by rw [hs]; decide)).trans (by rw [if_neg h37]))))]
              rw [if_neg (nI_nel 37 37 rfl (by omega) (by decide) h37), e_PatternReader_readAffix_124]
              obtain ⟨a', e1, e2⟩ := aff_add ha (by omega) (T p) (nI (T p)) rfl
              rw [e1, Option.bind_some, e_PatternReader_readAffix_127, nI_1]
              exact ih (p + 1) false a' (l ++ [T p]) (by omega) (by omega) (by rw [List.length_append]; show l.length + 1 ≤ _; omega) e2
          · rw [if_neg b_t]
            rw [show sAff T n (m + 1) p false l = (p, false, l) from (if_neg hn).trans ((if_neg h39).trans ((if_neg (by decide)).trans (if_pos hs)))]
            exact ⟨a, rfl, ha⟩
        · rw [if_neg b_t, hA]
          obtain ⟨a', e1, e2⟩ := aff_add ha (by omega) (T p) (nI (T p)) rfl
          rw [e1, Option.bind_some, e_PatternReader_readAffix_127, nI_1]
          rw [show sAff T n (m + 1) p true l = sAff T n m (p + 1) true (l ++ [T p]) from (if_neg hn).trans ((if_neg h39).trans (if_pos rfl))]
          exact ih (p + 1) true a' (l ++ [T p]) (by omega) (by omega) (by rw [List.length_append]; show l.length + 1 ≤ _; omega) e2
/-- the reference's state while it reads a pattern -/
def mP (M : T_Model) (el es kp : Nat → Int32) (a w o g : Int32) : T_Model := (M.1, M.2.1, M.2.2.1, M.2.2.2.1, M.2.2.2.2.1, M.2.2.2.2.2.1, el, es, kp, a, w, o, g, M.2.2.2.2.2.2.2.2.2.2.2.2.2)
theorem mP_of {M : T_Model} {T : Nat → Nat} {n : Nat} {el es kp : Nat → Int32} {a w o g : Int32} (h : ModOf M T n) : ModOf (mP M el es kp a w o g) T n := h
def updF (L : Nat → List Nat) (j : Nat) (l : List Nat) : Nat → List Nat := fun i => if i = j then l else L i
def mFam (el es : Nat → Int32) (L : Nat → List Nat) : Prop := ∀ j, j < 4 → mAff el es j (L j)
def KR (g : Int32) (el0 es0 el es : Nat → Int32) (L : Nat → List Nat) : Prop := (g = 0 ∧ el = el0 ∧ es = es0) ∨ (g = 1 ∧ mFam el es L)
theorem updF_same (L : Nat → List Nat) (j : Nat) : updF L j (L j) = L := by
  funext i; unfold updF; by_cases h : i = j
  · rw [if_pos h, h]
  · rw [if_neg h]
theorem updF_at (L : Nat → List Nat) (j : Nat) (l : List Nat) : updF L j l j = l := if_pos rfl
theorem updF_two (L : Nat → List Nat) (j : Nat) (l l' : List Nat) : updF (updF L j l) j l' = updF L j l' := by
  funext i; unfold updF; by_cases h : i = j
  · rw [if_pos h, if_pos h]
  · rw [if_neg h, if_neg h, if_neg h]
theorem m_keep {M : T_Model} {el0 es0 el es kp : Nat → Int32} {a w o g : Int32} {L : Nat → List Nat} {j e : Nat} (hj : j < 4) (hK : KR g el0 es0 el es L) (hl : g = 1 → (L j).length < 40) (x : Int32) (hx : x = nI (toM e)) :
    ∃ el' es', f_Model_keep (mP M el es kp a w o g) (nI j) x = some (mP M el' es' kp a w o g) ∧ KR g el0 es0 el' es' (updF L j (L j ++ [e])) := by
  rcases hK with ⟨rfl, rfl, rfl⟩ | ⟨rfl, hF⟩
  · exact ⟨el, es, rfl, Or.inl ⟨rfl, rfl, rfl⟩⟩
  · have hlt := hl rfl
    subst hx
    obtain ⟨f1, f2, f3⟩ := hF j hj
    have i1 : ix (nI j) 4 := ixN hj (by decide)
    have q : (40 : Int32) * nI j + es (nI j).toNatClampNeg = nI (40 * j + (L j).length) := by
      rw [nI_clamp (by omega), f1, show (40 : Int32) * nI j = nI (40 * j) from pk_mul 40 j, nI_add]
    have i2 : ix ((40 : Int32) * nI j + es (nI j).toNatClampNeg) 160 := by rw [q]; exact ixN (by omega) (by decide)
    refine ⟨upd el (40 * j + (L j).length) (nI (toM e)), upd es j (nI ((L j).length + 1)), ?_, Or.inr ⟨rfl, fun k hk => ?_⟩⟩
    · have st : f_Model_keep (mP M el es kp a w o 1) (nI j) (nI (toM e)) = some (mP M (upd el ((40 : Int32) * nI j + es (nI j).toNatClampNeg).toNatClampNeg (nI (toM e))) (upd es (nI j).toNatClampNeg (es (nI j).toNatClampNeg + 1)) kp a w o 1) :=
        (if_neg (show ¬ (1 : Int32) = 0 by decide)).trans ((if_pos i1).trans ((if_pos i2).trans ((if_pos i1).trans (if_pos i1))))
      rw [st, q, nI_clamp (by omega), nI_clamp (by omega), f1, nI_1]
    · by_cases ek : k = j
      · subst ek
        rw [updF_at]
        refine ⟨?_, ?_, fun i hi => ?_⟩
        · rw [pk_us, List.length_append]; rfl
        · rw [List.length_append]; show (L k).length + 1 ≤ 40; omega
        · by_cases qi : i < (L k).length
          · rw [pk_un (by omega), f3 i qi, List.getElem_append_left qi]
          · have q2 : i = (L k).length := by rw [List.length_append] at hi; have : i < (L k).length + 1 := hi; omega
            subst q2
            rw [pk_us]
            simp
      · obtain ⟨g1, g2, g3⟩ := hF k hk
        have eU : updF L j (L j ++ [e]) k = L k := if_neg ek
        rw [eU]
        refine ⟨by rw [pk_un ek]; exact g1, g2, fun i hi => ?_⟩
        rw [pk_un (by omega)]
        exact g3 i hi
