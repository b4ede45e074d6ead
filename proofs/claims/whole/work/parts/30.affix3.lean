section MPF
variable (M : T_Model) (el es kp : Nat → Int32) (a w o g x : Int32)
theorem mP_at : M_at (mP M el es kp a w o g) = a := rfl
theorem mP_open : M_open (mP M el es kp a w o g) = o := rfl
theorem mP_wrong : M_wrong (mP M el es kp a w o g) = w := rfl
theorem mP_keeping : M_keeping (mP M el es kp a w o g) = g := rfl
theorem mP_text : M_text (mP M el es kp a w o g) = M_text M := rfl
theorem mP_size : M_size (mP M el es kp a w o g) = M_size M := rfl
theorem mP_kept : M_kept (mP M el es kp a w o g) = kp := rfl
theorem mP_elements : M_elements (mP M el es kp a w o g) = es := rfl
theorem mP_element : M_element (mP M el es kp a w o g) = el := rfl
theorem sP_at : sM_at (mP M el es kp a w o g) x = mP M el es kp x w o g := rfl
theorem sP_open : sM_open (mP M el es kp a w o g) x = mP M el es kp a w x g := rfl
theorem sP_wrong : sM_wrong (mP M el es kp a w o g) x = mP M el es kp a x o g := rfl
theorem sP_keeping : sM_keeping (mP M el es kp a w o g) x = mP M el es kp a w o x := rfl
theorem sP_kept (f : Nat → Int32) : sM_kept (mP M el es kp a w o g) f = mP M el es f a w o g := rfl
theorem sP_elements (f : Nat → Int32) : sM_elements (mP M el es kp a w o g) f = mP M el f kp a w o g := rfl
end MPF
theorem m_190 {M : T_Model} {T : Nat → Nat} {n : Nat} (h : ModOf M T n) {el es kp : Nat → Int32} {w o g x : Int32} (K : T_Model → Int32 → Int32 → Option O_Model_affix) (p : Nat) (hp : p < 2 ^ 30) :
    f_Model_affix_190 K (mP M el es kp (nI p) w o g) x = K (mP M el es kp (nI p) w o g) x (bB (decide (p < n))) := by
  have hN := h.2.1
  rw [e_Model_affix_190, mP_size, mP_at, h.1]
  by_cases hn : p < n
  · rw [if_neg (nI_ge hn (by omega)), decide_eq_true hn]; rfl
  · rw [if_pos (nI_le (by omega) (by omega)), decide_eq_false hn]; rfl
theorem m_177 {M : T_Model} {T : Nat → Nat} {n : Nat} (h : ModOf M T n) {el0 es0 el es kp : Nat → Int32} {w o g : Int32} {L : Nat → List Nat} {j : Nat} (K : T_Model → Int32 → Int32 → Option O_Model_affix) (p : Nat) (hp : p + 1 < 2 ^ 30) (hj : j < 4) (hK : KR g el0 es0 el es L) (hl : g = 1 → (L j).length < 40) (x : Int32) (e : Nat) (hx : x = nI (toM e)) :
    ∃ el' es', f_Model_affix_177 K (mP M el es kp (nI p) w o g) (nI j) (nI j) x = K (mP M el' es' kp (nI (p + 1)) w o g) (nI j) (bB (decide (p + 1 < n))) ∧ KR g el0 es0 el' es' (updF L j (L j ++ [e])) := by
  obtain ⟨el', es', k1, k2⟩ := m_keep (M := M) (kp := kp) (a := nI p) (w := w) (o := o) hj hK hl x hx
  refine ⟨el', es', ?_, k2⟩
  rw [e_Model_affix_177, k1, Option.bind_some, mP_at, sP_at, nI_1, m_190 h K (p + 1) (by omega)]
theorem m_aff {M : T_Model} {T : Nat → Nat} {n : Nat} (h : ModOf M T n) {el0 es0 kp : Nat → Int32} {w g : Int32} {j : Nat} (hj : j < 4) (hg : g = 1 → n ≤ 40) : ∀ (m p : Nat) (q : Bool) (el es : Nat → Int32) (L : Nat → List Nat), n - p < m → p ≤ n → (L j).length ≤ p → KR g el0 es0 el es L →
    ∃ el' es', f_Model_affix_22 m (mP M el es kp (nI p) w (bB q) g) (nI j) (bB (decide (p < n))) = some (mP M el' es' kp (nI (sAff T n m p q (L j)).1) w (bB (sAff T n m p q (L j)).2.1) g) ∧ KR g el0 es0 el' es' (updF L j (sAff T n m p q (L j)).2.2) := by
  have hN := h.2.1
  have hle := h.le
  intro m
  induction m with
  | zero => intro p q el es L hm; omega
  | succ m ih =>
    intro p q el es L hm hp hl hK
    rw [e_Model_affix_22]
    by_cases hn : n ≤ p
    · rw [decide_eq_false (by omega : ¬ p < n), if_pos b_f, show sAff T n (m + 1) p q (L j) = (p, q, L j) from if_pos hn]
      refine ⟨el, es, rfl, ?_⟩
      rw [updF_same]
      exact hK
    · have hpn : p < n := by omega
      have h126 := hle p hpn
      have hcap : g = 1 → (L j).length < 40 := fun q => by have := hg q; omega
      have next : ∀ (p' : Nat) (q' : Bool) (e : Nat) (el' es' : Nat → Int32), p < p' → p' ≤ n → KR g el0 es0 el' es' (updF L j (L j ++ [e])) → sAff T n (m + 1) p q (L j) = sAff T n m p' q' (L j ++ [e]) →
          ∃ el'' es'', f_Model_affix_22 m (mP M el' es' kp (nI p') w (bB q') g) (nI j) (bB (decide (p' < n))) = some (mP M el'' es'' kp (nI (sAff T n (m + 1) p q (L j)).1) w (bB (sAff T n (m + 1) p q (L j)).2.1) g) ∧ KR g el0 es0 el'' es'' (updF L j (sAff T n (m + 1) p q (L j)).2.2) := by
        intro p' q' e el' es' h1 h2 h3 h4
        obtain ⟨el'', es'', z1, z2⟩ := ih p' q' el' es' (updF L j (L j ++ [e])) (by omega) h2 (by rw [updF_at, List.length_append]; show (L j).length + 1 ≤ p'; omega) h3
        rw [updF_at] at z1 z2
        rw [updF_two] at z2
        rw [h4]
        exact ⟨el'', es'', z1, z2⟩
      rw [decide_eq_true hpn, if_neg b_t, mP_at, m_is (mP_of h) p (by omega) 39 39 rfl (by decide), Option.bind_some]
      have hIs := m_is (mP_of (el := el) (es := es) (kp := kp) (a := nI p) (w := w) (o := bB q) (g := g) h) p (by omega) 39 39 rfl (by decide)
      by_cases h39 : T p = 39
      · rw [decide_eq_true (show p < n ∧ T p = 39 from ⟨hpn, h39⟩), if_neg b_t, nI_1, m_is (mP_of h) (p + 1) (by omega) 39 39 rfl (by decide), Option.bind_some]
        by_cases h2 : p + 1 < n ∧ T (p + 1) = 39
        · obtain ⟨el', es', k1, k2⟩ := m_keep (M := M) (kp := kp) (a := nI p) (w := w) (o := bB q) (e := 39) hj hK hcap (39 : Int32) rfl
          rw [decide_eq_true h2, if_neg b_t, k1, Option.bind_some, mP_at, sP_at, show nI p + 2 = nI (p + 2) from nI_add p 2, m_190 h _ (p + 2) (by omega)]
          exact next (p + 2) q 39 el' es' (by omega) (by omega) k2 ((if_neg hn).trans ((if_pos h39).trans (if_pos h2)))
        · rw [decide_eq_false h2, if_pos b_f, e_Model_affix_74, mP_at, hIs, decide_eq_true (show p < n ∧ T p = 39 from ⟨hpn, h39⟩), Option.bind_some, if_neg b_t, mP_open]
          have hS : sAff T n (m + 1) p q (L j) = sAff T n m (p + 1) (!q) (L j) := (if_neg hn).trans ((if_pos h39).trans (if_neg h2))
          rw [hS]
          cases q
          · rw [if_pos b_f, e_Model_affix_100, if_pos (by decide), mP_at, sP_at, sP_open, nI_1, m_190 h _ (p + 1) (by omega)]
            exact ih (p + 1) true el es L (by omega) (by omega) (by omega) hK
          · rw [if_neg b_t, e_Model_affix_100, if_pos (by decide), mP_at, sP_at, sP_open, nI_1, m_190 h _ (p + 1) (by omega)]
            exact ih (p + 1) false el es L (by omega) (by omega) (by omega) hK
      · have d39 : decide (p < n ∧ T p = 39) = false := decide_eq_false (fun z => h39 z.2)
        have ht : M_text M p = nI (T p) := (h.2.2 p hpn).1
        have i1 : ix (nI p) 120 := ixN (by omega) (by decide)
        have kk : (nI p).toNatClampNeg = p := nI_clamp (by omega)
        rw [d39, if_pos b_f, e_Model_affix_74, mP_at, hIs, d39, Option.bind_some, if_pos b_f, mP_open, mP_text]
        cases q
        · rw [if_pos b_f, if_pos i1, kk, ht, m_special (by omega), Option.bind_some]
          cases hs : spc (T p)
          · rw [if_pos b_f, e_Model_affix_139, mP_open, if_pos b_f, mP_at, if_pos i1, mP_text, kk, ht]
            by_cases h37 : T p = 37
            · obtain ⟨el', es', z1, z2⟩ := m_177 h (f_Model_affix_22 m) p (by omega) hj (kp := kp) (w := w) (o := bB false) hK hcap (200 : Int32) 256 rfl
              rw [if_pos (show nI (T p) = 37 by rw [h37]; rfl), z1]
              exact next (p + 1) false 256 el' es' (by omega) (by omega) z2 ((if_neg hn).trans ((if_neg h39).trans ((if_neg (by decide)).trans ((if_neg (by rw [hs]; decide)).trans (by rw [if_pos h37])))))
            · have hm' : toM (T p) = T p := if_neg (by omega)
              obtain ⟨el', es', z1, z2⟩ := m_177 h (f_Model_affix_22 m) p (by omega) hj (kp := kp) (w := w) (o := bB false) hK hcap (nI (T p)) (T p) (by rw [hm'])
              rw [if_neg (nI_nel 37 37 rfl (by omega) (by decide) h37), e_Model_affix_168, mP_at, if_pos i1, mP_text, kk, ht, z1]
              exact next (p + 1) false (T p) el' es' (by omega) (by omega) z2 ((if_neg hn).trans ((if_neg h39).trans ((if_neg (by decide)).trans ((if_neg (by rw [hs]; decide)).trans (by rw [if_neg h37])))))
          · rw [if_neg b_t, show sAff T n (m + 1) p false (L j) = (p, false, L j) from (if_neg hn).trans ((if_neg h39).trans ((if_neg (by decide)).trans (if_pos hs)))]
            refine ⟨el, es, rfl, ?_⟩
            rw [updF_same]
            exact hK
        · have hm' : toM (T p) = T p := if_neg (by omega)
          obtain ⟨el', es', z1, z2⟩ := m_177 h (f_Model_affix_22 m) p (by omega) hj (kp := kp) (w := w) (o := bB true) hK hcap (nI (T p)) (T p) (by rw [hm'])
          rw [if_neg b_t, e_Model_affix_139, mP_open, if_neg b_t, e_Model_affix_168, mP_at, if_pos i1, mP_text, kk, ht, z1]
          exact next (p + 1) true (T p) el' es' (by omega) (by omega) z2 ((if_neg hn).trans ((if_neg h39).trans (if_pos rfl)))
