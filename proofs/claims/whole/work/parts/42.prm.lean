-- printing, the reference's side
section MWF
variable (M : T_Model) (wr : Nat → Int32) (en : Int32)
theorem mW_element : M_element (mW M wr en) = M_element M := rfl
theorem mW_elements : M_elements (mW M wr en) = M_elements M := rfl
theorem mW_kept : M_kept (mW M wr en) = M_kept M := rfl
theorem mW_end : M_end (mW M wr en) = en := rfl
end MWF
theorem pm_99 {M : T_Model} {e : Nat} (he : e = 256 ∨ (32 ≤ e ∧ e ≤ 126)) (K : T_Model → Int32 → Int32 → Int32 → Option O_Model_printAffix) (k : Nat) (q j : Int32) {wr : Nat → Int32} {O : List Nat} (hw : mo wr O) (hO : O.length + (pr2 e).length ≤ 200) :
    ∃ wr', f_Model_printAffix_86 K (mW M wr (nI O.length)) j q (nI k) (nI (toM e)) = K (mW M wr' (nI (O ++ pr2 e).length)) j q (nI (k + 1)) ∧ mo wr' (O ++ pr2 e) := by
  have o2 := sh_lt he
  have e99 : ∀ {wr : Nat → Int32} {O : List Nat}, mo wr O → O.length < 200 → ∃ wr', f_Model_printAffix_99 K (mW M wr (nI O.length)) j q (nI k) (nI (toM e)) = K (mW M wr' (nI (O ++ [sh e]).length)) j q (nI (k + 1)) ∧ mo wr' (O ++ [sh e]) := by
    intro wr O hw hO
    rw [e_Model_printAffix_99]
    by_cases c : e = 256
    · have hs : sh e = 37 := if_pos c
      obtain ⟨wr', p1, p2⟩ := m_write (M := M) hw hO (37 : Int32) 37 rfl (by decide)
      rw [if_pos (show nI (toM e) = 200 by rw [c]; rfl), e_Model_printAffix_115, p1, Option.bind_some, nI_1, hs]
      exact ⟨wr', rfl, p2⟩
    · have hs : sh e = e := if_neg c
      have hm : toM e = e := if_neg c
      obtain ⟨wr', p1, p2⟩ := m_write (M := M) hw hO (nI e) e rfl (by omega)
      rw [hm, if_neg (nI_nel 200 200 rfl (by omega) (by decide) (by omega)), e_Model_printAffix_115, p1, Option.bind_some, nI_1, hs]
      exact ⟨wr', rfl, p2⟩
  rw [e_Model_printAffix_86]
  unfold pr2 at hO ⊢
  by_cases h39 : e = 39
  · rw [if_pos h39] at hO ⊢
    have hO' : O.length + 2 ≤ 200 := by rw [List.length_append] at hO; exact hO
    obtain ⟨w1, p1, p2⟩ := m_write (M := M) hw (by omega) (39 : Int32) 39 rfl (by decide)
    obtain ⟨w2, p3, p4⟩ := e99 p2 (by rw [len1]; omega)
    rw [if_pos (show nI (toM e) = 39 by rw [h39]; rfl), p1, Option.bind_some]
    rw [← List.append_assoc]
    exact ⟨w2, p3, p4⟩
  · rw [if_neg h39] at hO ⊢
    have hO' : O.length + 1 ≤ 200 := by rw [List.length_append] at hO; exact hO
    have ht : ¬ toM e = 39 := by unfold toM; split <;> omega
    have hlt : toM e < 1000 := by unfold toM; split <;> omega
    rw [if_neg (nI_nel 39 39 rfl hlt (by decide) ht), List.nil_append]
    exact e99 hw (by omega)
theorem pm_aff {M : T_Model} {j : Nat} {l : List Nat} (hj : j < 4) (ha : mAff (M_element M) (M_elements M) j l) (ho : okL l) : ∀ (m k : Nat) (q : Bool) (wr : Nat → Int32) (O : List Nat), l.length - k < m → k ≤ l.length → mo wr O → O.length + (prA (l.drop k) q).length ≤ 200 →
    ∃ wr', f_Model_printAffix_4 m (mW M wr (nI O.length)) (nI j) (bB q) (nI k) = some (mW M wr' (nI (O ++ prA (l.drop k) q).length)) ∧ mo wr' (O ++ prA (l.drop k) q) := by
  obtain ⟨h1, h2, h3⟩ := ha
  intro m
  induction m with
  | zero => intro k q wr O hm; omega
  | succ m ih =>
    intro k q wr O hm hk hw hO
    rw [e_Model_printAffix_4, if_pos (ixN hj (by decide)), mW_elements, nI_clamp (by omega), h1]
    by_cases c : k = l.length
    · subst c
      rw [List.drop_length] at hO ⊢
      rw [if_pos (nI_le (Nat.le_refl _) (by omega))]
      cases q
      · rw [show prA [] false = [] from rfl, List.append_nil]
        exact ⟨wr, rfl, hw⟩
      · obtain ⟨w1, p1, p2⟩ := m_write (M := M) hw (by have : O.length + 1 ≤ 200 := hO; omega) (39 : Int32) 39 rfl (by decide)
        rw [if_neg b_t, p1, Option.bind_some]
        exact ⟨w1, rfl, p2⟩
    · have hk' : k < l.length := by omega
      have o1 := okL_lt ho hk'
      have hd : l.drop k = l[k] :: l.drop (k + 1) := List.drop_eq_getElem_cons hk'
      have hP : prA (l.drop k) q = (if prT q l[k] = true then [39] else []) ++ (pr2 l[k] ++ prA (l.drop (k + 1)) (if prT q l[k] = true then !q else q)) := by rw [hd]; rfl
      rw [hP] at hO ⊢
      have hlt : toM l[k] < 1000 := by unfold toM; split <;> omega
      have q40 : (40 : Int32) * nI j + nI k = nI (40 * j + k) := by rw [show (40 : Int32) * nI j = nI (40 * j) from pk_mul 40 j, nI_add]
      rw [if_neg (nI_ge hk' (by omega)), q40, if_pos (ixN (by omega) (by decide)), mW_element, nI_clamp (by omega), h3 k hk', m_special hlt, Option.bind_some]
      have plain : prT q l[k] = false → ∃ wr', f_Model_printAffix_86 (f_Model_printAffix_4 m) (mW M wr (nI O.length)) (nI j) (bB q) (nI k) (nI (toM l[k])) = some (mW M wr' (nI (O ++ ((if prT q l[k] = true then [39] else []) ++ (pr2 l[k] ++ prA (l.drop (k + 1)) (if prT q l[k] = true then !q else q)))).length)) ∧ mo wr' (O ++ ((if prT q l[k] = true then [39] else []) ++ (pr2 l[k] ++ prA (l.drop (k + 1)) (if prT q l[k] = true then !q else q)))) := by
        intro hT
        rw [hT, ib_f, ib_f] at hO ⊢
        rw [List.nil_append] at hO ⊢
        rw [List.length_append] at hO
        obtain ⟨w1, p1, p2⟩ := pm_99 (M := M) o1 (f_Model_printAffix_4 m) k (bB q) (nI j) hw (by omega)
        obtain ⟨w2, p3, p4⟩ := ih (k + 1) q w1 (O ++ pr2 l[k]) (by omega) (by omega) p2 (by rw [List.length_append]; omega)
        rw [← List.append_assoc, p1]
        exact ⟨w2, p3, p4⟩
      have quote : prT q l[k] = true → ∃ wr', f_Model_printAffix_70 (f_Model_printAffix_4 m) (mW M wr (nI O.length)) (nI j) (bB q) (nI k) (nI (toM l[k])) = some (mW M wr' (nI (O ++ ((if prT q l[k] = true then [39] else []) ++ (pr2 l[k] ++ prA (l.drop (k + 1)) (if prT q l[k] = true then !q else q)))).length)) ∧ mo wr' (O ++ ((if prT q l[k] = true then [39] else []) ++ (pr2 l[k] ++ prA (l.drop (k + 1)) (if prT q l[k] = true then !q else q)))) := by
        intro hT
        rw [hT, ib_t, ib_t] at hO ⊢
        rw [List.length_append, List.length_append] at hO
        have hl1 : ([39] : List Nat).length = 1 := rfl
        obtain ⟨w1, p1, p2⟩ := m_write (M := M) hw (by omega) (39 : Int32) 39 rfl (by decide)
        obtain ⟨w2, p3, p4⟩ := pm_99 (M := M) o1 (f_Model_printAffix_4 m) k (bB (!q)) (nI j) p2 (by rw [len1]; omega)
        obtain ⟨w3, p5, p6⟩ := ih (k + 1) (!q) w2 (O ++ [39] ++ pr2 l[k]) (by omega) (by omega) p4 (by rw [List.length_append, len1]; omega)
        rw [← List.append_assoc, ← List.append_assoc, e_Model_printAffix_70, p1, Option.bind_some]
        refine ⟨w3, ?_, p6⟩
        cases q
        · rw [if_pos b_f, e_Model_printAffix_85]; exact p3.trans p5
        · rw [if_neg b_t, e_Model_printAffix_85]; exact p3.trans p5
      have e58 : prT q l[k] = false ∨ (q = true) → ∃ wr', f_Model_printAffix_58 (f_Model_printAffix_4 m) (mW M wr (nI O.length)) (nI j) (bB q) (nI k) (nI (toM l[k])) = some (mW M wr' (nI (O ++ ((if prT q l[k] = true then [39] else []) ++ (pr2 l[k] ++ prA (l.drop (k + 1)) (if prT q l[k] = true then !q else q)))).length)) ∧ mo wr' (O ++ ((if prT q l[k] = true then [39] else []) ++ (pr2 l[k] ++ prA (l.drop (k + 1)) (if prT q l[k] = true then !q else q)))) := by
        intro hh
        rw [e_Model_printAffix_58]
        by_cases e : l[k] = 256
        · rw [if_pos (show nI (toM l[k]) = 200 by rw [e]; rfl)]
          cases q
          · rw [if_pos b_f]
            exact plain (hh.elim id (fun z => by cases z))
          · rw [if_neg b_t]
            exact quote (decide_eq_true e)
        · have hm : toM l[k] = l[k] := if_neg e
          rw [if_neg (show ¬ nI (toM l[k]) = 200 by rw [hm]; exact nI_nel 200 200 rfl (by omega) (by decide) (by omega))]
          refine plain (hh.elim id (fun z => ?_))
          subst z
          exact decide_eq_false e
      have e47 : ∀ (b : Bool), b = (decide (l[k] = 37) || spc l[k]) → ∃ wr', f_Model_printAffix_47 (f_Model_printAffix_4 m) (mW M wr (nI O.length)) (nI j) (bB q) (nI k) (nI (toM l[k])) (bB b) = some (mW M wr' (nI (O ++ ((if prT q l[k] = true then [39] else []) ++ (pr2 l[k] ++ prA (l.drop (k + 1)) (if prT q l[k] = true then !q else q)))).length)) ∧ mo wr' (O ++ ((if prT q l[k] = true then [39] else []) ++ (pr2 l[k] ++ prA (l.drop (k + 1)) (if prT q l[k] = true then !q else q)))) := by
        intro b hb
        rw [e_Model_printAffix_47]
        cases b
        · rw [if_pos b_f]
          refine e58 ?_
          cases q
          · exact Or.inl hb.symm
          · exact Or.inr rfl
        · rw [if_neg b_t]
          cases q
          · rw [if_pos b_f]
            exact quote hb.symm
          · rw [if_neg b_t]
            exact e58 (Or.inr rfl)
      have hsp : spc (toM l[k]) = spc l[k] := by
        by_cases e : l[k] = 256
        · rw [e]; rfl
        · rw [show toM l[k] = l[k] from if_neg e]
      have h37 : toM l[k] = 37 ↔ l[k] = 37 := by unfold toM; split <;> omega
      rw [hsp]
      cases hs : spc l[k]
      · rw [if_pos b_f]
        by_cases e : l[k] = 37
        · rw [if_pos (show nI (toM l[k]) = 37 by rw [h37.mpr e]; rfl), e_Model_printAffix_42]
          exact e47 true (by rw [decide_eq_true e]; rfl)
        · rw [if_neg (nI_nel 37 37 rfl hlt (by decide) (fun z => e (h37.mp z)))]
          exact e47 false (by rw [decide_eq_false e, hs]; rfl)
      · rw [if_neg b_t, e_Model_printAffix_42]
        exact e47 true (by rw [hs, Bool.or_true])
theorem c_prA {pw : T_PatternWriter} {a : T_Affix} {l : List Nat} (ha : cAff a l) (ho : okL l) {r : T_Row} {O : List Nat} (hr : cAff r O) (hO : O.length + (2 * l.length + 1) ≤ 120) : ∃ r', f_PatternWriter_writeAffix pw a r = some r' ∧ cAff r' (O ++ prA l false) := by
  have h1 := ha.2.1
  have h2 := prA_len l false
  exact c_wAff ha ho FU 0 false r O (by rw [FU_val]; omega) (Nat.zero_le _) hr (by show O.length + (prA l false).length ≤ 120; omega)
theorem m_prA {M : T_Model} {j : Nat} {l : List Nat} (hj : j < 4) (ha : mAff (M_element M) (M_elements M) j l) (ho : okL l) {wr : Nat → Int32} {O : List Nat} (hw : mo wr O) (hO : O.length + (2 * l.length + 1) ≤ 120) (x : Int32) (hx : x = nI j) : ∃ wr', f_Model_printAffix (mW M wr (nI O.length)) x = some (mW M wr' (nI (O ++ prA l false).length)) ∧ mo wr' (O ++ prA l false) := by
  subst hx
  have h1 := ha.2.1
  have h2 := prA_len l false
  exact pm_aff hj ha ho FU 0 false wr O (by rw [FU_val]; omega) (Nat.zero_le _) hw (by show O.length + (prA l false).length ≤ 200; omega)
