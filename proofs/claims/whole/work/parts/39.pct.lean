-- percent signs; the second part where none was given
theorem aff_at {a : T_Affix} {l : List Nat} (h : cAff a l) (k : Nat) (hk : k < l.length) : f_Affix_at a (nI k) = some (nI l[k]) := by
  obtain ⟨h1, h2, h3⟩ := h
  have c0 : ¬ nI k < 0 := nI_pos (by omega)
  have c1 : ¬ a.2 ≤ nI k := by rw [h1]; exact nI_ge hk (by omega)
  rw [show f_Affix_at a (nI k) = some (a.1 (nI k).toNatClampNeg) from (if_neg c0).trans ((if_neg c1).trans (if_pos (ixN (by omega) (by decide)))), nI_clamp (by omega), h3 k hk]
theorem aff_atN {a : T_Affix} {l : List Nat} (h : cAff a l) (k : Nat) (hk : l.length ≤ k) (hk2 : k < 2 ^ 30) : f_Affix_at a (nI k) = some (-1) := by
  have c0 : ¬ nI k < 0 := nI_pos (by omega)
  have c1 : a.2 ≤ nI k := by rw [h.1]; exact nI_le hk (by omega)
  exact (if_neg c0).trans (if_pos c1)
theorem okL_lt {l : List Nat} (h : okL l) {k : Nat} (hk : k < l.length) : l[k] = 256 ∨ (32 ≤ l[k] ∧ l[k] ≤ 126) := h _ (List.getElem_mem hk)
theorem c_pct {a : T_Affix} {l : List Nat} (h : cAff a l) (ho : okL l) : ∀ (m k : Nat), l.length - k < m → k ≤ l.length → f_Affix_hasPercent_2 a m (nI k) = some (bB (decide (256 ∈ l.drop k))) := by
  have hl := h.2.1
  intro m
  induction m with
  | zero => intro k hm; omega
  | succ m ih =>
    intro k hm hk
    rw [e_Affix_hasPercent_2, h.1]
    by_cases c : k = l.length
    · subst c
      rw [if_pos (nI_le (Nat.le_refl _) (by omega)), List.drop_length]
      rfl
    · have hk' : k < l.length := by omega
      have o1 := okL_lt ho hk'
      have hd : l.drop k = l[k] :: l.drop (k + 1) := List.drop_eq_getElem_cons hk'
      rw [if_neg (nI_ge hk' (by omega)), if_pos (ixN (by omega) (by decide)), nI_clamp (by omega), h.2.2 k hk']
      by_cases e : l[k] = 256
      · rw [if_pos (show nI l[k] = 256 by rw [e]; rfl), decide_eq_true (show 256 ∈ l.drop k by rw [hd, e]; exact List.mem_cons_self)]
        rfl
      · rw [if_neg (nI_nel 256 256 rfl (by omega) (by decide) e), nI_1, ih (k + 1) (by omega) (by omega)]
        have : (256 ∈ l.drop k) ↔ (256 ∈ l.drop (k + 1)) := by
          rw [hd]
          exact ⟨fun z => (List.mem_cons.mp z).elim (fun q => absurd q.symm e) id, fun z => List.mem_cons_of_mem _ z⟩
        rw [decide_eq_decide.mpr this]
theorem c_hasPct {a : T_Affix} {l : List Nat} (h : cAff a l) (ho : okL l) : f_Affix_hasPercent a = some (bB (decide (256 ∈ l))) := by
  have := h.2.1
  exact c_pct h ho FU 0 (by rw [FU_val]; omega) (Nat.zero_le _)
theorem m_pct {M : T_Model} {j : Nat} {l : List Nat} (hj : j < 4) (h : mAff (M_element M) (M_elements M) j l) (ho : okL l) : ∀ (m k : Nat) (f : Bool), l.length - k < m → k ≤ l.length → f_Model_hasPercent_4 M m (nI j) (bB f) (nI k) = some (bB (f || decide (256 ∈ l.drop k))) := by
  obtain ⟨h1, h2, h3⟩ := h
  intro m
  induction m with
  | zero => intro k f hm; omega
  | succ m ih =>
    intro k f hm hk
    rw [e_Model_hasPercent_4, if_pos (ixN hj (by decide)), nI_clamp (by omega), h1]
    by_cases c : k = l.length
    · subst c
      rw [if_pos (nI_le (Nat.le_refl _) (by omega)), if_pos (bB_01 f), List.drop_length]
      cases f <;> rfl
    · have hk' : k < l.length := by omega
      have o1 := okL_lt ho hk'
      have hd : l.drop k = l[k] :: l.drop (k + 1) := List.drop_eq_getElem_cons hk'
      have q : (40 : Int32) * nI j + nI k = nI (40 * j + k) := by rw [show (40 : Int32) * nI j = nI (40 * j) from pk_mul 40 j, nI_add]
      rw [if_neg (nI_ge hk' (by omega))]
      cases f
      · rw [if_pos b_f, q, if_pos (ixN (by omega) (by decide)), nI_clamp (by omega), h3 k hk']
        by_cases e : l[k] = 256
        · have : decide (256 ∈ l.drop k) = true := decide_eq_true (by rw [hd, e]; exact List.mem_cons_self)
          rw [if_pos (show nI (toM l[k]) = 200 by rw [e]; rfl), e_Model_hasPercent_35, e_Model_hasPercent_40, nI_1, this]
          exact ih (k + 1) true (by omega) (by omega)
        · have hm' : toM l[k] = l[k] := if_neg e
          have : (256 ∈ l.drop k) ↔ (256 ∈ l.drop (k + 1)) := by
            rw [hd]
            exact ⟨fun z => (List.mem_cons.mp z).elim (fun q => absurd q.symm e) id, fun z => List.mem_cons_of_mem _ z⟩
          rw [hm', if_neg (nI_nel 200 200 rfl (by omega) (by decide) (by omega)), e_Model_hasPercent_40, nI_1, decide_eq_decide.mpr this]
          exact ih (k + 1) false (by omega) (by omega)
      · rw [if_neg b_t, e_Model_hasPercent_35, e_Model_hasPercent_40, nI_1]
        exact ih (k + 1) true (by omega) (by omega)
theorem m_hasPct {M : T_Model} {j : Nat} {l : List Nat} (hj : j < 4) (h : mAff (M_element M) (M_elements M) j l) (ho : okL l) (x : Int32) (hx : x = nI j) : f_Model_hasPercent M x = some (bB (decide (256 ∈ l))) := by
  subst hx
  have := h.2.1
  exact m_pct hj h ho FU 0 false (by rw [FU_val]; omega) (Nat.zero_le _)
theorem c_addAll {b : T_Affix} {l2 : List Nat} (hb : cAff b l2) : ∀ (m k : Nat) (a : T_Affix) (l : List Nat), l2.length - k < m → k ≤ l2.length → l.length + l2.length ≤ 120 → cAff a (l ++ l2.take k) → ∃ a', f_Affix_addAll_2 b m a (nI k) = some a' ∧ cAff a' (l ++ l2) := by
  have h2 := hb.2.1
  intro m
  induction m with
  | zero => intro k a l hm; omega
  | succ m ih =>
    intro k a l hm hk hs ha
    rw [e_Affix_addAll_2, hb.1]
    by_cases c : k = l2.length
    · subst c
      rw [if_pos (nI_le (Nat.le_refl _) (by omega))]
      rw [List.take_length] at ha
      exact ⟨a, rfl, ha⟩
    · have hk' : k < l2.length := by omega
      obtain ⟨a', e1, e2⟩ := aff_add ha (by rw [List.length_append, List.length_take]; omega) l2[k] (nI l2[k]) rfl
      rw [if_neg (nI_ge hk' (by omega)), aff_at hb k hk', Option.bind_some, e1, Option.bind_some, nI_1]
      refine ih (k + 1) a' l (by omega) (by omega) hs ?_
      rw [List.take_succ_eq_append_getElem hk', ← List.append_assoc]
      exact e2
theorem c_addA {a b : T_Affix} {l l2 : List Nat} (ha : cAff a l) (hb : cAff b l2) (hs : l.length + l2.length ≤ 120) : ∃ a', f_Affix_addAll a b = some a' ∧ cAff a' (l ++ l2) := by
  have := hb.2.1
  exact c_addAll hb FU 0 a l (by rw [FU_val]; omega) (Nat.zero_le _) hs (by rw [List.take_zero, List.append_nil]; exact ha)
theorem aff_nil (a : T_Affix) : cAff (a.1, (0 : Int32)) [] := ⟨rfl, by show 0 ≤ 120; omega, fun i hi => absurd hi (Nat.not_lt_zero i)⟩
theorem c_complete {P : T_Pattern} {p0 s0 : List Nat} {sec : Bool} (h0 : cAff P.1.1 p0) (h1 : cAff P.1.2.2 s0) (o0 : okL p0) (o1 : okL s0) (hs : P_hasSecond P = bB sec) (hl : p0.length + s0.length ≤ 100) :
    ∃ P', f_Pattern_complete P = some P' ∧ P'.1 = P.1 ∧ P_hasSecond P' = bB sec ∧ P_hasPercent P' = bB (decide (256 ∈ p0) || decide (256 ∈ s0)) ∧ (sec = true → P'.2.1 = P.2.1) ∧ (sec = false → cAff P'.2.1.1 (45 :: p0) ∧ cAff P'.2.1.2.2 s0) := by
  have e32 : ∀ (x : Bool), ∃ P', f_Pattern_complete_32 P (bB x) = some P' ∧ P'.1 = P.1 ∧ P_hasSecond P' = bB sec ∧ P_hasPercent P' = bB x ∧ (sec = true → P'.2.1 = P.2.1) ∧ (sec = false → cAff P'.2.1.1 (45 :: p0) ∧ cAff P'.2.1.2.2 s0) := by
    intro x
    rw [e_Pattern_complete_32, if_pos (bB_01 x), hs]
    cases sec
    · obtain ⟨a1, e1, e2⟩ := aff_add (aff_nil (Q_prefix (P_second P))) (by show 0 < 120; omega) 45 (45 : Int32) rfl
      obtain ⟨a2, e3, e4⟩ := c_addA e2 h0 (by show 1 + p0.length ≤ 120; omega)
      obtain ⟨a3, e5, e6⟩ := c_addA (aff_nil (Q_suffix (P_second P))) h1 (by show 0 + s0.length ≤ 120; omega)
      rw [if_pos b_f, show f_Affix_clear (Q_prefix (P_second P)) = some ((Q_prefix (P_second P)).1, (0 : Int32)) from rfl, Option.bind_some, e1, Option.bind_some]
      rw [show f_Affix_addAll a1 (Q_prefix (P_first P)) = some a2 from e3, Option.bind_some, show f_Affix_clear (Q_suffix (P_second P)) = some ((Q_suffix (P_second P)).1, (0 : Int32)) from rfl, Option.bind_some]
      rw [show f_Affix_addAll ((Q_suffix (P_second P)).1, (0 : Int32)) (Q_suffix (P_first P)) = some a3 from e5, Option.bind_some]
      exact ⟨_, rfl, rfl, hs, rfl, (fun z => by cases z), fun _ => ⟨e4, e6⟩⟩
    · rw [if_neg b_t]
      exact ⟨_, rfl, rfl, hs, rfl, fun _ => rfl, fun z => by cases z⟩
  rw [e_Pattern_complete]
  rw [show f_Affix_hasPercent (Q_prefix (P_first P)) = _ from c_hasPct h0 o0, Option.bind_some]
  cases c0 : decide (256 ∈ p0)
  · rw [if_pos b_f]
    rw [show f_Affix_hasPercent (Q_suffix (P_first P)) = _ from c_hasPct h1 o1, Option.bind_some]
    cases c1 : decide (256 ∈ s0)
    · rw [if_pos b_f]; exact e32 false
    · rw [if_neg b_t]; exact e32 true
  · rw [if_neg b_t]; exact e32 true
