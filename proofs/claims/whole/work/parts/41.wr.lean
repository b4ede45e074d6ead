-- writing: both write the same list of characters
def mW (M : T_Model) (wr : Nat → Int32) (en : Int32) : T_Model := (M.1, M.2.1, wr, en, M.2.2.2.2)
def mo (wr : Nat → Int32) (O : List Nat) : Prop := ∀ (i : Nat) (h : i < O.length), wr i = nI O[i]
theorem i2c_n {c : Nat} (h : c < 65536) : i2c (nI c) = nI c := by
  show ((nI c).toUInt32 % 65536).toInt32 = nI c
  rw [pk_char, pk_tn (by omega), Nat.mod_eq_of_lt h]
theorem len1 (O : List Nat) (c : Nat) : (O ++ [c]).length = O.length + 1 := by rw [List.length_append]; rfl
theorem row_push {r : T_Row} {O : List Nat} (h : cAff r O) (hO : O.length < 120) (x : Int32) (c : Nat) (hx : x = nI c) (hc : c < 65536) : ∃ r', f_Row_add r x = some (1, r') ∧ cAff r' (O ++ [c]) := by
  obtain ⟨h1, h2, h3⟩ := h
  subst hx
  refine ⟨(upd r.1 O.length (nI c), nI (O.length + 1)), ?_, by rw [len1], by rw [len1]; omega, fun i hi => ?_⟩
  · rw [e_Row_add, h1, if_pos (li_lt 120 120 rfl hO (by decide)), if_pos (ixN hO (by decide)), nI_clamp (by omega), nar_c hc, nI_1]
  · show upd r.1 O.length (nI c) i = _
    rw [len1] at hi
    by_cases q : i < O.length
    · rw [pk_un (by omega), h3 i q, List.getElem_append_left q]
    · have q2 : i = O.length := by omega
      subst q2
      rw [pk_us]
      simp
theorem m_write {M : T_Model} {wr : Nat → Int32} {O : List Nat} (h : mo wr O) (hO : O.length < 200) (x : Int32) (c : Nat) (hx : x = nI c) (hc : c < 65536) : ∃ wr', f_Model_write (mW M wr (nI O.length)) x = some (mW M wr' (nI (O ++ [c]).length)) ∧ mo wr' (O ++ [c]) := by
  subst hx
  refine ⟨upd wr O.length (nI c), ?_, fun i hi => ?_⟩
  · rw [e_Model_write, show M_end (mW M wr (nI O.length)) = nI O.length from rfl, show M_written (mW M wr (nI O.length)) = wr from rfl, if_pos (ixN hO (by decide)), nI_clamp (by omega), i2c_n hc, nar_c hc, nI_1, len1]
    rfl
  · rw [len1] at hi
    by_cases q : i < O.length
    · rw [pk_un (by omega), h i q, List.getElem_append_left q]
    · have q2 : i = O.length := by omega
      subst q2
      rw [pk_us]
      simp
def prT (q : Bool) (e : Nat) : Bool := if q = true then decide (e = 256) else (decide (e = 37) || spc e)
def sh (e : Nat) : Nat := if e = 256 then 37 else e
def pr2 (e : Nat) : List Nat := (if e = 39 then [39] else []) ++ [sh e]
def prA : List Nat → Bool → List Nat
  | [], q => if q = true then [39] else []
  | e :: l, q => (if prT q e = true then [39] else []) ++ (pr2 e ++ prA l (if prT q e = true then !q else q))
theorem sh_lt {e : Nat} (h : e = 256 ∨ (32 ≤ e ∧ e ≤ 126)) : 32 ≤ sh e ∧ sh e ≤ 126 := by
  unfold sh
  split <;> omega
theorem prT_39 {q : Bool} : prT q 39 = false := by cases q <;> rfl
theorem prA_len : ∀ (l : List Nat) (q : Bool), (prA l q).length ≤ 2 * l.length + 1 := by
  intro l
  induction l with
  | nil => intro q; cases q <;> decide
  | cons e l ih =>
    intro q
    have h1 := ih (if prT q e = true then !q else q)
    show ((if prT q e = true then [39] else []) ++ (pr2 e ++ prA l (if prT q e = true then !q else q))).length ≤ 2 * (l.length + 1) + 1
    rw [List.length_append, List.length_append]
    unfold pr2
    rw [List.length_append]
    by_cases h39 : e = 39
    · subst h39
      rw [prT_39] at h1 ⊢
      have : ((if false = true then [39] else []) : List Nat).length = 0 := rfl
      have : ((if 39 = 39 then [39] else []) : List Nat).length = 1 := rfl
      have : ([sh 39] : List Nat).length = 1 := rfl
      omega
    · rw [if_neg h39]
      have : ([] : List Nat).length = 0 := rfl
      have : ([sh e] : List Nat).length = 1 := rfl
      have : ((if prT q e = true then [39] else []) : List Nat).length ≤ 1 := by split <;> decide
      omega
theorem prA_ok : ∀ (l : List Nat) (q : Bool), okL l → ∀ c ∈ prA l q, 32 ≤ c ∧ c ≤ 126 := by
  intro l
  induction l with
  | nil =>
    intro q _ c hc
    cases q
    · cases hc
    · rcases List.mem_singleton.mp hc with rfl; omega
  | cons e l ih =>
    intro q ho c hc
    have hc : c ∈ (if prT q e = true then [39] else []) ++ (pr2 e ++ prA l (if prT q e = true then !q else q)) := hc
    rcases List.mem_append.mp hc with hc | hc
    · split at hc
      · rcases List.mem_singleton.mp hc with rfl; omega
      · cases hc
    · rcases List.mem_append.mp hc with hc | hc
      · unfold pr2 at hc
        rcases List.mem_append.mp hc with hc | hc
        · split at hc
          · rcases List.mem_singleton.mp hc with rfl; omega
          · cases hc
        · rcases List.mem_singleton.mp hc with rfl
          exact sh_lt (ho e List.mem_cons_self)
      · exact ih _ (fun x hx => ho x (List.mem_cons_of_mem _ hx)) c hc
theorem c_needs {e : Nat} (h : e < 1000) : f_PatternWriter_needsQuotes (nI e) = some (bB (decide (e = 37) || spc e)) := by
  rw [e_PatternWriter_needsQuotes]
  by_cases c : e = 37
  · subst c; rfl
  · rw [if_neg (nI_nel 37 37 rfl h (by decide) c), c_special h, Option.bind_some, decide_eq_false c]
    cases spc e
    · rfl
    · rfl
theorem c_62 {pw : T_PatternWriter} {a : T_Affix} {l : List Nat} (ha : cAff a l) (ho : okL l) (K : T_Row → Int32 → Int32 → Option O_PatternWriter_writeAffix) (k : Nat) (hk : k < l.length) (q : Bool) {r : T_Row} {O : List Nat} (hr : cAff r O) (hO : O.length + (pr2 l[k]).length ≤ 120) :
    ∃ r', f_PatternWriter_writeAffix_62 pw a K r (bB q) (nI k) (nI l[k]) = K r' (bB q) (nI (k + 1)) ∧ cAff r' (O ++ pr2 l[k]) := by
  have o1 := okL_lt ho hk
  have o2 := sh_lt o1
  have e76 : ∀ {r : T_Row} {O : List Nat}, cAff r O → O.length < 120 → ∃ r', f_PatternWriter_writeAffix_76 pw a K r (bB q) (nI k) = K r' (bB q) (nI (k + 1)) ∧ cAff r' (O ++ [sh l[k]]) := by
    intro r O hr hO
    have s1 : f_Affix_shownAt a (nI k) = some (nI (sh l[k])) := by
      rw [e_Affix_shownAt, aff_at ha k hk, Option.bind_some]
      unfold sh
      by_cases e : l[k] = 256
      · rw [if_pos (show nI l[k] = 256 by rw [e]; rfl), if_pos e]; rfl
      · rw [if_neg (nI_nel 256 256 rfl (by omega) (by decide) e), if_neg e]; rfl
    obtain ⟨r', p1, p2⟩ := row_push hr hO (i2c (nI (sh l[k]))) (sh l[k]) (i2c_n (by omega)) (by omega)
    refine ⟨r', ?_, p2⟩
    rw [e_PatternWriter_writeAffix_76, s1, Option.bind_some, p1, Option.bind_some, nI_1]
  rw [e_PatternWriter_writeAffix_62]
  unfold pr2 at hO ⊢
  by_cases h39 : l[k] = 39
  · rw [if_pos h39] at hO ⊢
    have hO' : O.length + 2 ≤ 120 := by rw [List.length_append] at hO; exact hO
    obtain ⟨r1, p1, p2⟩ := row_push hr (by omega) (39 : Int32) 39 rfl (by decide)
    obtain ⟨r2, p3, p4⟩ := e76 p2 (by rw [len1]; omega)
    rw [if_pos (show nI l[k] = 39 by rw [h39]; rfl), p1, Option.bind_some]
    exact ⟨r2, p3, by rw [← List.append_assoc]; exact p4⟩
  · rw [if_neg h39] at hO ⊢
    have hO' : O.length + 1 ≤ 120 := by rw [List.length_append] at hO; exact hO
    rw [if_neg (nI_nel 39 39 rfl (by omega) (by decide) h39), List.nil_append]
    exact e76 hr (by omega)
theorem c_wAff {pw : T_PatternWriter} {a : T_Affix} {l : List Nat} (ha : cAff a l) (ho : okL l) : ∀ (m k : Nat) (q : Bool) (r : T_Row) (O : List Nat), l.length - k < m → k ≤ l.length → cAff r O → O.length + (prA (l.drop k) q).length ≤ 120 →
    ∃ r', f_PatternWriter_writeAffix_5 pw a m r (bB q) (nI k) = some r' ∧ cAff r' (O ++ prA (l.drop k) q) := by
  have hl := ha.2.1
  intro m
  induction m with
  | zero => intro k q r O hm; omega
  | succ m ih =>
    intro k q r O hm hk hr hO
    rw [e_PatternWriter_writeAffix_5, show f_Affix_size a = some (nI l.length) from congrArg some ha.1, Option.bind_some]
    by_cases c : k = l.length
    · subst c
      rw [List.drop_length] at hO ⊢
      rw [if_pos (nI_le (Nat.le_refl _) (by omega))]
      cases q
      · exact ⟨r, rfl, by rw [show prA [] false = [] from rfl, List.append_nil]; exact hr⟩
      · obtain ⟨r', p1, p2⟩ := row_push hr (by have : O.length + 1 ≤ 120 := hO; omega) (39 : Int32) 39 rfl (by decide)
        rw [if_neg b_t, p1, Option.bind_some]
        exact ⟨r', rfl, p2⟩
    · have hk' : k < l.length := by omega
      have o1 := okL_lt ho hk'
      have hd : l.drop k = l[k] :: l.drop (k + 1) := List.drop_eq_getElem_cons hk'
      have hP : prA (l.drop k) q = (if prT q l[k] = true then [39] else []) ++ (pr2 l[k] ++ prA (l.drop (k + 1)) (if prT q l[k] = true then !q else q)) := by rw [hd]; rfl
      rw [hP] at hO ⊢
      rw [if_neg (nI_ge hk' (by omega)), aff_at ha k hk', Option.bind_some]
      have plain : prT q l[k] = false → ∃ r', f_PatternWriter_writeAffix_62 pw a (f_PatternWriter_writeAffix_5 pw a m) r (bB q) (nI k) (nI l[k]) = some r' ∧ cAff r' (O ++ ((if prT q l[k] = true then [39] else []) ++ (pr2 l[k] ++ prA (l.drop (k + 1)) (if prT q l[k] = true then !q else q)))) := by
        intro hT
        rw [hT, ib_f, ib_f] at hO ⊢
        rw [List.nil_append] at hO ⊢
        rw [List.length_append] at hO
        obtain ⟨r1, p1, p2⟩ := c_62 (pw := pw) ha ho (f_PatternWriter_writeAffix_5 pw a m) k hk' q hr (by omega)
        obtain ⟨r2, p3, p4⟩ := ih (k + 1) q r1 (O ++ pr2 l[k]) (by omega) (by omega) p2 (by rw [List.length_append]; omega)
        exact ⟨r2, by rw [p1]; exact p3, by rw [← List.append_assoc]; exact p4⟩
      have quote : prT q l[k] = true → ∃ r', f_PatternWriter_writeAffix_45 pw a (f_PatternWriter_writeAffix_5 pw a m) r (bB q) (nI k) (nI l[k]) = some r' ∧ cAff r' (O ++ ((if prT q l[k] = true then [39] else []) ++ (pr2 l[k] ++ prA (l.drop (k + 1)) (if prT q l[k] = true then !q else q)))) := by
        intro hT
        rw [hT, ib_t, ib_t] at hO ⊢
        rw [List.length_append, List.length_append] at hO
        have h1 : ([39] : List Nat).length = 1 := rfl
        obtain ⟨r1, p1, p2⟩ := row_push hr (by omega) (39 : Int32) 39 rfl (by decide)
        obtain ⟨r2, p3, p4⟩ := c_62 (pw := pw) ha ho (f_PatternWriter_writeAffix_5 pw a m) k hk' (!q) p2 (by rw [len1]; omega)
        obtain ⟨r3, p5, p6⟩ := ih (k + 1) (!q) r2 (O ++ [39] ++ pr2 l[k]) (by omega) (by omega) p4 (by rw [List.length_append, len1]; omega)
        refine ⟨r3, ?_, by rw [← List.append_assoc, ← List.append_assoc]; exact p6⟩
        rw [e_PatternWriter_writeAffix_45, p1, Option.bind_some]
        cases q
        · rw [if_pos b_f, e_PatternWriter_writeAffix_61]; exact p3.trans p5
        · rw [if_neg b_t, e_PatternWriter_writeAffix_61]; exact p3.trans p5
      cases q
      · rw [if_pos b_f, c_needs (by omega), Option.bind_some]
        have hT : prT false l[k] = (decide (l[k] = 37) || spc l[k]) := rfl
        cases hb : (decide (l[k] = 37) || spc l[k])
        · rw [if_pos b_f]; exact plain (hT.trans hb)
        · rw [if_neg b_t]; exact quote (hT.trans hb)
      · rw [if_neg b_t]
        by_cases e : l[k] = 256
        · rw [if_pos (show nI l[k] = 256 by rw [e]; rfl)]; exact quote (decide_eq_true e)
        · rw [if_neg (nI_nel 256 256 rfl (by omega) (by decide) e)]; exact plain (decide_eq_false e)
