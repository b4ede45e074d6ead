-- texts as numbers; reading affixes
def TX (T : Nat → Nat) (n : Nat) (t : Nat → Int32) : Prop := ∀ i, i < n → t i = nI (T i) ∧ 32 ≤ T i ∧ T i ≤ 126
def RowOf (v : T_Row) (T : Nat → Nat) (n : Nat) : Prop := v.2 = nI n ∧ n ≤ 120 ∧ TX T n v.1
def ModOf (M : T_Model) (T : Nat → Nat) (n : Nat) : Prop := M_size M = nI n ∧ n ≤ 120 ∧ TX T n (M_text M)
def bB (b : Bool) : Int32 := if b = true then 1 else 0
theorem bB_01 (b : Bool) : bB b = 0 ∨ bB b = 1 := by cases b <;> simp [bB]
theorem b_f : bB false = 0 := rfl
theorem b_t : ¬ bB true = 0 := by decide
theorem bB_0 {b : Bool} : bB b = 0 ↔ b = false := by cases b <;> decide
theorem nI_nel {c : Nat} (x : Int32) (d : Nat) (hx : x = nI d) (hc : c < 1000) (hd : d < 1000) (h : ¬ c = d) : ¬ nI c = x := by
  subst hx
  exact fun q => h ((nI_eq (by omega) (by omega)).mp q)
theorem li_le (x : Int32) (d : Nat) (hx : x = nI d) {k : Nat} (h : d ≤ k) (hk : k < 2 ^ 31) : x ≤ nI k := by subst hx; exact nI_le h hk
theorem li_nle (x : Int32) (d : Nat) (hx : x = nI d) {k : Nat} (h : k < d) (hk : d < 2 ^ 31) : ¬ x ≤ nI k := by subst hx; exact nI_ge h hk
theorem li_ge (x : Int32) (d : Nat) (hx : x = nI d) {k : Nat} (h : k ≤ d) (hk : d < 2 ^ 31) : nI k ≤ x := by subst hx; exact nI_le h hk
theorem li_nge (x : Int32) (d : Nat) (hx : x = nI d) {k : Nat} (h : d < k) (hk : k < 2 ^ 31) : ¬ nI k ≤ x := by subst hx; exact nI_ge h hk
theorem li_lt (x : Int32) (d : Nat) (hx : x = nI d) {k : Nat} (h : k < d) (hk : d < 2 ^ 31) : nI k < x := by subst hx; exact nI_lt h hk
theorem li_nlt (x : Int32) (d : Nat) (hx : x = nI d) {k : Nat} (h : d ≤ k) (hk : k < 2 ^ 31) : ¬ nI k < x := by subst hx; exact nI_nlt h hk
theorem li_gt (x : Int32) (d : Nat) (hx : x = nI d) {k : Nat} (h : d < k) (hk : k < 2 ^ 31) : x < nI k := by subst hx; exact nI_lt h hk
theorem li_ngt (x : Int32) (d : Nat) (hx : x = nI d) {k : Nat} (h : k ≤ d) (hk : d < 2 ^ 31) : ¬ x < nI k := by subst hx; exact nI_nlt h hk
theorem li_eq (x : Int32) (d : Nat) (hx : x = nI d) {k : Nat} (hk : k < 2 ^ 31) (hd : d < 2 ^ 31) : nI k = x ↔ k = d := by subst hx; exact nI_eq hk hd
def chA (T : Nat → Nat) (n k : Nat) : Int32 := if k < n then nI (T k) else -1
theorem row_at {v : T_Row} {T : Nat → Nat} {n : Nat} (h : RowOf v T n) (k : Nat) (hk : k < 2 ^ 30) : f_Row_at v (nI k) = some (chA T n k) := by
  obtain ⟨h1, h2, h3⟩ := h
  have c0 : ¬ nI k < 0 := nI_pos (by omega)
  unfold chA
  by_cases hn : k < n
  · have c1 : ¬ v.2 ≤ nI k := by rw [h1]; exact nI_ge hn (by omega)
    rw [show f_Row_at v (nI k) = some (v.1 (nI k).toNatClampNeg) from (if_neg c0).trans ((if_neg c1).trans (if_pos (ixN (by omega) (by decide)))), nI_clamp (by omega), if_pos hn, (h3 k hn).1]
  · have c1 : v.2 ≤ nI k := by rw [h1]; exact nI_le (by omega) (by omega)
    rw [show f_Row_at v (nI k) = some (-1) from (if_neg c0).trans (if_pos c1), if_neg hn]
theorem chA_eq {T : Nat → Nat} {n k : Nat} (ht : ∀ i, i < n → T i ≤ 126) (x : Int32) (c : Nat) (hx : x = nI c) (hc : c < 1000) : chA T n k = x ↔ (k < n ∧ T k = c) := by
  subst hx
  unfold chA
  by_cases hn : k < n
  · rw [if_pos hn, nI_eq (by have := ht k hn; omega) (by omega)]
    exact ⟨fun q => ⟨hn, q⟩, fun q => q.2⟩
  · rw [if_neg hn]
    refine ⟨fun q => ?_, fun q => absurd q.1 hn⟩
    have : ¬ nI c < 0 := nI_pos (by omega)
    rw [← q] at this
    exact absurd (by decide) this
theorem RowOf.le {v : T_Row} {T : Nat → Nat} {n : Nat} (h : RowOf v T n) : ∀ i, i < n → T i ≤ 126 := fun i hi => (h.2.2 i hi).2.2
theorem ModOf.le {M : T_Model} {T : Nat → Nat} {n : Nat} (h : ModOf M T n) : ∀ i, i < n → T i ≤ 126 := fun i hi => (h.2.2 i hi).2.2
theorem m_is {M : T_Model} {T : Nat → Nat} {n : Nat} (h : ModOf M T n) (k : Nat) (hk : k < 2 ^ 30) (x : Int32) (c : Nat) (hx : x = nI c) (hc : c < 1000) : f_Model_is M (nI k) x = some (bB (decide (k < n ∧ T k = c))) := by
  obtain ⟨h1, h2, h3⟩ := h
  subst hx
  by_cases hn : k < n
  · have c1 : ¬ M_size M ≤ nI k := by rw [h1]; exact nI_ge hn (by omega)
    rw [e_Model_is, if_neg c1, if_pos (ixN (by omega) (by decide)), nI_clamp (by omega), (h3 k hn).1]
    by_cases e : T k = c
    · rw [if_pos (by rw [e]), show decide (k < n ∧ T k = c) = true from decide_eq_true ⟨hn, e⟩]
      rfl
    · rw [if_neg (fun q => e ((nI_eq (by have := (h3 k hn).2.2; omega) (by omega)).mp q)), show decide (k < n ∧ T k = c) = false from decide_eq_false (fun q => e q.2)]
      rfl
  · have c1 : M_size M ≤ nI k := by rw [h1]; exact nI_le (by omega) (by omega)
    rw [e_Model_is, if_pos c1, show decide (k < n ∧ T k = c) = false from decide_eq_false (fun q => hn q.1)]
    rfl
def spc (c : Nat) : Bool := c == 35 || (c == 48 || (c == 44 || (c == 46 || (c == 59 || c == 69))))
theorem m_special {c : Nat} (hc : c < 1000) : f_Model_special (nI c) = some (bB (spc c)) := by
  have k : ∀ d : Nat, d < 1000 → (nI c = nI d ↔ c = d) := fun d hd => nI_eq (by omega) (by omega)
  have k1 := k 35 (by decide); have k2 := k 48 (by decide); have k3 := k 44 (by decide); have k4 := k 46 (by decide); have k5 := k 59 (by decide); have k6 := k 69 (by decide)
  rw [e_Model_special]
  show (if nI c = nI 35 then _ else if nI c = nI 48 then _ else if nI c = nI 44 then _ else if nI c = nI 46 then _ else if nI c = nI 59 then _ else if nI c = nI 69 then _ else _) = _
  simp only [k1, k2, k3, k4, k5, k6]
  by_cases h1 : c = 35
  · subst h1; rfl
  · by_cases h2 : c = 48
    · subst h2; rfl
    · by_cases h3 : c = 44
      · subst h3; rfl
      · by_cases h4 : c = 46
        · subst h4; rfl
        · by_cases h5 : c = 59
          · subst h5; rfl
          · by_cases h6 : c = 69
            · subst h6; rfl
            · rw [if_neg h1, if_neg h2, if_neg h3, if_neg h4, if_neg h5, if_neg h6]
              have : spc c = false := by simp [spc, h1, h2, h3, h4, h5, h6]
              rw [this]; rfl
theorem c_special {c : Nat} (hc : c < 1000) : f_Deci_isSpecial (nI c) = some (bB (spc c)) := m_special hc
/-- reading an affix from place p on: the place where it ends, whether a quote still stands there, the elements -/
def sAff (T : Nat → Nat) (n : Nat) : Nat → Nat → Bool → List Nat → Nat × Bool × List Nat
  | 0, p, q, l => (p, q, l)
  | f + 1, p, q, l =>
    if n ≤ p then (p, q, l)
    else if T p = 39 then (if p + 1 < n ∧ T (p + 1) = 39 then sAff T n f (p + 2) q (l ++ [39]) else sAff T n f (p + 1) (!q) l)
    else if q = true then sAff T n f (p + 1) q (l ++ [T p])
    else if spc (T p) = true then (p, q, l)
    else sAff T n f (p + 1) q (l ++ [if T p = 37 then 256 else T p])
theorem aff_add {a : T_Affix} {l : List Nat} (h : cAff a l) (hl : l.length < 120) (e : Nat) (x : Int32) (hx : x = nI e) : ∃ a', f_Affix_add a x = some a' ∧ cAff a' (l ++ [e]) := by
  obtain ⟨h1, h2, h3⟩ := h
  subst hx
  have c1 : ¬ (120 : Int32) ≤ a.2 := by rw [h1]; exact nI_ge (b := 120) hl (by decide)
  refine ⟨(upd a.1 l.length (nI e), nI (l.length + 1)), ?_, ?_, ?_, fun i hi => ?_⟩
  · rw [e_Affix_add, if_neg c1, h1, if_pos (ixN hl (by decide)), nI_clamp (by omega), nI_1]
    rfl
  · rw [List.length_append]; rfl
  · rw [List.length_append]; show l.length + 1 ≤ 120; omega
  · show upd a.1 l.length (nI e) i = _
    by_cases q : i < l.length
    · rw [pk_un (by omega), h3 i q, List.getElem_append_left q]
    · have q2 : i = l.length := by rw [List.length_append] at hi; have : i < l.length + 1 := hi; omega
      subst q2
      rw [pk_us]
      simp
