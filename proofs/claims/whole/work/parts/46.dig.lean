-- longs that are natural numbers
theorem lN_I {n : Nat} (h : n < 2 ^ 63) : (lN n).toInt = n := lg_ofNat_toInt h
theorem lN_inj {a b : Nat} (ha : a < 2 ^ 63) (hb : b < 2 ^ 63) : lN a = lN b ↔ a = b := by
  rw [← Int64.toInt_inj, lN_I ha, lN_I hb]; omega
theorem lc_0 {a : Nat} (ha : a < 2 ^ 63) (x : Int64) (b : Nat) (hx : x = lN b) (hb : b < 2 ^ 63) : lg_cmp (lN a) x = 0 ↔ a = b := by
  subst hx
  rw [lg_cmp_eq, lN_inj ha hb]
theorem lc_ge {a : Nat} (ha : a < 2 ^ 63) (x : Int64) (b : Nat) (hx : x = lN b) (hb : b < 2 ^ 63) : 0 ≤ lg_cmp (lN a) x ↔ b ≤ a := by
  subst hx
  rw [lg_cmp_ge, Int64.le_iff_toInt_le, lN_I ha, lN_I hb]; omega
theorem lc_le {a : Nat} (ha : a < 2 ^ 63) (x : Int64) (b : Nat) (hx : x = lN b) (hb : b < 2 ^ 63) : lg_cmp (lN a) x ≤ 0 ↔ a ≤ b := by
  subst hx
  rw [lg_cmp_le, Int64.le_iff_toInt_le, lN_I ha, lN_I hb]; omega
theorem lc_lt {a : Nat} (ha : a < 2 ^ 63) (x : Int64) (b : Nat) (hx : x = lN b) (hb : b < 2 ^ 63) : lg_cmp (lN a) x < 0 ↔ a < b := by
  subst hx
  rw [lg_cmp_lt, Int64.lt_iff_toInt_lt, lN_I ha, lN_I hb]; omega
theorem lc_gt {a : Nat} (ha : a < 2 ^ 63) (x : Int64) (b : Nat) (hx : x = lN b) (hb : b < 2 ^ 63) : 0 < lg_cmp (lN a) x ↔ b < a := by
  subst hx
  rw [lg_cmp_gt, Int64.lt_iff_toInt_lt, lN_I ha, lN_I hb]; omega
theorem lN_div {a d : Nat} (ha : a < 2 ^ 63) (h0 : 0 < d) (hd : d < 2 ^ 63) : lN a / lN d = lN (a / d) := by
  apply Int64.toInt_inj.mp
  rw [lg_ldiv_nonneg (by rw [lN_I ha]; omega) (by rw [lN_I hd]; omega), lN_I ha, lN_I hd, lN_I (Nat.lt_of_le_of_lt (Nat.div_le_self a d) ha)]
  rfl
theorem lN_rem {a d : Nat} (ha : a < 2 ^ 63) (h0 : 0 < d) (hd : d < 2 ^ 63) : lN a - lN a / lN d * lN d = lN (a % d) := by
  rw [lN_div ha h0 hd, lN_mul, lN_sub (Nat.div_mul_le_self a d)]
  congr 1
  have := Nat.div_add_mod a d
  rw [Nat.mul_comm] at this
  omega
theorem p18 {k : Nat} (hk : k ≤ 18) : 10 ^ k < 2 ^ 63 := Nat.lt_of_le_of_lt (Nat.pow_le_pow_right (by decide) hk) (by decide)
theorem p0 (k : Nat) : 0 < 10 ^ k := Nat.pow_pos (by decide)
theorem pw_lN (k : Nat) : pw k = lN (10 ^ k) := rfl
theorem pw_ne {k : Nat} (hk : k ≤ 18) : ¬ pw k = 0 := by
  have h1 := p18 hk
  have h2 := p0 k
  rw [pw_lN, show (0 : Int64) = lN 0 from rfl, lN_inj h1 (by decide)]
  omega
theorem c_ten {k : Nat} (hk : k ≤ 18) (x : Int32) (hx : x = nI k) : f_Deci_tenTo x = some (pw k) := by
  subst hx
  have h : (if (0 : Int32) < nI k then nI k else 0) = nI k := by
    by_cases q : k = 0
    · subst q; rfl
    · rw [if_pos (li_gt 0 0 rfl (by omega) (by omega))]
  rw [e_Deci_tenTo, show (19 : Int32) - 1 = nI 18 from rfl, if_neg (nI_nlt hk (by decide)), h, if_pos (ixN (by omega) (by decide)), nI_clamp (by omega)]
-- taking digits
abbrev St : Type := Nat × Nat × Nat × Nat × Nat × Nat
def dg (f d : Nat) (s : St) : St :=
  if d = 0 then (s.1, s.2.1, (if s.2.1 = 0 then s.2.2.1 else s.2.2.1 + 1), s.2.2.2.1 + 1, s.2.2.2.2.1 + 1, s.2.2.2.2.2 + f)
  else if 17 < s.2.1 + s.2.2.1 + 1 then (s.1, s.2.1 + s.2.2.1 + 1, 0, 0, s.2.2.2.2.1 + 1, s.2.2.2.2.2 + f)
  else (s.1 * 10 ^ (s.2.2.1 + 1) + d, s.2.1 + s.2.2.1 + 1, 0, 0, s.2.2.2.2.1 + 1, s.2.2.2.2.2 + f)
def gI (s : St) (K : Nat) : Prop := (s.2.1 = 0 → s.2.2.1 = 0 ∧ s.1 = 0) ∧ (0 < s.2.1 → s.2.2.1 = s.2.2.2.1 ∧ 0 < s.1) ∧ s.1 < 10 ^ 17 ∧ (s.2.1 ≤ 17 → s.1 < 10 ^ s.2.1) ∧ s.2.1 + s.2.2.1 ≤ s.2.2.2.2.1 ∧ s.2.2.2.1 ≤ s.2.2.2.2.1 ∧ s.2.2.2.2.2 ≤ s.2.2.2.2.1 ∧ s.2.2.2.2.1 ≤ K
theorem gI_le {s : St} {K L : Nat} (h : gI s K) (hl : K ≤ L) : gI s L := by
  obtain ⟨h1, h2, h3, h4, h5, h6, h7, h8⟩ := h
  exact ⟨h1, h2, h3, h4, h5, h6, h7, Nat.le_trans h8 hl⟩
theorem dg_I {s : St} {K f d : Nat} (h : gI s K) (hd : d ≤ 9) (hf : f ≤ 1) : gI (dg f d s) (K + 1) := by
  obtain ⟨D, c, zc, zr, al, fr⟩ := s
  obtain ⟨h1, h2, h3, h4, h5, h6, h7, h8⟩ := h
  dsimp only at h1 h2 h3 h4 h5 h6 h7 h8
  unfold dg
  dsimp only
  by_cases q : d = 0
  · rw [if_pos q]
    by_cases qc : c = 0
    · rw [if_pos qc]
      refine ⟨fun _ => h1 qc, fun (z : 0 < c) => absurd z (by omega), h3, h4, ?_, ?_, ?_, ?_⟩ <;> dsimp only <;> omega
    · rw [if_neg qc]
      obtain ⟨e1, e2⟩ := h2 (by omega)
      refine ⟨fun (z : c = 0) => absurd z qc, fun _ => ⟨by dsimp only; omega, e2⟩, h3, h4, ?_, ?_, ?_, ?_⟩ <;> dsimp only <;> omega
  · rw [if_neg q]
    by_cases q17 : 17 < c + zc + 1
    · rw [if_pos q17]
      have hc : 0 < c := by
        rcases Nat.eq_zero_or_pos c with z | z
        · have := (h1 z).1; omega
        · exact z
      refine ⟨fun (z : c + zc + 1 = 0) => absurd z (by omega), fun _ => ⟨rfl, (h2 hc).2⟩, h3, fun (z : c + zc + 1 ≤ 17) => absurd z (by omega), ?_, ?_, ?_, ?_⟩ <;> dsimp only <;> omega
    · rw [if_neg q17]
      have hD := h4 (by omega)
      have b1 : D * 10 ^ (zc + 1) + d < 10 ^ (c + zc + 1) := by
        have e1 : (D + 1) * 10 ^ (zc + 1) ≤ 10 ^ c * 10 ^ (zc + 1) := Nat.mul_le_mul_right _ hD
        rw [← Nat.pow_add, Nat.add_mul, Nat.one_mul] at e1
        have e2 : 10 ≤ 10 ^ (zc + 1) := by
          rw [Nat.pow_succ]
          have := p0 zc
          omega
        rw [show c + zc + 1 = c + (zc + 1) by omega]
        omega
      have b2 : 10 ^ (c + zc + 1) ≤ 10 ^ 17 := Nat.pow_le_pow_right (by decide) (by omega)
      refine ⟨fun (z : c + zc + 1 = 0) => absurd z (by omega), fun _ => ⟨rfl, ?_⟩, ?_, fun _ => b1, ?_, ?_, ?_, ?_⟩
      · show 0 < D * 10 ^ (zc + 1) + d
        omega
      · exact Nat.lt_of_lt_of_le b1 b2
      all_goals (dsimp only; omega)
-- the one side
def nR (b e p : Nat) (neg : Int32) (s : St) (ex pp : Int32) : T_NumberReader := (nI b, nI e, nI p, neg, nI s.2.2.2.2.1, nI s.2.2.2.2.2, ex, lN s.1, nI s.2.1, nI s.2.2.1, pp)
theorem c_take {b e p K d : Nat} {neg ex pp : Int32} {s : St} (h : gI s K) (hK : K ≤ 120) (hd : d ≤ 9) (x : Int32) (hx : x = nI d) : f_NumberReader_takeDigit (nR b e p neg s ex pp) x = some (nR b e p neg (dg 0 d s) ex pp) := by
  subst hx
  obtain ⟨D, c, zc, zr, al, fr⟩ := s
  obtain ⟨h1, h2, h3, h4, h5, h6, h7, h8⟩ := h
  dsimp only at h1 h2 h3 h4 h5 h6 h7 h8
  rw [e_NumberReader_takeDigit]
  unfold dg
  dsimp only
  have n1 : ∀ (s : St), N_digitsCounted (nR b e p neg s ex pp) = nI s.2.1 := fun _ => rfl
  have n2 : ∀ (s : St), N_zerosBehind (nR b e p neg s ex pp) = nI s.2.2.1 := fun _ => rfl
  have n3 : ∀ (s : St), N_allDigits (nR b e p neg s ex pp) = nI s.2.2.2.2.1 := fun _ => rfl
  have n4 : ∀ (s : St), N_digits (nR b e p neg s ex pp) = lN s.1 := fun _ => rfl
  rw [n1, n2, n3, n4]
  dsimp only
  by_cases q : d = 0
  · subst q
    rw [if_pos (show nI 0 = 0 from rfl), if_pos rfl]
    by_cases qc : c = 0
    · subst qc
      rw [if_pos (show nI 0 ≤ 0 by decide), if_pos rfl, nI_1]; rfl
    · rw [if_neg (nI_nle (by omega) (by omega)), if_neg qc, nI_1, nI_1]; rfl
  · rw [if_neg (nI_ne0 (by omega) (by omega)), if_neg q, nI_add, nI_1, nI_1, nI_1]
    by_cases q17 : 17 < c + zc + 1
    · rw [if_pos (li_gt 17 17 rfl q17 (by omega)), if_pos q17]; rfl
    · rw [if_neg (li_ngt 17 17 rfl (by omega) (by decide)), if_neg q17, c_ten (k := zc + 1) (by omega) _ rfl, Option.bind_some, nI_l (by omega), pw_lN, lN_mul, lN_add]; rfl
