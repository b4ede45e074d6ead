-- rounding and exponents
def dC (ng : Int32) (D pl : Nat) : T_Decimal := (ng, lN D, nI pl)
def nW (ng : Int32) (D pl : Nat) (E : Int32) (ed : Nat → Int32) (hf : Int32) : T_NumberWriter := (dC ng D pl, E, ed, hf)
theorem c_cmp {r u : Nat} (hu : u < 2 ^ 62) (hr : r < u) : f_Long_compare (lN r) (lN u - lN r) = some (if 2 * r < u then -1 else if 2 * r = u then 0 else 1) := by
  rw [e_Long_compare, lN_sub (by omega)]
  have h1 : r < 2 ^ 63 := by omega
  have h2 : u - r < 2 ^ 63 := by omega
  rcases Nat.lt_trichotomy (2 * r) u with c | c | c
  · rw [if_neg (fun z => absurd ((lc_ge h1 _ _ rfl h2).mp z) (by omega)), if_pos c]; rfl
  · rw [if_pos ((lc_ge h1 _ _ rfl h2).mpr (by omega)), if_pos ((lc_0 h1 _ _ rfl h2).mpr (by omega)), if_neg (show ¬ 2 * r < u by omega), if_pos c]; rfl
  · rw [if_pos ((lc_ge h1 _ _ rfl h2).mpr (by omega)), if_neg (fun z => absurd ((lc_0 h1 _ _ rfl h2).mp z) (by omega)), if_neg (show ¬ 2 * r < u by omega), if_neg (show ¬ 2 * r = u by omega)]; rfl
theorem c_away {D pl j : Nat} (hj6 : j ≤ 6) (neg : Bool) (q r u : Nat) (hq : q < 2 ^ 63) (hu : u < 2 ^ 62) (hr : r < u) : f_Decimal_goesAway (dC (bB neg) D pl) (nI j) (lN q) (lN r) (lN u) = some (bB (aw j neg q r u)) := by
  rw [e_Decimal_goesAway, c_cmp hu hr, Option.bind_some, show C_negative (dC (bB neg) D pl) = bB neg from rfl, show (2 : Int64) = lN 2 from rfl, lN_rem hq (by decide) (by decide)]
  unfold aw
  rcases (by omega : j = 0 ∨ j = 1 ∨ j = 2 ∨ j = 3 ∨ j = 4 ∨ j = 5 ∨ j = 6) with rfl | rfl | rfl | rfl | rfl | rfl | rfl
  · rfl
  · rfl
  · cases neg <;> rfl
  · cases neg <;> rfl
  · rcases Nat.lt_trichotomy (2 * r) u with c | c | c
    · rw [if_pos c, decide_eq_false (show ¬ u ≤ 2 * r by omega)]; rfl
    · rw [if_neg (show ¬ 2 * r < u by omega), if_pos c, decide_eq_true (show u ≤ 2 * r by omega)]; rfl
    · rw [if_neg (show ¬ 2 * r < u by omega), if_neg (show ¬ 2 * r = u by omega), decide_eq_true (show u ≤ 2 * r by omega)]; rfl
  · rcases Nat.lt_trichotomy (2 * r) u with c | c | c
    · rw [if_pos c, decide_eq_false (show ¬ u < 2 * r by omega)]; rfl
    · rw [if_neg (show ¬ 2 * r < u by omega), if_pos c, decide_eq_false (show ¬ u < 2 * r by omega)]; rfl
    · rw [if_neg (show ¬ 2 * r < u by omega), if_neg (show ¬ 2 * r = u by omega), decide_eq_true (show u < 2 * r by omega)]; rfl
  · have hq2 : q % 2 < 2 ^ 63 := by omega
    rcases Nat.lt_trichotomy (2 * r) u with c | c | c
    · rw [if_pos c, decide_eq_false (show ¬ u < 2 * r by omega), decide_eq_false (show ¬ u = 2 * r by omega)]; rfl
    · rw [if_neg (show ¬ 2 * r < u by omega), if_pos c, decide_eq_false (show ¬ u < 2 * r by omega), decide_eq_true (show u = 2 * r by omega)]
      by_cases p : q % 2 = 1
      · rw [if_neg (fun z => absurd ((lc_0 hq2 0 0 rfl (by decide)).mp z) (by omega)), decide_eq_true p]; rfl
      · rw [if_pos ((lc_0 hq2 0 0 rfl (by decide)).mpr (by omega)), decide_eq_false p]; rfl
    · rw [if_neg (show ¬ 2 * r < u by omega), if_neg (show ¬ 2 * r = u by omega), decide_eq_true (show u < 2 * r by omega)]; rfl
theorem p18b {k : Nat} (hk : k ≤ 18) : 10 ^ k < 2 ^ 62 := Nat.lt_of_le_of_lt (Nat.pow_le_pow_right (by decide) hk) (by decide)
theorem c_round {D pl b j : Nat} (hD : D < 2 ^ 62) (hpl : pl ≤ 18) (hb : b ≤ 9) (hj7 : j ≤ 7) (neg : Bool) (x y : Int32) (hx : x = nI b) (hy : y = nI j) :
    (¬ b < pl → f_Decimal_roundTo (dC (bB neg) D pl) x y = some (1, dC (bB neg) D pl)) ∧
    (∀ w, w = pl - b → 1 ≤ w → ((0 < D % 10 ^ w ∧ j = 7) → f_Decimal_roundTo (dC (bB neg) D pl) x y = some (0, dC (bB neg) D pl)) ∧
      (¬ (0 < D % 10 ^ w ∧ j = 7) → f_Decimal_roundTo (dC (bB neg) D pl) x y = some (1, dC (bB neg) (D / 10 ^ w + (if rup j neg D (10 ^ w) = true then 1 else 0)) b))) := by
  subst hx hy
  have c1 : C_places (dC (bB neg) D pl) = nI pl := rfl
  have c2 : C_digits (dC (bB neg) D pl) = lN D := rfl
  refine ⟨fun h => ?_, fun w hw hw1 => ?_⟩
  · rw [e_Decimal_roundTo, c1, if_neg (nI_nlt (by omega) (by omega))]
  · have hu := p18b (k := w) (by omega)
    have hu0 := p0 w
    have hu' : 10 ^ w < 2 ^ 63 := by omega
    have hr : D % 10 ^ w < 10 ^ w := Nat.mod_lt _ hu0
    have hq : D / 10 ^ w < 2 ^ 63 := Nat.lt_of_le_of_lt (Nat.div_le_self _ _) (by omega)
    have hne : ¬ lN (10 ^ w) = 0 := pw_ne (k := w) (by omega)
    have st : f_Decimal_roundTo (dC (bB neg) D pl) (nI b) (nI j) = (if (lg_cmp (lN (D % 10 ^ w)) (0 : Int64)) = 0 then f_Decimal_roundTo_43 (dC (bB neg) D pl) (nI b) (nI j) (lN (10 ^ w)) (lN (D % 10 ^ w)) else (if nI j = (7 : Int32) then some ((0 : Int32), dC (bB neg) D pl) else f_Decimal_roundTo_43 (dC (bB neg) D pl) (nI b) (nI j) (lN (10 ^ w)) (lN (D % 10 ^ w)))) := by
      rw [e_Decimal_roundTo, c1, c2, if_pos (nI_lt (by omega) (by omega)), pk_sub (by omega), ← hw, c_ten (by omega) _ rfl, Option.bind_some, pw_lN, if_pos hne, lN_rem (by omega) hu0 hu']
    have f79 : ∀ n : Nat, f_Decimal_roundTo_81 (dC (bB neg) D pl) (nI b) (lN n) = some (1, dC (bB neg) n b) := fun _ => rfl
    refine ⟨fun ⟨h1, h2⟩ => ?_, fun hno => ?_⟩
    · rw [st, if_neg (fun z => absurd ((lc_0 (by omega) 0 0 rfl (by decide)).mp z) (by omega)), if_pos (show nI j = 7 by rw [h2]; rfl)]
    · unfold rup
      rcases Nat.eq_zero_or_pos (D % 10 ^ w) with q | q
      · rw [st, if_pos ((lc_0 (by omega) 0 0 rfl (by decide)).mpr q), e_Decimal_roundTo_43, if_pos hne, if_pos ((lc_0 (by omega) 0 0 rfl (by decide)).mpr q), c2, lN_div (by omega) hu0 hu', e_Decimal_roundTo_79, f79, decide_eq_false (show ¬ 0 < D % 10 ^ w by omega), Bool.false_and]
        rfl
      · have hj6 : j ≤ 6 := by
          rcases Nat.lt_or_ge j 7 with z | z
          · omega
          · exact absurd ⟨q, by omega⟩ hno
        have hn0 : ¬ lg_cmp (lN (D % 10 ^ w)) 0 = 0 := fun z => absurd ((lc_0 (by omega) 0 0 rfl (by decide)).mp z) (by omega)
        rw [st, if_neg hn0, if_neg (nI_nel 7 7 rfl (by omega) (by decide) (by omega)), e_Decimal_roundTo_43, if_pos hne, if_neg hn0, c2, lN_div (by omega) hu0 hu', c_away hj6 neg _ _ _ hq hu hr, Option.bind_some, decide_eq_true q, Bool.true_and]
        cases aw j neg (D / 10 ^ w) (D % 10 ^ w) (10 ^ w)
        · rw [if_pos b_f, e_Decimal_roundTo_79, f79]; rfl
        · rw [if_neg b_t, lN_1, f79]; rfl
-- counting digits
def ndg (D L : Nat) : Prop := D < 10 ^ L ∧ (0 < L → 10 ^ (L - 1) ≤ D)
theorem rep_ndg {dgs : Nat → Int32} {N L : Nat} (h : rep dgs N L) : ndg N L := ⟨h.1, h.2.1⟩
theorem c_count {D L : Nat} (h : ndg D L) (hL : L ≤ 18) : f_Deci_digitCount (lN D) = some (nI L) := by
  have hD : D < 2 ^ 63 := Nat.lt_trans h.1 (p18 hL)
  have key : ∀ (r m : Nat), r ≤ L → r < m → f_Deci_digitCount_2 m (lN D) (nI (L - r)) = some (nI L) := by
    intro r
    induction r with
    | zero =>
      intro m _ hm
      rw [Nat.sub_zero, show m = (m - 1) + 1 by omega, e_Deci_digitCount_2, if_neg (li_nle 19 19 rfl (by omega) (by decide)), if_pos (ixN (by omega) (by decide)), nI_clamp (by omega), if_pos ((lc_lt hD _ _ (pw_lN _) (p18 (by omega))).mpr h.1)]
      rfl
    | succ r ih =>
      intro m hr hm
      have h2 : 10 ^ (L - (r + 1)) ≤ 10 ^ (L - 1) := Nat.pow_le_pow_right (by decide) (by omega)
      have h3 := h.2 (by omega)
      rw [show m = (m - 1) + 1 by omega, e_Deci_digitCount_2, if_neg (li_nle 19 19 rfl (by omega) (by decide)), if_pos (ixN (by omega) (by decide)), nI_clamp (by omega), if_neg (fun z => absurd ((lc_lt hD _ _ (pw_lN _) (p18 (by omega))).mp z) (by omega)), nI_1, show L - (r + 1) + 1 = L - r by omega]
      exact ih (m - 1) (by omega) (by omega)
  have := key L FU (Nat.le_refl _) (by rw [FU_val]; omega)
  rw [Nat.sub_self] at this
  exact this
theorem c_set {dec : T_Decimal} {N sc : Nat} (neg : Bool) (hN : N < 2 ^ 62) (hneg : neg = true → 0 < N) (v : Int64) (hv : v = (if neg = true then -(lN N) else lN N)) : f_Decimal_set dec v (nI sc) = some (dC (bB neg) N sc) := by
  subst hv
  have hI := lN_I (n := N) (by omega)
  rw [e_Decimal_set]
  cases neg
  · rw [ib_f, if_pos ((lc_ge (by omega) 0 0 rfl (by decide)).mpr (Nat.zero_le _)), e_Decimal_set_12, if_pos (Or.inl rfl)]
    rcases Nat.eq_zero_or_pos N with q | q
    · subst q; rfl
    · rw [if_pos (show 0 < lN N by rw [Int64.lt_iff_toInt_lt, hI, show (0 : Int64).toInt = 0 from rfl]; omega)]; rfl
  · have hN0 := hneg rfl
    have hm : (-(lN N)).toInt = -(N : Int) := by
      rw [Int64.toInt_neg, hI]
      apply Int.bmod_eq_of_le <;> omega
    have h1 : ¬ 0 ≤ lg_cmp (-(lN N)) 0 := by
      rw [lg_cmp_ge, Int64.le_iff_toInt_le, hm, show (0 : Int64).toInt = 0 from rfl]
      omega
    have h2 : ¬ 0 < -(lN N) := by
      rw [Int64.lt_iff_toInt_lt, hm, show (0 : Int64).toInt = 0 from rfl]
      omega
    rw [ib_t, if_neg h1, e_Decimal_set_12, if_pos (Or.inr rfl), if_neg h2, Int64.neg_neg]; rfl
theorem c_takeE {ng E hf : Int32} {ed : Nat → Int32} {N sc z L : Nat} (h : ndg N L) (hL : L ≤ 18) (hz : z ≤ 12) :
    (z ≤ L → f_NumberWriter_takeExponent (nW ng N sc E ed hf) (nI z) = some (nW ng N (L - z) ((nI L - nI sc) - nI z) ed hf)) ∧
    (L < z → f_NumberWriter_takeExponent (nW ng N sc E ed hf) (nI z) = some (nW ng (N * 10 ^ (z - L)) 0 ((nI L - nI sc) - nI z) ed hf)) := by
  have c0 : f_Deci_digitCount (C_digits (W_decimal (nW ng N sc E ed hf))) = some (nI L) := c_count h hL
  refine ⟨fun hh => ?_, fun hh => ?_⟩
  · rw [e_NumberWriter_takeExponent, c0, Option.bind_some, if_pos (nI_le hh (by omega)), pk_sub hh]; rfl
  · rw [e_NumberWriter_takeExponent, c0, Option.bind_some, if_neg (nI_ge hh (by omega)), pk_sub (by omega), c_ten (k := z - L) (by omega) _ rfl, Option.bind_some, show C_digits (W_decimal (nW ng N sc E ed hf)) * pw (z - L) = lN (N * 10 ^ (z - L)) from lN_mul _ _]; rfl
theorem c_whole {ng : Int32} {D pl : Nat} (hD : D < 2 ^ 63) (hpl : pl ≤ 18) : f_Decimal_whole (dC ng D pl) = some (lN (D / 10 ^ pl)) := by
  rw [e_Decimal_whole, c_ten (k := pl) hpl (C_places (dC ng D pl)) rfl, Option.bind_some, pw_lN, if_pos (show ¬ lN (10 ^ pl) = 0 from pw_ne hpl), show C_digits (dC ng D pl) = lN D from rfl, lN_div hD (p0 pl) (p18 hpl)]
theorem c_carry {ng E hf : Int32} {ed : Nat → Int32} {D pl z : Nat} (hD : D < 2 ^ 63) (hpl : pl ≤ 18) (hz : z ≤ 12) (hz1 : 1 ≤ z) :
    (D / 10 ^ pl < 10 ^ z → f_NumberWriter_carryExponent (nW ng D pl E ed hf) (nI z) = some (nW ng D pl E ed hf)) ∧
    (10 ^ z ≤ D / 10 ^ pl → f_NumberWriter_carryExponent (nW ng D pl E ed hf) (nI z) = some (nW ng (10 ^ (z - 1)) 0 (E + 1) ed hf)) := by
  have c0 : f_Decimal_whole (W_decimal (nW ng D pl E ed hf)) = some (lN (D / 10 ^ pl)) := c_whole hD hpl
  have h1 : D / 10 ^ pl < 2 ^ 63 := Nat.lt_of_le_of_lt (Nat.div_le_self _ _) hD
  refine ⟨fun hh => ?_, fun hh => ?_⟩
  · rw [e_NumberWriter_carryExponent, c0, Option.bind_some, c_ten (k := z) (by omega) _ rfl, Option.bind_some, if_pos ((lc_lt h1 _ _ (pw_lN _) (p18 (by omega))).mpr hh)]; rfl
  · rw [e_NumberWriter_carryExponent, c0, Option.bind_some, c_ten (k := z) (by omega) _ rfl, Option.bind_some, if_neg (fun q => absurd ((lc_lt h1 _ _ (pw_lN _) (p18 (by omega))).mp q) (by omega)), c_ten (k := z - 1) (by omega) (nI z - 1) (pk_sub (b := 1) hz1), Option.bind_some]; rfl
