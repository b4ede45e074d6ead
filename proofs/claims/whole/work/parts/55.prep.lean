-- a number made ready to be written, on both sides
def pR (dgs : Nat → Int32) (N L : Nat) (P : Int) (D pl : Nat) : Prop := rep dgs N L ∧ L ≤ 19 ∧ pl ≤ 9 ∧ D ≤ 10 ^ 17 ∧ -60 ≤ P ∧ P ≤ 60 ∧ ((N = 0 ∧ D = 0) ∨ (0 < N ∧ ∃ A B : Nat, D * 10 ^ A = N * 10 ^ B ∧ (A : Int) - B = L - P - pl))
theorem plt {a b : Nat} (h : 10 ^ a < 10 ^ b) : a < b := by
  rcases Nat.lt_or_ge a b with q | q
  · exact q
  · exact absurd (Nat.pow_le_pow_right (n := 10) (by decide) q) (by omega)
theorem pR_cnt {dgs : Nat → Int32} {N L D pl : Nat} {P : Int} (h : pR dgs N L P D pl) (hN : 0 < N) : ndg (D / 10 ^ pl) P.toNat := by
  obtain ⟨hr, hL, hpl, hD, hP1, hP2, hrel⟩ := h
  have hL0 : 0 < L := by
    rcases Nat.eq_zero_or_pos L with q | q
    · subst q
      have := rep_z hr
      omega
    · exact q
  rcases hrel with ⟨h0, -⟩ | ⟨-, A, B, hE, hAB⟩
  · omega
  · have up : D * 10 ^ A < 10 ^ (L + B) := by
      rw [hE, Nat.pow_add]
      exact Nat.mul_lt_mul_of_pos_right hr.1 (p0 B)
    have lo : 10 ^ (L - 1 + B) ≤ D * 10 ^ A := by
      rw [hE, Nat.pow_add]
      exact Nat.mul_le_mul_right _ (hr.2.1 hL0)
    refine ⟨?_, fun hp => ?_⟩
    · apply Nat.div_lt_of_lt_mul
      rw [← Nat.pow_add]
      have e1 : 10 ^ (L + B) ≤ 10 ^ (pl + P.toNat) * 10 ^ A := by
        rw [← Nat.pow_add]
        exact Nat.pow_le_pow_right (by decide) (by omega)
      exact Nat.lt_of_mul_lt_mul_right (Nat.lt_of_lt_of_le up e1)
    · rw [Nat.le_div_iff_mul_le (p0 pl), ← Nat.pow_add]
      have e1 : 10 ^ (P.toNat - 1 + pl) * 10 ^ A = 10 ^ (L - 1 + B) := by
        rw [← Nat.pow_add, show P.toNat - 1 + pl + A = L - 1 + B by omega]
      exact Nat.le_of_mul_le_mul_right (by rw [e1]; exact lo) (p0 A)
theorem f181 {M : T_Model} {z e : Nat} (hk4 : M_kept M 4 = nI e) (he : e ≤ 3) {wr : Nat → Int32} {en fm : Int32} {bd dgs : Nat → Int32} (L : Nat) (hL : L ≤ 19) (P : Int) (hP1 : -60 ≤ P) (hP2 : P ≤ 60) (hz : z ≤ 12) (x4 x6 : Int32) :
    (if ((M_kept (mF M wr en dgs (nI L) (iI P) fm bd)) (4 : Int32).toNatClampNeg) ≤ 0 then f_Model_format_181 (mF M wr en dgs (nI L) (iI P) fm bd) x4 x6 else (if (M_digits (mF M wr en dgs (nI L) (iI P) fm bd)) ≤ 0 then f_Model_format_181 (mF M wr en dgs (nI L) (iI P) fm bd) x4 x6 else (if (M_point (mF M wr en dgs (nI L) (iI P) fm bd)) ≤ nI z then f_Model_format_181 (mF M wr en dgs (nI L) (iI P) fm bd) x4 x6 else f_Model_format_181 (sM_point (mF M wr en dgs (nI L) (iI P) fm bd) (nI z)) x4 (x6 + (1 : Int32))))) =
    if 0 < e ∧ 0 < L ∧ z < P then f_Model_format_181 (mF M wr en dgs (nI L) (iI z) fm bd) x4 (x6 + 1) else f_Model_format_181 (mF M wr en dgs (nI L) (iI P) fm bd) x4 x6 := by
  rw [mF_kept, mF_digits, mF_point, mF_spoint, show M_kept M (4 : Int32).toNatClampNeg = nI e from hk4]
  by_cases c1 : e = 0
  · subst c1
    rw [if_pos (show nI 0 ≤ 0 by decide), if_neg (by omega)]
  · rw [if_neg (nI_nle (by omega) (by omega))]
    by_cases c2 : L = 0
    · subst c2
      rw [if_pos (show nI 0 ≤ 0 by decide), if_neg (by omega)]
    · rw [if_neg (nI_nle (by omega) (by omega)), iI_n z]
      by_cases c3 : z < P
      · rw [if_neg (fun q => absurd ((iI_le (by omega) (by omega) (by omega) (by omega)).mp q) (by omega)), if_pos ⟨by omega, by omega, c3⟩]
      · rw [if_pos ((iI_le (by omega) (by omega) (by omega) (by omega)).mpr (by omega)), if_neg (by omega)]
theorem m_126 {M : T_Model} {z b e : Nat} (hk4 : M_kept M 4 = nI e) (he : e ≤ 3) (hz : z ≤ 12) (hk2 : M_kept M 2 = nI b) {wr : Nat → Int32} {en fm : Int32} {bd dgs : Nat → Int32} (L : Nat) (P : Int) (x4 x6 : Int32) {dgs' : Nat → Int32} {L' : Nat} {P' : Int} (hL : L' ≤ 19) (hP1 : -60 ≤ P') (hP2 : P' ≤ 60) (h : f_Model_round (mF M wr en dgs (nI L) (iI P) fm bd) (nI b) x4 = some (1, mF M wr en dgs' (nI L') (iI P') fm bd)) :
    f_Model_format_126 (mF M wr en dgs (nI L) (iI P) fm bd) x4 (nI z) x6 = if 0 < e ∧ 0 < L' ∧ z < P' then f_Model_format_181 (mF M wr en dgs' (nI L') (iI z) fm bd) x4 (x6 + 1) else f_Model_format_181 (mF M wr en dgs' (nI L') (iI P') fm bd) x4 x6 := by
  rw [e_Model_format_126, mF_kept, show M_kept M (2 : Int32).toNatClampNeg = nI b from hk2, h, Option.bind_some]
  dsimp only
  rw [if_neg (show ¬ (1 : Int32) = 0 by decide)]
  exact f181 hk4 he L' hL P' hP1 hP2 hz x4 x6
theorem m_126f {M : T_Model} {b : Nat} (hk2 : M_kept M 2 = nI b) {wr : Nat → Int32} {en fm : Int32} {bd dgs : Nat → Int32} (L : Nat) (P : Int) (x4 x5 x6 : Int32) {v : T_Model} (h : f_Model_round (mF M wr en dgs (nI L) (iI P) fm bd) (nI b) x4 = some (0, v)) :
    f_Model_format_126 (mF M wr en dgs (nI L) (iI P) fm bd) x4 x5 x6 = some (-3, v) := by
  rw [e_Model_format_126, mF_kept, show M_kept M (2 : Int32).toNatClampNeg = nI b from hk2, h, Option.bind_some]
  dsimp only
  rw [if_pos rfl]
/-- what both make of a number -/
def prepOk (M : T_Model) (W : T_NumberWriter) (S : T_Shape) (v : Int64) (sc j : Nat) (neg : Bool) (s1 : Int64) : Prop :=
  (∃ W', f_NumberWriter_prepare W S v (nI sc) (nI j) = some (0, W') ∧ W_edges W' = W_edges W ∧ W_hasFields W' = W_hasFields W ∧ ∃ dgs' ds' pt', f_Model_format_63 M (nI sc) (bB neg) s1 = some (-3, mF M (M_written M) (M_end M) dgs' ds' pt' (M_formatted M) (M_bounds M))) ∨
  (∃ (D pl : Nat) (Ez : Int) (dgs' : Nat → Int32) (N' L' : Nat) (P' : Int), f_NumberWriter_prepare W S v (nI sc) (nI j) = some (1, nW (bB neg) D pl (iI Ez) (W_edges W) (W_hasFields W)) ∧ f_Model_format_63 M (nI sc) (bB neg) s1 = f_Model_format_181 (mF M (M_written M) (M_end M) dgs' (nI L') (iI P') (M_formatted M) (M_bounds M)) (bB neg) (iI Ez) ∧ pR dgs' N' L' P' D pl ∧ -60 ≤ Ez ∧ Ez ≤ 60)
theorem prep {M : T_Model} {W : T_NumberWriter} {S : T_Shape} {z a b g e j N sc : Nat} (hS : iShape S (M_kept M) z a b g e) (hj : M_how M = nI j) (hj7 : j ≤ 7) (hN : N < 10 ^ 17) (neg : Bool) (hneg : neg = true → 0 < N) (hsc : sc ≤ 9) (v : Int64) (hv : v = (if neg = true then -(lN N) else lN N)) (s1 : Int64) (hs1 : s1 * (M_kept M 5).toInt64 = lN N) : prepOk M W S v sc j neg s1 := by
  obtain ⟨⟨z1, z2⟩, -, ⟨b1, b2⟩, -, ⟨e1, e2⟩, hz, hab, hb, hg, he, hez⟩ := hS
  have hN62 : N < 2 ^ 62 := Nat.lt_trans hN (by decide)
  have h17 : (10 : Nat) ^ 17 < 2 ^ 62 := by decide
  obtain ⟨dgs, L, l1, hr⟩ := m_lay0 (M := M) (wr := M_written M) (en := M_end M) (pt := M_point M) (fm := M_formatted M) (ds := M_digits M) (bd := M_bounds M) (dgs := M_digit M) (N := N) (Nat.lt_trans hN (by decide))
  have hL : L ≤ 17 := rep_L hr hN
  have hk4 : ∀ (wr : Nat → Int32) (en : Int32) (d : Nat → Int32) (ds pt fm : Int32) (bd : Nat → Int32), M_kept (mF M wr en d ds pt fm bd) (4 : Int32).toNatClampNeg = nI e := fun _ _ _ _ _ _ _ => e2
  have hk0 : ∀ (wr : Nat → Int32) (en : Int32) (d : Nat → Int32) (ds pt fm : Int32) (bd : Nat → Int32), M_kept (mF M wr en d ds pt fm bd) (0 : Int32).toNatClampNeg = nI z := fun _ _ _ _ _ _ _ => z2
  have m63 : f_Model_format_63 M (nI sc) (bB neg) s1 = (if nI e ≤ 0 then f_Model_format_126 (mF M (M_written M) (M_end M) dgs (nI L) (nI L - nI sc) (M_formatted M) (M_bounds M)) (bB neg) (nI z) (0 : Int32) else (if nI L ≤ 0 then f_Model_format_126 (mF M (M_written M) (M_end M) dgs (nI L) (nI L - nI sc) (M_formatted M) (M_bounds M)) (bB neg) (nI z) (0 : Int32) else f_Model_format_126 (mF M (M_written M) (M_end M) dgs (nI L) (nI z) (M_formatted M) (M_bounds M)) (bB neg) (nI z) ((nI L - nI sc) - nI z))) := by
    rw [e_Model_format_63, show s1 * (M_kept M (5 : Int32).toNatClampNeg).toInt64 = lN N from hs1, show f_Model_lay M (lN N) = _ from l1, Option.bind_some, hk4, hk0, mF_digits, mF_spoint, mF_spoint]
  have hls : nI L - nI sc = iI ((L : Int) - sc) := by rw [iI_n, iI_n, iI_sub]
  have hset := c_set (dec := W_decimal W) (sc := sc) neg hN62 hneg v hv
  have hrnd := fun (D pl : Nat) (hD : D < 2 ^ 62) (hpl : pl ≤ 18) => c_round (D := D) (pl := pl) hD hpl hb hj7 neg (S_mostFraction S) (nI j) b1 rfl
  by_cases plain : e = 0 ∨ N = 0
  · have cp : f_NumberWriter_prepare W S v (nI sc) (nI j) = (f_Decimal_roundTo (dC (bB neg) N sc) (S_mostFraction S) (nI j)).bind (fun o38 => if (o38.1 = 0 ∨ o38.1 = 1) then some (o38.1, (o38.2, (0 : Int32), W_edges W, W_hasFields W)) else none) := by
      rw [e_NumberWriter_prepare, hset, Option.bind_some, e1]
      have p28 : f_NumberWriter_prepare_28 S (sW_exponent (sW_decimal W (dC (bB neg) N sc)) (0 : Int32)) (nI j) = (f_Decimal_roundTo (dC (bB neg) N sc) (S_mostFraction S) (nI j)).bind (fun o38 => if (o38.1 = 0 ∨ o38.1 = 1) then some (o38.1, (o38.2, (0 : Int32), W_edges W, W_hasFields W)) else none) := rfl
      rw [p28]
      by_cases ce : e = 0
      · subst ce
        rw [if_pos (show nI 0 = 0 from rfl)]
      · have hN0 : N = 0 := by omega
        have hnf : neg = false := by
          cases neg
          · rfl
          · have := hneg rfl; omega
        rw [if_neg (nI_ne0 (by omega) (by omega)), if_pos]
        rw [hv, hnf, ib_f]
        exact (lc_0 (by omega) 0 0 rfl (by decide)).mpr hN0
    have mp : f_Model_format_63 M (nI sc) (bB neg) s1 = f_Model_format_126 (mF M (M_written M) (M_end M) dgs (nI L) (iI ((L : Int) - sc)) (M_formatted M) (M_bounds M)) (bB neg) (nI z) (0 : Int32) := by
      rw [m63, hls]
      by_cases ce : e = 0
      · subst ce
        rw [if_pos (show nI 0 ≤ 0 by decide)]
      · have hL0 : L = 0 := by
          rcases Nat.eq_zero_or_pos L with q | q
          · exact q
          · have := rep_pos hr q; omega
        rw [if_neg (nI_nle (by omega) (by omega)), hL0, if_pos (show nI 0 ≤ 0 by decide)]
    have mr := m_round (M := M) (wr := M_written M) (en := M_end M) (fm := M_formatted M) (bd := M_bounds M) hr (by omega) ((L : Int) - sc) (by omega) (by omega) hb hj hj7 neg (nI b) rfl
    have cr := hrnd N sc hN62 (by omega)
    have noc : ∀ (N' L' : Nat) (d' : Nat → Int32) (P' : Int), rep d' N' L' → (N = 0 → N' = 0) → ¬ (0 < e ∧ 0 < L' ∧ (z : Int) < P') := by
      intro N' L' d' P' hr' h0 ⟨q1, q2, _⟩
      have := rep_pos hr' q2
      rcases plain with p | p
      · omega
      · have := h0 p; omega
    by_cases hbs : b < sc
    · have crw := cr.2 (sc - b) rfl (by omega)
      have mrw := mr.2 (sc - b) (by omega) (by omega)
      by_cases hno : 0 < N % 10 ^ (sc - b) ∧ j = 7
      · left
        refine ⟨(dC (bB neg) N sc, (0 : Int32), W_edges W, W_hasFields W), ?_, rfl, rfl, dgs, nI L, iI ((L : Int) - sc), ?_⟩
        · rw [cp, crw.1 hno, Option.bind_some]; rfl
        · rw [mp, m_126f b2 L _ _ _ _ (mrw.1 hno)]
      · obtain ⟨d', L', P', r1, r2, r3, r4, r5⟩ := mrw.2 hno
        have hq : N / 10 ^ (sc - b) ≤ N / 10 := by
          have : 10 ^ 1 ≤ 10 ^ (sc - b) := Nat.pow_le_pow_right (by decide) (by omega)
          exact Nat.div_le_div_left this (by decide)
        have hn' : N / 10 ^ (sc - b) + (if rup j neg N (10 ^ (sc - b)) = true then 1 else 0) < 10 ^ 17 := by split <;> omega
        have hL' : L' ≤ 17 := rep_L r2 hn'
        have n0 : N = 0 → N / 10 ^ (sc - b) + (if rup j neg N (10 ^ (sc - b)) = true then 1 else 0) = 0 := by
          intro h0
          unfold rup
          rw [h0, Nat.zero_div, Nat.zero_mod, decide_eq_false (Nat.lt_irrefl 0), Bool.false_and]; rfl
        right
        refine ⟨N / 10 ^ (sc - b) + (if rup j neg N (10 ^ (sc - b)) = true then 1 else 0), b, 0, d', _, L', P', ?_, ?_, ⟨r2, Nat.le_trans hL' (by decide), hb, Nat.le_of_lt hn', r4, r5, ?_⟩, by decide, by decide⟩
        · rw [cp, crw.2 hno, Option.bind_some]; rfl
        · rw [mp, m_126 e2 he hz b2 L _ _ _ (by omega) r4 r5 r1, if_neg (noc _ _ _ _ r2 n0)]; rfl
        · rcases Nat.eq_zero_or_pos (N / 10 ^ (sc - b) + (if rup j neg N (10 ^ (sc - b)) = true then 1 else 0)) with q | q
          · exact Or.inl ⟨q, q⟩
          · refine Or.inr ⟨q, 0, 0, rfl, ?_⟩
            have hL0 : 0 < L' := by
              rcases Nat.eq_zero_or_pos L' with y | y
              · subst y
                have := rep_z r2
                omega
              · exact y
            have := r3 hL0
            omega
    · right
      refine ⟨N, sc, 0, dgs, N, L, (L : Int) - sc, ?_, ?_, ⟨hr, by omega, by omega, by omega, by omega, by omega, ?_⟩, by omega, by omega⟩
      · rw [cp, cr.1 hbs, Option.bind_some]; rfl
      · rw [mp, m_126 e2 he hz b2 L _ _ _ (by omega) (by omega) (by omega) (mr.1 (by omega)), if_neg (noc _ _ _ _ hr id)]; rfl
      · rcases Nat.eq_zero_or_pos N with q | q
        · exact Or.inl ⟨q, q⟩
        · exact Or.inr ⟨q, 0, 0, rfl, by omega⟩
  · have he0 : 0 < e := by omega
    have hN0 : 0 < N := by omega
    have hz1 : 1 ≤ z := (hez he0).1
    have hL0 : 0 < L := by
      rcases Nat.eq_zero_or_pos L with q | q
      · subst q
        have := rep_z hr
        omega
      · exact q
    have hE : (nI L - nI sc) - nI z = iI ((L : Int) - sc - z) := by rw [hls, iI_n, iI_sub]
    have cp : f_NumberWriter_prepare W S v (nI sc) (nI j) = (f_NumberWriter_takeExponent (nW (bB neg) N sc (0 : Int32) (W_edges W) (W_hasFields W)) (nI z)).bind (fun o47 => (f_Decimal_roundTo (W_decimal o47) (S_mostFraction S) (nI j)).bind (fun o60 => (if o60.1 = 0 then some ((0 : Int32), (sW_decimal o47 o60.2)) else (f_NumberWriter_carryExponent (sW_decimal o47 o60.2) (nI z)).bind (fun o73 => some ((1 : Int32), o73))))) := by
      have hv0 : ¬ lg_cmp v 0 = 0 := by
        rw [hv, lg_cmp_eq]
        cases neg
        · rw [ib_f]
          exact fun q => absurd ((lN_inj (by omega) (by decide : 0 < 2 ^ 63)).mp q) (by omega)
        · rw [ib_t]
          intro q
          have : lN N = lN 0 := by rw [← @Int64.neg_neg (lN N), q]; rfl
          exact absurd ((lN_inj (by omega) (by decide)).mp this) (by omega)
      rw [e_NumberWriter_prepare, hset, Option.bind_some, e1, z1, if_neg (nI_ne0 (by omega) (by omega)), if_neg hv0]
      rfl
    have mp : f_Model_format_63 M (nI sc) (bB neg) s1 = f_Model_format_126 (mF M (M_written M) (M_end M) dgs (nI L) (iI z) (M_formatted M) (M_bounds M)) (bB neg) (nI z) (iI ((L : Int) - sc - z)) := by
      rw [m63, if_neg (nI_nle (by omega) (by omega)), if_neg (nI_nle (by omega) (by omega)), hE, iI_n z]
    have mr := m_round (M := M) (wr := M_written M) (en := M_end M) (fm := M_formatted M) (bd := M_bounds M) hr (by omega) (z : Int) (by omega) (by omega) hb hj hj7 neg (nI b) rfl
    have ct := c_takeE (ng := bB neg) (E := 0) (ed := W_edges W) (hf := W_hasFields W) (sc := sc) (rep_ndg hr) (by omega) hz
    rw [hE] at ct
    -- what follows the rounding
    have fin : ∀ (D pl N' L' : Nat) (P' : Int) (d' : Nat → Int32), pR d' N' L' P' D pl → ((z : Int) < P' → N' = 10 ^ (L' - 1) ∧ z ≤ L') → f_NumberWriter_prepare W S v (nI sc) (nI j) = (f_NumberWriter_carryExponent (nW (bB neg) D pl (iI ((L : Int) - sc - z)) (W_edges W) (W_hasFields W)) (nI z)).bind (fun o73 => some ((1 : Int32), o73)) →
        f_Model_round (mF M (M_written M) (M_end M) dgs (nI L) (iI z) (M_formatted M) (M_bounds M)) (nI b) (bB neg) = some (1, mF M (M_written M) (M_end M) d' (nI L') (iI P') (M_formatted M) (M_bounds M)) → prepOk M W S v sc j neg s1 := by
      intro D pl N' L' P' d' hp hcar hc hm
      obtain ⟨p1, p2, p3, p4, p5, p6, p7⟩ := id hp
      have hD63 : D < 2 ^ 63 := by omega
      have cc := c_carry (ng := bB neg) (E := iI ((L : Int) - sc - z)) (ed := W_edges W) (hf := W_hasFields W) (D := D) (pl := pl) hD63 (by omega) hz hz1
      right
      by_cases hcy : 0 < N' ∧ (z : Int) < P'
      · have cnt := pR_cnt hp hcy.1
        have hL1 : 0 < L' := by
          rcases Nat.eq_zero_or_pos L' with y | y
          · subst y
            have := rep_z p1
            omega
          · exact y
        have hge : 10 ^ z ≤ D / 10 ^ pl := by
          have w := cnt.2 (by omega)
          have : 10 ^ z ≤ 10 ^ (P'.toNat - 1) := Nat.pow_le_pow_right (by decide) (by omega)
          omega
        obtain ⟨hN1, hzL⟩ := hcar hcy.2
        refine ⟨10 ^ (z - 1), 0, (L : Int) - sc - z + 1, d', N', L', z, ?_, ?_, ⟨p1, p2, by omega, Nat.pow_le_pow_right (by decide) (by omega), by omega, by omega, Or.inr ⟨hcy.1, L' - z, 0, ?_, by omega⟩⟩, by omega, by omega⟩
        · rw [hc, cc.2 hge, Option.bind_some, show iI ((L : Int) - sc - z) + 1 = iI ((L : Int) - sc - z + 1) from iI_add _ 1]
        · rw [mp, m_126 e2 he hz b2 L _ _ _ p2 p5 p6 hm, if_pos ⟨he0, hL1, hcy.2⟩, show iI ((L : Int) - sc - z) + 1 = iI ((L : Int) - sc - z + 1) from iI_add _ 1]
        · rw [hN1, Nat.pow_zero, Nat.mul_one, ← Nat.pow_add, show z - 1 + (L' - z) = L' - 1 by omega]
      · refine ⟨D, pl, (L : Int) - sc - z, d', N', L', P', ?_, ?_, hp, by omega, by omega⟩
        · rw [hc, cc.1, Option.bind_some]
          rcases Nat.eq_zero_or_pos N' with q | q
          · rcases p7 with ⟨-, q2⟩ | ⟨q2, -⟩
            · rw [q2, Nat.zero_div]; exact p0 z
            · omega
          · have cnt := (pR_cnt hp q).1
            have : 10 ^ P'.toNat ≤ 10 ^ z := Nat.pow_le_pow_right (by decide) (by omega)
            omega
        · rw [mp, m_126 e2 he hz b2 L _ _ _ p2 p5 p6 hm, if_neg]
          intro ⟨_, q2, q3⟩
          exact hcy ⟨rep_pos p1 q2, q3⟩
    rcases Nat.lt_or_ge L z with hzl | hzl
    · -- few digits
      have hD' : N * 10 ^ (z - L) < 10 ^ z := by
        have := Nat.mul_lt_mul_of_pos_right hr.1 (p0 (z - L))
        rw [← Nat.pow_add, show L + (z - L) = z by omega] at this
        exact this
      have h12 : 10 ^ z ≤ 10 ^ 12 := Nat.pow_le_pow_right (by decide) hz
      have cr := hrnd (N * 10 ^ (z - L)) 0 (by omega) (by omega)
      refine fin (N * 10 ^ (z - L)) 0 N L z dgs ⟨hr, by omega, by omega, by omega, by omega, by omega, Or.inr ⟨hN0, 0, z - L, by rw [Nat.pow_zero, Nat.mul_one], by omega⟩⟩ (fun q => absurd q (by omega)) ?_ (mr.1 (by omega))
      rw [cp, ct.2 hzl, Option.bind_some, show W_decimal (nW (bB neg) (N * 10 ^ (z - L)) 0 (iI ((L : Int) - sc - z)) (W_edges W) (W_hasFields W)) = dC (bB neg) (N * 10 ^ (z - L)) 0 from rfl, cr.1 (by omega), Option.bind_some]
      rfl
    · have cr := hrnd N (L - z) hN62 (by omega)
      by_cases hbs : b < L - z
      · have hw1 : 1 ≤ L - z - b := by omega
        have hw2 : L - z - b ≤ L - 1 := by omega
        have hw3 : ((L - z - b : Nat) : Int) = L - ((z : Int) + b) := by omega
        have hw4 : ((z : Int) + b).toNat = z + b := by omega
        have crw := cr.2 (L - z - b) rfl hw1
        have mrw := mr.2 (L - z - b) hw3 hw1
        by_cases hno : 0 < N % 10 ^ (L - z - b) ∧ j = 7
        · left
          refine ⟨nW (bB neg) N (L - z) (iI ((L : Int) - sc - z)) (W_edges W) (W_hasFields W), ?_, rfl, rfl, dgs, nI L, iI z, ?_⟩
          · rw [cp, ct.1 hzl, Option.bind_some, show W_decimal (nW (bB neg) N (L - z) (iI ((L : Int) - sc - z)) (W_edges W) (W_hasFields W)) = dC (bB neg) N (L - z) from rfl, crw.1 hno, Option.bind_some]; rfl
          · rw [mp, m_126f b2 L _ _ _ _ (mrw.1 hno)]
        · obtain ⟨d', L', P', r1, r2, r3, r4, r5⟩ := mrw.2 hno
          have crw2 := crw.2 hno
          clear mrw crw
          have hq : N / 10 ^ (L - z - b) ≤ N / 10 := by
            have : 10 ^ 1 ≤ 10 ^ (L - z - b) := Nat.pow_le_pow_right (by decide) hw1
            exact Nat.div_le_div_left this (by decide)
          have hn' : N / 10 ^ (L - z - b) + (if rup j neg N (10 ^ (L - z - b)) = true then 1 else 0) < 10 ^ 17 := by split <;> omega
          have hL' : L' ≤ 17 := rep_L r2 hn'
          have htr := rep_trunc (K := (z : Int) + b) (w := L - z - b) hr hw3 hw1
          have hup : N / 10 ^ (L - z - b) + (if rup j neg N (10 ^ (L - z - b)) = true then 1 else 0) ≤ 10 ^ (z + b) := by
            have := htr.1
            rw [hw4] at this
            split <;> omega
          refine fin (N / 10 ^ (L - z - b) + (if rup j neg N (10 ^ (L - z - b)) = true then 1 else 0)) b _ L' P' d' ⟨r2, Nat.le_trans hL' (by decide), hb, Nat.le_of_lt hn', r4, r5, ?_⟩ (fun q => ?_) ?_ r1
          · rcases Nat.eq_zero_or_pos (N / 10 ^ (L - z - b) + (if rup j neg N (10 ^ (L - z - b)) = true then 1 else 0)) with q | q
            · exact Or.inl ⟨q, q⟩
            · refine Or.inr ⟨q, 0, 0, rfl, ?_⟩
              have hL0 : 0 < L' := by
                rcases Nat.eq_zero_or_pos L' with y | y
                · subst y
                  have := rep_z r2
                  omega
                · exact y
              have := r3 hL0
              omega
          · have hpos : 0 < N / 10 ^ (L - z - b) := by
              apply Nat.div_pos _ (p0 _)
              exact Nat.le_trans (Nat.pow_le_pow_right (by decide) hw2) (hr.2.1 hL0)
            have hpos' : 0 < N / 10 ^ (L - z - b) + (if rup j neg N (10 ^ (L - z - b)) = true then 1 else 0) := Nat.lt_of_lt_of_le hpos (Nat.le_add_right _ _)
            generalize N / 10 ^ (L - z - b) + (if rup j neg N (10 ^ (L - z - b)) = true then 1 else 0) = N' at *
            have hL1 : 0 < L' := by
              rcases Nat.eq_zero_or_pos L' with y | y
              · subst y
                have := rep_z r2
                omega
              · exact y
            have r3' := r3 hL1
            have lo := r2.2.1 hL1
            have h3 : 10 ^ (z + b) ≤ 10 ^ (L' - 1) := Nat.pow_le_pow_right (by decide) (by omega)
            have h4 : L' - 1 < z + b + 1 := plt (Nat.lt_of_le_of_lt (Nat.le_trans lo hup) (Nat.pow_lt_pow_right (by decide) (by omega)))
            exact ⟨by omega, by omega⟩
          · rw [cp, ct.1 hzl, Option.bind_some, show W_decimal (nW (bB neg) N (L - z) (iI ((L : Int) - sc - z)) (W_edges W) (W_hasFields W)) = dC (bB neg) N (L - z) from rfl, crw2, Option.bind_some]
            rfl
      · refine fin N (L - z) N L z dgs ⟨hr, by omega, by omega, by omega, by omega, by omega, Or.inr ⟨hN0, 0, 0, rfl, by omega⟩⟩ (fun q => absurd q (by omega)) ?_ (mr.1 (by omega))
        rw [cp, ct.1 hzl, Option.bind_some, show W_decimal (nW (bB neg) N (L - z) (iI ((L : Int) - sc - z)) (W_edges W) (W_hasFields W)) = dC (bB neg) N (L - z) from rfl, cr.1 hbs, Option.bind_some]
        rfl
