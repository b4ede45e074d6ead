-- the reference reads a body
def mR (M : T_Model) (nr : Int64) (ns lg : Int32) : T_Model := (M_text M, M_size M, M_written M, M_end M, M_how M, M_there M, M_element M, M_elements M, M_kept M, M_at M, M_wrong M, M_open M, M_keeping M, M_digit M, M_digits M, M_point M, M_formatted M, M_bounds M, M_read M, M_readScale M, nr, ns, lg)
section MRF
variable (M : T_Model) (nr : Int64) (ns lg : Int32)
theorem mR_text : M_text (mR M nr ns lg) = M_text M := rfl
theorem mR_size : M_size (mR M nr ns lg) = M_size M := rfl
theorem mR_kept : M_kept (mR M nr ns lg) = M_kept M := rfl
theorem mR_large : M_large (mR M nr ns lg) = lg := rfl
theorem mR_sl (x : Int32) : sM_large (mR M nr ns lg) x = mR M nr ns x := rfl
theorem mR_sr (x : Int64) : sM_newRead (mR M nr ns lg) x = mR M x ns lg := rfl
theorem mR_ss (x : Int32) : sM_newScale (mR M nr ns lg) x = mR M nr x lg := rfl
theorem mR_self : M = mR M (M_newRead M) (M_newScale M) (M_large M) := rfl
end MRF
theorem m_digAt {M : T_Model} {T : Nat → Nat} {n e : Nat} (hM : ModOf M T n) (he : e ≤ n) {nr : Int64} {ns lg : Int32} (q : Nat) (hq : q < 1000) : f_Model_digitAt (mR M nr ns lg) (nI q) (nI e) = some (bB (isD T e q)) := by
  have hn := hM.2.1
  rw [e_Model_digitAt]
  unfold isD
  by_cases h : q < e
  · have hv := hM.2.2 q (by omega)
    have hx : M_text M (nI q).toNatClampNeg = nI (T q) := by rw [nI_clamp (by omega)]; exact hv.1
    rw [if_neg (nI_ge h (by omega)), if_pos (ixN (by omega) (by decide)), mR_text, hx, decide_eq_true h, Bool.true_and]
    by_cases h1 : 48 ≤ T q
    · rw [if_neg (li_nlt 48 48 rfl h1 (by omega)), if_pos (ixN (by omega) (by decide)), decide_eq_true h1, Bool.true_and]
      by_cases h2 : T q ≤ 57
      · rw [if_neg (li_ngt 57 57 rfl h2 (by decide)), decide_eq_true h2]; rfl
      · rw [if_pos (li_gt 57 57 rfl (by omega) (by omega)), decide_eq_false h2]; rfl
    · rw [if_pos (li_lt 48 48 rfl (by omega) (by decide)), decide_eq_false h1]; rfl
  · rw [if_pos (nI_le (by omega) (by omega)), decide_eq_false h]; rfl
abbrev K28 : Type := T_Model → Int32 → Int32 → Int64 → Int32 → Int32 → Int32 → Int32 → Int32 → Int32 → Int32 → Option O_Model_body
theorem m_147 {M : T_Model} {nr : Int64} {ns : Int32} (K : K28) (x1 x2 x5 x7 x8 x9 x10 x11 x12 : Int32) (D z : Nat) (hz : z < 1000) : ∀ (m j : Nat), z + 1 - j < m → j ≤ z + 1 →
    f_Model_body_147 K m (mR M nr ns (bB false)) x1 x2 (lN (D * 10 ^ j)) x5 (nI z) x7 x8 x9 x10 x11 x12 (nI j) = f_Model_body_173 K (mR M nr ns (bB false)) x1 x2 (lN (D * 10 ^ (z + 1))) x5 x7 x8 x9 x10 x11 x12 := by
  intro m
  induction m with
  | zero => intro j h; omega
  | succ m ih =>
    intro j hm hj
    rw [e_Model_body_147]
    by_cases q : j = z + 1
    · subst q
      rw [if_pos (nI_lt (by omega) (by omega))]
    · rw [if_neg (nI_nlt (by omega) (by omega)), mR_large, if_pos b_f, show lN (D * 10 ^ j) * 10 = lN (D * 10 ^ (j + 1)) by rw [show (10 : Int64) = lN 10 from rfl, lN_mul, Nat.pow_succ, Nat.mul_assoc], nI_1, ih (j + 1) (by omega) (by omega)]
theorem m_147L {M : T_Model} {nr : Int64} {ns : Int32} (K : K28) (x1 x2 : Int32) (x3 : Int64) (x5 x6 x7 x8 x9 x10 x11 x12 x13 : Int32) (m : Nat) :
    f_Model_body_147 K (m + 1) (mR M nr ns (bB true)) x1 x2 x3 x5 x6 x7 x8 x9 x10 x11 x12 x13 = f_Model_body_173 K (mR M nr ns (bB true)) x1 x2 x3 x5 x7 x8 x9 x10 x11 x12 := by
  rw [e_Model_body_147, mR_large, if_neg b_t]
  split <;> rfl
theorem m_306 {K : K28} {v0 : T_Model} {x1 x2 : Int32} {x3 : Int64} {x5 x6 x7 x8 x9 : Int32} {p : Nat} : f_Model_body_306 K v0 x1 x2 x3 x5 x6 x7 x8 x9 (nI p) (1 : Int32) = K v0 x1 x2 x3 x5 x6 x7 x8 x9 (nI (p + 1)) (1 : Int32) := by
  rw [e_Model_body_306, if_neg (show ¬ (1 : Int32) = 0 by decide), e_Model_body_320, nI_1]
theorem m_take {M : T_Model} {nr : Int64} {ns : Int32} (Kf : K28) (x1 x2 x7 x8 x9 : Int32) {K f d p : Nat} {s : St} (h : gI s K) (hK : K ≤ 120) (hd : d ≤ 9) (x : Int32) (hx : x = nI d) :
    f_Model_body_75 Kf (mR M nr ns (bB (decide (17 < s.2.1)))) x1 x2 (lN s.1) (nI s.2.1) (nI s.2.2.2.1) x8 x9 (nI p) (1 : Int32) x x7 = Kf (mR M nr ns (bB (decide (17 < (dg f d s).2.1)))) x1 x2 (lN (dg f d s).1) (nI (dg f d s).2.1) (nI (dg f d s).2.2.2.1) x7 x8 x9 (nI (p + 1)) (1 : Int32) := by
  subst hx
  obtain ⟨D, c, zc, zr, al, fr⟩ := s
  obtain ⟨h1, h2, h3, h4, h5, h6, h7, h8⟩ := h
  dsimp only at h1 h2 h3 h4 h5 h6 h7 h8
  have hD : D < 2 ^ 63 := Nat.lt_of_lt_of_le h3 (by decide)
  unfold dg
  dsimp only
  rw [e_Model_body_75]
  by_cases q : d = 0
  · subst q
    rw [if_pos (show nI 0 = 0 from rfl), if_pos rfl, e_Model_body_91, if_pos (show nI 0 ≤ 0 by decide), e_Model_body_193, m_306, nI_1]
  · rw [if_neg (nI_ne0 (by omega) (by omega)), if_neg q, e_Model_body_91, if_neg (nI_nle (by omega) (by omega))]
    have go : f_Model_body_110 Kf (mR M nr ns (bB (decide (17 < c)))) x1 x2 (lN D) (nI c) x7 x8 x9 (nI p) (1 : Int32) (nI d) (nI zc) = Kf (mR M nr ns (bB (decide (17 < c + zc + 1)))) x1 x2 (lN (if 17 < c + zc + 1 then D else D * 10 ^ (zc + 1) + d)) (nI (c + zc + 1)) (nI 0) x7 x8 x9 (nI (p + 1)) (1 : Int32) := by
      have f1 : ∀ lg, f_Model_body_136 Kf (mR M nr ns lg) x1 x2 (lN D) (nI (c + zc + 1)) (nI zc) x7 x8 x9 (nI p) (1 : Int32) (nI d) = Kf (mR M nr ns (bB true)) x1 x2 (lN D) (nI (c + zc + 1)) (nI 0) x7 x8 x9 (nI (p + 1)) (1 : Int32) := by
        intro lg
        rw [e_Model_body_136, e_Model_body_141, if_pos (Or.inr rfl), mR_sl, FU_val, show (1 : Int32) = bB true from rfl, m_147L, e_Model_body_173, mR_large, if_neg b_t, e_Model_body_189, e_Model_body_193]
        exact m_306
      rw [e_Model_body_110, mR_large, nI_add, nI_1]
      by_cases q17 : 17 < c + zc + 1
      · rw [decide_eq_true q17, if_pos q17]
        by_cases qc : 17 < c
        · rw [decide_eq_true qc, if_neg b_t, f1]
        · rw [decide_eq_false qc, if_pos b_f, if_neg (li_nge 17 17 rfl q17 (by omega)), f1]
      · rw [decide_eq_false q17, if_neg q17, decide_eq_false (show ¬ 17 < c by omega), if_pos b_f, if_pos (li_ge 17 17 rfl (by omega) (by decide)), e_Model_body_141, if_pos (Or.inl rfl), mR_sl, show (0 : Int32) = bB false from rfl]
        have := m_147 (M := M) (nr := nr) (ns := ns) Kf x1 x2 (nI (c + zc + 1)) x7 x8 x9 (nI p) (1 : Int32) (nI d) D zc (by omega) FU 0 (by rw [FU_val]; omega) (by omega)
        rw [Nat.pow_zero, Nat.mul_one] at this
        rw [show bB false = nI 0 from rfl, show nI 0 = bB false from rfl] at *
        rw [show f_Model_body_147 Kf FU (mR M nr ns (bB false)) x1 x2 (lN D) (nI (c + zc + 1)) (nI zc) x7 x8 x9 (nI p) (1 : Int32) (nI d) (bB false) = _ from this, e_Model_body_173, mR_large, if_pos b_f, nI_l (by omega), lN_add, e_Model_body_189, e_Model_body_193]
        exact m_306
    have fin : f_Model_body_110 Kf (mR M nr ns (bB (decide (17 < c)))) x1 x2 (lN D) (nI c) x7 x8 x9 (nI p) (1 : Int32) (nI d) (nI zc) = Kf (mR M nr ns (bB (decide (17 < (if 17 < c + zc + 1 then (D, c + zc + 1, 0, 0, al + 1, fr + f) else (D * 10 ^ (zc + 1) + d, c + zc + 1, 0, 0, al + 1, fr + f) : St).2.1)))) x1 x2 (lN (if 17 < c + zc + 1 then (D, c + zc + 1, 0, 0, al + 1, fr + f) else (D * 10 ^ (zc + 1) + d, c + zc + 1, 0, 0, al + 1, fr + f) : St).1) (nI (if 17 < c + zc + 1 then (D, c + zc + 1, 0, 0, al + 1, fr + f) else (D * 10 ^ (zc + 1) + d, c + zc + 1, 0, 0, al + 1, fr + f) : St).2.1) (nI (if 17 < c + zc + 1 then (D, c + zc + 1, 0, 0, al + 1, fr + f) else (D * 10 ^ (zc + 1) + d, c + zc + 1, 0, 0, al + 1, fr + f) : St).2.2.2.1) x7 x8 x9 (nI (p + 1)) (1 : Int32) := by
      rw [go]
      split <;> rfl
    by_cases qD : D = 0
    · have hc : c = 0 := by
        rcases Nat.eq_zero_or_pos c with z | z
        · exact z
        · have := (h2 z).2; omega
      rw [if_pos ((lc_0 hD 0 0 rfl (by decide)).mpr qD)]
      rw [(h1 hc).1] at fin ⊢
      exact fin
    · have hc : 0 < c := by
        rcases Nat.eq_zero_or_pos c with z | z
        · exact absurd (h1 z).2 qD
        · exact z
      rw [if_neg (fun z => qD ((lc_0 hD 0 0 rfl (by decide)).mp z)), ← (h2 hc).1]
      exact fin
