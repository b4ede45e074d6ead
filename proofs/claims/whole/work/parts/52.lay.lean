-- ints that are integers; rows of digits
def iI (z : Int) : Int32 := Int32.ofInt z
theorem iI_n (n : Nat) : nI n = iI (n : Int) := Int32.ofInt_eq_ofNat.symm
theorem iI_add (a b : Int) : iI a + iI b = iI (a + b) := (Int32.ofInt_add a b).symm
theorem iI_sub (a b : Int) : iI a - iI b = iI (a - b) := (Int32.ofInt_sub a b).symm
theorem iI_neg (a : Int) : -(iI a) = iI (-a) := (Int32.ofInt_neg a).symm
theorem iI_I {z : Int} (h1 : -1000000 ≤ z) (h2 : z ≤ 1000000) : (iI z).toInt = z := Int32.toInt_ofInt_of_le (by omega) (by omega)
theorem iI_lt {a b : Int} (ha : -1000000 ≤ a) (ha2 : a ≤ 1000000) (hb : -1000000 ≤ b) (hb2 : b ≤ 1000000) : iI a < iI b ↔ a < b := by
  rw [Int32.lt_iff_toInt_lt, iI_I ha ha2, iI_I hb hb2]
theorem iI_le {a b : Int} (ha : -1000000 ≤ a) (ha2 : a ≤ 1000000) (hb : -1000000 ≤ b) (hb2 : b ≤ 1000000) : iI a ≤ iI b ↔ a ≤ b := by
  rw [Int32.le_iff_toInt_le, iI_I ha ha2, iI_I hb hb2]
theorem iI_0le {a : Int} (ha : -1000000 ≤ a) (ha2 : a ≤ 1000000) : 0 ≤ iI a ↔ 0 ≤ a := iI_le (a := 0) (by omega) (by omega) ha ha2
theorem iI_le0 {a : Int} (ha : -1000000 ≤ a) (ha2 : a ≤ 1000000) : iI a ≤ 0 ↔ a ≤ 0 := iI_le (b := 0) ha ha2 (by omega) (by omega)
theorem iI_lt0 {a : Int} (ha : -1000000 ≤ a) (ha2 : a ≤ 1000000) : iI a < 0 ↔ a < 0 := iI_lt (b := 0) ha ha2 (by omega) (by omega)
theorem iI_nat {a : Int} (h : 0 ≤ a) : iI a = nI a.toNat := by
  rw [iI_n]
  congr 1
  omega
def rep (dg : Nat → Int32) (N L : Nat) : Prop := N < 10 ^ L ∧ (0 < L → 10 ^ (L - 1) ≤ N) ∧ ∀ i, i < L → dg i = nI (N / 10 ^ (L - 1 - i) % 10)
theorem rep_0 (dg : Nat → Int32) : rep dg 0 0 := ⟨by decide, fun h => absurd h (by decide), fun i h => absurd h (Nat.not_lt_zero i)⟩
theorem rep_z {dg : Nat → Int32} {N : Nat} (h : rep dg N 0) : N = 0 := by
  have := h.1
  rw [Nat.pow_zero] at this
  omega
theorem rep_pos {dg : Nat → Int32} {N L : Nat} (h : rep dg N L) (hL : 0 < L) : 0 < N := Nat.lt_of_lt_of_le (p0 (L - 1)) (h.2.1 hL)
theorem rep_L {dg : Nat → Int32} {N L k : Nat} (h : rep dg N L) (hN : N < 10 ^ k) : L ≤ k := by
  rcases Nat.lt_or_ge k L with q | q
  · have h1 := h.2.1 (by omega)
    have h2 : 10 ^ k ≤ 10 ^ (L - 1) := Nat.pow_le_pow_right (by decide) (by omega)
    omega
  · exact q
theorem rep_push {dg : Nat → Int32} {N L d : Nat} (h : rep dg N L) (hd : d ≤ 9) (hp : 0 < d ∨ 0 < L) : rep (upd dg L (nI d)) (10 * N + d) (L + 1) := by
  obtain ⟨h1, h2, h3⟩ := h
  refine ⟨?_, fun _ => ?_, fun i hi => ?_⟩
  · rw [Nat.pow_succ]; omega
  · rw [show L + 1 - 1 = L from rfl]
    rcases Nat.eq_zero_or_pos L with q | q
    · subst q
      rw [Nat.pow_zero]; omega
    · have := h2 q
      rw [show L = (L - 1) + 1 by omega, Nat.pow_succ]
      omega
  · by_cases q : i = L
    · subst q
      rw [pk_us, show i + 1 - 1 - i = 0 by omega, Nat.pow_zero, Nat.div_one, show (10 * N + d) % 10 = d by omega]
    · rw [pk_un q, h3 i (by omega), show L + 1 - 1 - i = (L - 1 - i) + 1 by omega, Nat.pow_succ, Nat.mul_comm _ 10, ← Nat.div_div_eq_div_mul, show (10 * N + d) / 10 = N by omega]
-- states of the reference while it formats
def mF (M : T_Model) (wr : Nat → Int32) (en : Int32) (dgs : Nat → Int32) (ds pt fm : Int32) (bd : Nat → Int32) : T_Model := (M_text M, M_size M, wr, en, M_how M, M_there M, M_element M, M_elements M, M_kept M, M_at M, M_wrong M, M_open M, M_keeping M, dgs, ds, pt, fm, bd, M_read M, M_readScale M, M_newRead M, M_newScale M, M_large M)
theorem mF_self (M : T_Model) : M = mF M (M_written M) (M_end M) (M_digit M) (M_digits M) (M_point M) (M_formatted M) (M_bounds M) := rfl
section MFF
variable (M : T_Model) (wr : Nat → Int32) (en : Int32) (dgs : Nat → Int32) (ds pt fm : Int32) (bd : Nat → Int32)
theorem mF_digit : M_digit (mF M wr en dgs ds pt fm bd) = dgs := rfl
theorem mF_digits : M_digits (mF M wr en dgs ds pt fm bd) = ds := rfl
theorem mF_point : M_point (mF M wr en dgs ds pt fm bd) = pt := rfl
theorem mF_how : M_how (mF M wr en dgs ds pt fm bd) = M_how M := rfl
theorem mF_kept : M_kept (mF M wr en dgs ds pt fm bd) = M_kept M := rfl
theorem mF_end : M_end (mF M wr en dgs ds pt fm bd) = en := rfl
theorem mF_bounds : M_bounds (mF M wr en dgs ds pt fm bd) = bd := rfl
theorem mF_sdigit (x : Nat → Int32) : sM_digit (mF M wr en dgs ds pt fm bd) x = mF M wr en x ds pt fm bd := rfl
theorem mF_sdigits (x : Int32) : sM_digits (mF M wr en dgs ds pt fm bd) x = mF M wr en dgs x pt fm bd := rfl
theorem mF_spoint (x : Int32) : sM_point (mF M wr en dgs ds pt fm bd) x = mF M wr en dgs ds x fm bd := rfl
theorem mF_sbounds (x : Nat → Int32) : sM_bounds (mF M wr en dgs ds pt fm bd) x = mF M wr en dgs ds pt fm x := rfl
theorem mF_mW (wr' : Nat → Int32) (en' : Int32) : mW (mF M wr en dgs ds pt fm bd) wr' en' = mF M wr' en' dgs ds pt fm bd := rfl
end MFF
theorem m_lay {M : T_Model} {wr : Nat → Int32} {en pt fm : Int32} {bd : Nat → Int32} {N : Nat} (hN : N < 10 ^ 18) : ∀ (k m : Nat) (dgs : Nat → Int32) (L : Nat), k < m → k ≤ 18 → rep dgs (N / 10 ^ k) L →
    ∃ dgs' L', f_Model_lay_9 m (mF M wr en dgs (nI L) pt fm bd) (lN N) (if k = 0 then lN 0 else lN (10 ^ (k - 1))) = some (mF M wr en dgs' (nI L') pt fm bd) ∧ rep dgs' N L' := by
  have hN63 : N < 2 ^ 63 := Nat.lt_trans hN (by decide)
  intro k
  induction k with
  | zero =>
    intro m dgs L hm _ hr
    rw [Nat.pow_zero, Nat.div_one] at hr
    refine ⟨dgs, L, ?_, hr⟩
    rw [show m = (m - 1) + 1 by omega, e_Model_lay_9, if_pos rfl, if_pos ((lc_le (by decide) 0 0 rfl (by decide)).mpr (Nat.le_refl _))]
  | succ k ih =>
    intro m dgs L hm hk hr
    have hk1 := p18 (k := k) (by omega)
    have hk0 := p0 k
    have hd : N / 10 ^ k % 10 ≤ 9 := by omega
    have hNk : N / 10 ^ k < 2 ^ 63 := Nat.lt_of_le_of_lt (Nat.div_le_self _ _) hN63
    have hval : 10 * (N / 10 ^ (k + 1)) + N / 10 ^ k % 10 = N / 10 ^ k := by
      rw [Nat.pow_succ, ← Nat.div_div_eq_div_mul]; omega
    have hL : L ≤ 18 := rep_L hr (Nat.lt_of_le_of_lt (Nat.div_le_self _ _) hN)
    have e10 : (10 : Int64) = lN 10 := rfl
    rw [show m = (m - 1) + 1 by omega, e_Model_lay_9, if_neg (Nat.succ_ne_zero k), show k + 1 - 1 = k from rfl, if_neg (fun z => absurd ((lc_le hk1 0 0 rfl (by decide)).mp z) (by omega)), if_pos (show ¬ lN (10 ^ k) = 0 from pw_ne (k := k) (by omega)), lN_div hN63 hk0 hk1, e10, lN_rem hNk (by decide) (by decide), lN_i, mF_digits]
    have e58 : ∀ v, f_Model_lay_58 (f_Model_lay_9 (m - 1)) v (lN N) (lN (10 ^ k)) = f_Model_lay_9 (m - 1) v (lN N) (if k = 0 then lN 0 else lN (10 ^ (k - 1))) := by
      intro v
      rw [e_Model_lay_58, e10, lN_div hk1 (by decide) (by decide)]
      by_cases q : k = 0
      · subst q; rfl
      · rw [if_neg q]
        have hp : 10 ^ k = 10 ^ (k - 1) * 10 := by rw [← Nat.pow_succ, show (k - 1).succ = k by omega]
        congr 2
        omega
    have e37 : (0 < N / 10 ^ k % 10 ∨ 0 < L) → ∃ dgs' L', f_Model_lay_37 (f_Model_lay_9 (m - 1)) (mF M wr en dgs (nI L) pt fm bd) (lN N) (lN (10 ^ k)) (nI (N / 10 ^ k % 10)) = some (mF M wr en dgs' (nI L') pt fm bd) ∧ rep dgs' N L' := by
      intro hp
      have hr' := rep_push hr hd hp
      rw [hval] at hr'
      rw [e_Model_lay_37, mF_digits, mF_digit, if_pos (ixN (by omega) (by decide)), nI_clamp (by omega), mF_sdigit, mF_sdigits, nI_1, e58]
      exact ih (m - 1) _ (L + 1) (by omega) (by omega) hr'
    by_cases q : N / 10 ^ k % 10 = 0
    · rw [if_neg (show ¬ 0 < nI (N / 10 ^ k % 10) by rw [q]; decide)]
      by_cases q2 : L = 0
      · subst q2
        rw [if_pos (show nI 0 ≤ 0 by decide), e58]
        have hz : N / 10 ^ k = 0 := by
          have := rep_z hr
          omega
        exact ih (m - 1) dgs 0 (by omega) (by omega) (by rw [hz]; exact rep_0 dgs)
      · rw [if_neg (nI_nle (by omega) (by omega))]
        exact e37 (Or.inr (by omega))
    · rw [if_pos (li_gt 0 0 rfl (by omega) (by omega))]
      exact e37 (Or.inl (by omega))
theorem m_lay0 {M : T_Model} {wr : Nat → Int32} {en pt fm ds : Int32} {bd dgs : Nat → Int32} {N : Nat} (hN : N < 10 ^ 18) : ∃ dgs' L', f_Model_lay (mF M wr en dgs ds pt fm bd) (lN N) = some (mF M wr en dgs' (nI L') pt fm bd) ∧ rep dgs' N L' := by
  have := m_lay (M := M) (wr := wr) (en := en) (pt := pt) (fm := fm) (bd := bd) hN 18 FU dgs 0 (by rw [FU_val]; omega) (by omega) (by rw [Nat.div_eq_of_lt hN]; exact rep_0 dgs)
  exact this
