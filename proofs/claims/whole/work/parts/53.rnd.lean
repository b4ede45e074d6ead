-- rounding: what is asked of both, and the reference's side
def aw (j : Nat) (neg : Bool) (q r u : Nat) : Bool := if j = 0 then true else if j = 1 then false else if j = 2 then !neg else if j = 3 then neg else if j = 4 then decide (u ≤ 2 * r) else if j = 5 then decide (u < 2 * r) else decide (u < 2 * r) || (decide (u = 2 * r) && decide (q % 2 = 1))
def rcc (r u : Nat) : Nat := if r = 0 then 0 else if 2 * r < u then 1 else if 2 * r = u then 2 else 3
def rE (x : Nat) (fl : Bool) : Nat := if x = 0 ∧ fl = false then 0 else if x < 5 then 1 else if x = 5 ∧ fl = false then 2 else 3
def rup (j : Nat) (neg : Bool) (N u : Nat) : Bool := decide (0 < N % u) && aw j neg (N / u) (N % u) u
theorem dv1 (a s k : Nat) : a * 10 ^ s / 10 ^ (s + k) = a / 10 ^ k := by
  rw [Nat.pow_add, Nat.mul_comm (10 ^ s), Nat.mul_div_mul_right _ _ (p0 s)]
theorem dv2 (a : Nat) {s k : Nat} (h : k ≤ s) : a * 10 ^ s / 10 ^ k = a * 10 ^ (s - k) := by
  rw [show 10 ^ s = 10 ^ (s - k) * 10 ^ k by rw [← Nat.pow_add, show s - k + k = s by omega], ← Nat.mul_assoc, Nat.mul_div_cancel _ (p0 k)]
theorem dv3 (a : Nat) {k : Nat} (h : 0 < k) : a * 10 ^ k % 10 = 0 := by
  rw [show k = (k - 1) + 1 by omega, Nat.pow_succ, ← Nat.mul_assoc]
  omega
theorem m_r75 {v : T_Model} {x : Nat} (fl : Bool) (hx : x ≤ 9) (h : ¬ (x = 0 ∧ fl = false)) : f_Model_rest_75 v (nI x) (bB fl) = some (nI (rE x fl)) := by
  rw [e_Model_rest_75]
  unfold rE
  rw [if_neg h]
  by_cases c : x < 5
  · rw [if_neg (li_nle 5 5 rfl c (by decide)), if_pos c]; rfl
  · rw [if_pos (li_le 5 5 rfl (by omega) (by omega)), if_neg c]
    by_cases c2 : x = 5
    · subst c2
      rw [if_neg (li_ngt 5 5 rfl (by omega) (by decide))]
      cases fl
      · rw [if_pos b_f, if_pos ⟨rfl, rfl⟩]; rfl
      · rw [if_neg b_t, if_neg (fun z => by cases z.2)]; rfl
    · rw [if_pos (li_gt 5 5 rfl (by omega) (by omega)), if_neg (fun z => c2 z.1)]; rfl
theorem m_r30 {M : T_Model} {wr : Nat → Int32} {en pt fm : Int32} {bd dgs : Nat → Int32} {N L : Nat} (hr : rep dgs N L) (hL : L ≤ 18) {x : Nat} (hx : x ≤ 9) : ∀ (t m : Nat) (fl : Bool), t < m → t ≤ L →
    f_Model_rest_30 (mF M wr en dgs (nI L) pt fm bd) m (nI x) (bB fl) (nI (L - t)) = some (nI (rE x (fl || decide (0 < N % 10 ^ t)))) := by
  intro t
  induction t with
  | zero =>
    intro m fl hm _
    rw [show m = (m - 1) + 1 by omega, e_Model_rest_30, mF_digits, if_pos (nI_le (by omega) (by omega)), Nat.pow_zero, Nat.mod_one, decide_eq_false (Nat.lt_irrefl 0), Bool.or_false]
    by_cases c : x = 0
    · subst c
      rw [if_pos (show nI 0 = 0 from rfl)]
      cases fl
      · rw [if_pos b_f]; rfl
      · rw [if_neg b_t]
        exact m_r75 true hx (fun z => by cases z.2)
    · rw [if_neg (nI_ne0 (by omega) (by omega))]
      exact m_r75 fl hx (fun z => c z.1)
  | succ t ih =>
    intro m fl hm ht
    have hms : N % 10 ^ (t + 1) = N % 10 ^ t + 10 ^ t * (N / 10 ^ t % 10) := Nat.mod_pow_succ
    have hd := hr.2.2 (L - (t + 1)) (by omega)
    rw [show L - 1 - (L - (t + 1)) = t by omega] at hd
    have ht0 := p0 t
    have e53 : f_Model_rest_53 (mF M wr en dgs (nI L) pt fm bd) (f_Model_rest_30 (mF M wr en dgs (nI L) pt fm bd) (m - 1)) (nI x) (nI (L - (t + 1))) = some (nI (rE x true)) := by
      rw [e_Model_rest_53, e_Model_rest_58, nI_1, show L - (t + 1) + 1 = L - t by omega]
      have := ih (m - 1) true (by omega) (by omega)
      rw [Bool.true_or] at this
      exact this
    rw [show m = (m - 1) + 1 by omega, e_Model_rest_30, mF_digits, if_neg (nI_ge (by omega) (by omega))]
    cases fl
    · rw [if_pos b_f, if_pos (ixN (by omega) (by decide)), mF_digit, nI_clamp (by omega), hd, Bool.false_or]
      by_cases c : N / 10 ^ t % 10 = 0
      · rw [if_pos (show nI (N / 10 ^ t % 10) ≤ 0 by rw [c]; decide), e_Model_rest_58, nI_1, show L - (t + 1) + 1 = L - t by omega]
        have := ih (m - 1) false (by omega) (by omega)
        rw [Bool.false_or] at this
        rw [hms, c, Nat.mul_zero, Nat.add_zero]
        exact this
      · rw [if_neg (nI_nle (by omega) (by omega)), e53, decide_eq_true]
        rw [hms]
        have : 10 ^ t * 1 ≤ 10 ^ t * (N / 10 ^ t % 10) := Nat.mul_le_mul_left _ (by omega)
        omega
    · rw [if_neg b_t, e53, Bool.true_or]
theorem m_rest {M : T_Model} {wr : Nat → Int32} {en pt fm : Int32} {bd dgs : Nat → Int32} {N L : Nat} (hr : rep dgs N L) (hL : L ≤ 18) (K : Int) (w : Nat) (hw : (w : Int) = L - K) (hw1 : 1 ≤ w) (hw2 : w ≤ 100) : f_Model_rest (mF M wr en dgs (nI L) pt fm bd) (iI K) = some (nI (rcc (N % 10 ^ w) (10 ^ w))) := by
  rw [e_Model_rest]
  by_cases c : 0 ≤ K
  · obtain ⟨k, rfl⟩ := Int.eq_ofNat_of_zero_le c
    have hk : k < L := by omega
    have hwk : w = (L - 1 - k) + 1 := by omega
    have h0 := p0 (L - 1 - k)
    have hm : N % 10 ^ (L - 1 - k) < 10 ^ (L - 1 - k) := Nat.mod_lt _ h0
    have hms : N % 10 ^ w = N % 10 ^ (L - 1 - k) + 10 ^ (L - 1 - k) * (N / 10 ^ (L - 1 - k) % 10) := by rw [hwk]; exact Nat.mod_pow_succ
    have hx : N / 10 ^ (L - 1 - k) % 10 ≤ 9 := by omega
    have r30 := m_r30 (M := M) (wr := wr) (en := en) (pt := pt) (fm := fm) (bd := bd) hr hL hx (L - 1 - k) FU false (by rw [FU_val]; omega) (by omega)
    rw [show L - (L - 1 - k) = k + 1 by omega, Bool.false_or] at r30
    rw [show iI ((k : Nat) : Int) = nI k from (iI_n k).symm, if_pos (nI_pos' (by omega)), if_pos (ixN (by omega) (by decide)), mF_digit, nI_clamp (by omega), hr.2.2 k hk, e_Model_rest_14, if_pos (nI_pos' (by omega)), e_Model_rest_28, nI_1, show (0 : Int32) = bB false from rfl, r30]
    congr 2
    have hu : 10 ^ w = 10 ^ (L - 1 - k) * 10 := by rw [hwk, Nat.pow_succ]
    rw [hms, hu]
    generalize 10 ^ (L - 1 - k) = h at *
    generalize N % h = y at *
    generalize N / h % 10 = x at *
    unfold rE rcc
    rcases Nat.eq_zero_or_pos y with hy | hy
    · subst hy
      rw [decide_eq_false (Nat.lt_irrefl 0), Nat.zero_add]
      rcases Nat.lt_trichotomy x 5 with q | q | q
      · rcases Nat.eq_zero_or_pos x with qx | qx
        · subst qx; rfl
        · have e1 : h * 1 ≤ h * x := Nat.mul_le_mul_left h qx
          have e2 : h * x ≤ h * 4 := Nat.mul_le_mul_left h (by omega)
          rw [if_neg (by omega), if_pos q, if_neg (by omega), if_pos (by omega)]
      · subst q
        rw [if_neg (by omega), if_neg (by omega), if_pos ⟨rfl, rfl⟩, if_neg (by omega), if_neg (by omega), if_pos (by omega)]
      · have e1 : h * 6 ≤ h * x := Nat.mul_le_mul_left h q
        rw [if_neg (by omega), if_neg (by omega), if_neg (by omega), if_neg (by omega), if_neg (by omega), if_neg (by omega)]
    · rw [decide_eq_true hy]
      have nt : ∀ n, ¬ (x = n ∧ true = false) := fun n z => by cases z.2
      rw [if_neg (nt 0), if_neg (nt 5)]
      rcases Nat.lt_or_ge x 5 with q | q
      · have e2 : h * x ≤ h * 4 := Nat.mul_le_mul_left h (by omega)
        rw [if_pos q, if_neg (by omega), if_pos (by omega)]
      · have e1 : h * 5 ≤ h * x := Nat.mul_le_mul_left h q
        rw [if_neg (by omega), if_neg (by omega), if_neg (by omega), if_neg (by omega)]
  · have hn : ¬ 0 ≤ iI K := fun z => c ((iI_0le (by omega) (by omega)).mp z)
    have r30 := m_r30 (M := M) (wr := wr) (en := en) (pt := pt) (fm := fm) (bd := bd) hr hL (x := 0) (by omega) L FU false (by rw [FU_val]; omega) (by omega)
    rw [Nat.sub_self, Bool.false_or, Nat.mod_eq_of_lt hr.1] at r30
    rw [if_neg hn, e_Model_rest_14, if_neg hn, e_Model_rest_28]
    have hu : 10 ^ L * 10 ≤ 10 ^ w := by
      rw [← Nat.pow_succ]
      exact Nat.pow_le_pow_right (by decide) (by omega)
    have hN := hr.1
    rw [show f_Model_rest_30 (mF M wr en dgs (nI L) pt fm bd) FU (0 : Int32) (0 : Int32) (0 : Int32) = _ from r30]
    congr 2
    rw [Nat.mod_eq_of_lt (show N < 10 ^ w by omega)]
    unfold rE rcc
    rcases Nat.eq_zero_or_pos N with q | q
    · subst q; rfl
    · rw [decide_eq_true q, if_neg (fun z => by cases z.2), if_pos (by omega), if_neg (by omega), if_pos (by omega)]
theorem m_away {M : T_Model} {wr : Nat → Int32} {en ds pt fm : Int32} {bd dgs : Nat → Int32} {j : Nat} (hj : M_how M = nI j) (hj6 : j ≤ 6) (neg : Bool) (q r u : Nat) (hr : 0 < r) : f_Model_away (mF M wr en dgs ds pt fm bd) (nI (rcc r u)) (bB neg) (bB (decide (q % 2 = 1))) = some (bB (aw j neg q r u)) := by
  rw [e_Model_away, mF_how, hj]
  unfold aw rcc
  rw [if_neg (show ¬ r = 0 by omega)]
  rcases (by omega : j = 0 ∨ j = 1 ∨ j = 2 ∨ j = 3 ∨ j = 4 ∨ j = 5 ∨ j = 6) with rfl | rfl | rfl | rfl | rfl | rfl | rfl
  · rfl
  · rfl
  · cases neg <;> rfl
  · cases neg <;> rfl
  · rcases Nat.lt_trichotomy (2 * r) u with c | c | c
    · rw [if_pos c, decide_eq_false (show ¬ u ≤ 2 * r by omega)]; rfl
    · rw [if_neg (show ¬ 2 * r < u by omega), if_pos c, decide_eq_true (show u ≤ 2 * r by omega)]; rfl
    · rw [if_neg (show ¬ 2 * r < u by omega), if_neg (show ¬ 2 * r = u by omega), decide_eq_true (show u ≤ 2 * r by omega)]; rfl
  · rcases Nat.lt_trichotomy (2 * r) u with c | c | c
    · rw [if_pos c, decide_eq_false (show ¬ u < 2 * r by omega)]; rfl
    · rw [if_neg (show ¬ 2 * r < u by omega), if_pos c, decide_eq_false (show ¬ u < 2 * r by omega)]; rfl
    · rw [if_neg (show ¬ 2 * r < u by omega), if_neg (show ¬ 2 * r = u by omega), decide_eq_true (show u < 2 * r by omega)]; rfl
  · rcases Nat.lt_trichotomy (2 * r) u with c | c | c
    · rw [if_pos c, decide_eq_false (show ¬ u < 2 * r by omega), decide_eq_false (show ¬ u = 2 * r by omega)]; rfl
    · rw [if_neg (show ¬ 2 * r < u by omega), if_pos c, decide_eq_false (show ¬ u < 2 * r by omega), decide_eq_true (show u = 2 * r by omega)]
      cases decide (q % 2 = 1) <;> rfl
    · rw [if_neg (show ¬ 2 * r < u by omega), if_neg (show ¬ 2 * r = u by omega), decide_eq_true (show u < 2 * r by omega)]; rfl
-- carrying
theorem rep_inc {dgs : Nat → Int32} {Q t s : Nat} (h : rep dgs Q (t + 1)) (h9 : ¬ Q % 10 = 9) (hz : ∀ i, t + 1 ≤ i → i < t + 1 + s → dgs i = nI 0) : rep (upd dgs t (nI (Q % 10 + 1))) ((Q + 1) * 10 ^ s) (t + 1 + s) := by
  obtain ⟨h1, h2, h3⟩ := h
  have hs := p0 s
  have h2' := h2 (by omega)
  rw [show t + 1 - 1 = t from rfl] at h2'
  have ht1 : 10 ^ (t + 1) = 10 ^ t * 10 := Nat.pow_succ ..
  refine ⟨?_, fun _ => ?_, fun i hi => ?_⟩
  · rw [Nat.pow_add]
    exact Nat.mul_lt_mul_of_pos_right (by omega) hs
  · rw [show t + 1 + s - 1 = t + s by omega, Nat.pow_add]
    exact Nat.mul_le_mul_right _ (by omega)
  · by_cases q : i = t
    · subst q
      rw [pk_us, show i + 1 + s - 1 - i = s + 0 by omega, dv1, Nat.pow_zero, Nat.div_one, show (Q + 1) % 10 = Q % 10 + 1 by omega]
    · rw [pk_un q]
      by_cases q2 : i < t
      · rw [h3 i (by omega), show t + 1 + s - 1 - i = s + ((t - 1 - i) + 1) by omega, dv1, show t + 1 - 1 - i = (t - 1 - i) + 1 by omega, Nat.pow_succ, Nat.mul_comm _ 10, ← Nat.div_div_eq_div_mul, ← Nat.div_div_eq_div_mul, show (Q + 1) / 10 = Q / 10 by omega]
      · rw [hz i (by omega) hi, dv2 _ (show t + 1 + s - 1 - i ≤ s by omega), dv3 _ (show 0 < s - (t + 1 + s - 1 - i) by omega)]
theorem rep_one {dgs : Nat → Int32} {s : Nat} (h1 : dgs 0 = nI 1) (hz : ∀ i, 1 ≤ i → i ≤ s → dgs i = nI 0) : rep dgs (10 ^ s) (s + 1) := by
  refine ⟨Nat.pow_lt_pow_right (by decide) (by omega), fun _ => Nat.le_refl _, fun i hi => ?_⟩
  have e : 10 ^ s / 10 ^ (s + 1 - 1 - i) = 10 ^ i := by
    have := dv2 1 (show s + 1 - 1 - i ≤ s by omega)
    rw [Nat.one_mul, Nat.one_mul] at this
    rw [this, show s - (s + 1 - 1 - i) = i by omega]
  rw [e]
  rcases Nat.eq_zero_or_pos i with q | q
  · subst q; exact h1
  · have := dv3 1 q
    rw [Nat.one_mul] at this
    rw [hz i q (by omega), this]
theorem m_204 {M : T_Model} {wr : Nat → Int32} {en pt fm : Int32} {bd : Nat → Int32} {s : Nat} (hs : s ≤ 30) : ∀ (r m : Nat) (dgs : Nat → Int32), r < m → r ≤ s →
    ∃ dgs', f_Model_round_204 m (mF M wr en dgs (nI s) pt fm bd) (nI (s + 1 - r)) = some (1, mF M wr en dgs' (nI (s + 1)) pt fm bd) ∧ (∀ i, s + 1 - r ≤ i → i ≤ s → dgs' i = nI 0) ∧ (∀ i, i < s + 1 - r → dgs' i = dgs i) := by
  intro r
  induction r with
  | zero =>
    intro m dgs hm _
    refine ⟨dgs, ?_, fun i h1 h2 => by omega, fun _ _ => rfl⟩
    rw [show m = (m - 1) + 1 by omega, e_Model_round_204, mF_digits, if_pos (nI_lt (by omega) (by omega)), nI_1, mF_sdigits]
  | succ r ih =>
    intro m dgs hm hr
    obtain ⟨d', q1, q2, q3⟩ := ih (m - 1) (upd dgs (s + 1 - (r + 1)) (0 : Int32)) (by omega) (by omega)
    refine ⟨d', ?_, fun i h1 h2 => ?_, fun i hi => ?_⟩
    · rw [show m = (m - 1) + 1 by omega, e_Model_round_204, mF_digits, if_neg (nI_nlt (by omega) (by omega)), if_pos (ixN (by omega) (by decide)), nI_clamp (by omega), mF_digit, mF_sdigit, nI_1, show s + 1 - (r + 1) + 1 = s + 1 - r by omega]
      exact q1
    · by_cases c : i = s + 1 - (r + 1)
      · subst c
        rw [q3 _ (by omega), pk_us]; rfl
      · exact q2 i (by omega) h2
    · rw [q3 i (by omega), pk_un (by omega)]
theorem m_carry {M : T_Model} {wr : Nat → Int32} {en fm : Int32} {bd : Nat → Int32} (P K : Int) (b : Nat) (hb : b ≤ 9) (hK : -1000 ≤ K) (hK2 : K ≤ 1000) : ∀ (t s m Q : Nat) (dgs : Nat → Int32), t < m → t + s ≤ 18 → rep dgs Q t → (∀ i, t ≤ i → i < t + s → dgs i = nI 0) →
    ∃ dgs' L' P', f_Model_round_117 m (mF M wr en dgs (nI (t + s)) (iI P) fm bd) (nI b) (iI K) (iI ((t : Int) - 1)) = some (1, mF M wr en dgs' (nI L') (iI P') fm bd) ∧ rep dgs' ((Q + 1) * 10 ^ s) L' ∧ ((L' = t + s ∧ P' = P) ∨ (L' = t + s + 1 ∧ P' = if 0 ≤ K then P + 1 else 1 - b)) := by
  intro t
  induction t with
  | zero =>
    intro s m Q dgs hm hs hr hz
    have hQ := rep_z hr
    subst hQ
    have hlt : iI (((0 : Nat) : Int) - 1) < 0 := by decide
    rw [show m = (m - 1) + 1 by omega, e_Model_round_117, if_pos hlt, e_Model_round_151, if_pos hlt, mF_point, show iI P + 1 = iI (P + 1) from iI_add P 1, show (1 : Int32) - nI b = iI (1 - b) by rw [iI_n]; exact iI_sub 1 b]
    have e191 : ∀ P' : Int, ∃ dgs', f_Model_round_191 (mF M wr en dgs (nI (0 + s)) (iI P) fm bd) (iI P') = some (1, mF M wr en dgs' (nI (s + 1)) (iI P') fm bd) ∧ rep dgs' ((0 + 1) * 10 ^ s) (s + 1) := by
      intro P'
      obtain ⟨d', q1, q2, q3⟩ := m_204 (M := M) (wr := wr) (en := en) (pt := iI P') (fm := fm) (bd := bd) (s := s) (by omega) s FU (upd dgs 0 (1 : Int32)) (by rw [FU_val]; omega) (Nat.le_refl _)
      rw [show s + 1 - s = 1 by omega] at q1 q2 q3
      refine ⟨d', ?_, ?_⟩
      · rw [e_Model_round_191, mF_digit, mF_sdigit, mF_spoint, Nat.zero_add]
        exact q1
      · rw [Nat.zero_add, Nat.one_mul]
        exact rep_one (by rw [q3 0 (by omega), pk_us]; rfl) q2
    by_cases c : 0 ≤ K
    · obtain ⟨d', q1, q2⟩ := e191 (P + 1)
      rw [if_pos ((iI_0le (by omega) (by omega)).mpr c), q1]
      exact ⟨d', s + 1, P + 1, rfl, q2, Or.inr ⟨by omega, by rw [if_pos c]⟩⟩
    · obtain ⟨d', q1, q2⟩ := e191 (1 - b)
      rw [if_neg (fun z => c ((iI_0le (by omega) (by omega)).mp z)), q1]
      exact ⟨d', s + 1, 1 - b, rfl, q2, Or.inr ⟨by omega, by rw [if_neg c]⟩⟩
  | succ t ih =>
    intro s m Q dgs hm hs hr hz
    have hd := hr.2.2 t (by omega)
    rw [show t + 1 - 1 - t = 0 by omega, Nat.pow_zero, Nat.div_one] at hd
    have hx : iI (((t + 1 : Nat) : Int) - 1) = nI t := by rw [iI_n]; congr 1; omega
    have hn : ¬ nI t < 0 := nI_pos (by omega)
    rw [show m = (m - 1) + 1 by omega, e_Model_round_117, hx, if_neg hn, if_pos (ixN (by omega) (by decide)), if_pos (ixN (by omega) (by decide)), mF_digit, nI_clamp (by omega), hd]
    by_cases c : Q % 10 = 9
    · have hr' : rep (upd dgs t (0 : Int32)) (Q / 10) t := by
        obtain ⟨r1, r2, r3⟩ := hr
        have r2' := r2 (by omega)
        rw [show t + 1 - 1 = t from rfl] at r2'
        rw [Nat.pow_succ] at r1
        refine ⟨by omega, fun ht => ?_, fun i hi => ?_⟩
        · rw [show t = (t - 1) + 1 by omega, Nat.pow_succ] at r2'
          omega
        · rw [pk_un (by omega), r3 i (by omega), show t + 1 - 1 - i = (t - 1 - i) + 1 by omega, Nat.pow_succ, Nat.mul_comm _ 10, ← Nat.div_div_eq_div_mul]
      obtain ⟨d', L', P', q1, q2, q3⟩ := ih (s + 1) (m - 1) (Q / 10) (upd dgs t (0 : Int32)) (by omega) (by omega) hr' (fun i h1 h2 => by
        by_cases e : i = t
        · subst e; rw [pk_us]; rfl
        · rw [pk_un e]; exact hz i (by omega) (by omega))
      rw [if_pos (show nI (Q % 10) = 9 by rw [c]; rfl), mF_sdigit, show nI t - 1 = iI ((t : Int) - 1) by rw [iI_n]; exact iI_sub t 1, show t + 1 + s = t + (s + 1) by omega, q1]
      refine ⟨d', L', P', rfl, ?_, q3⟩
      rw [show (Q + 1) * 10 ^ s = (Q / 10 + 1) * 10 ^ (s + 1) by rw [Nat.pow_succ, Nat.mul_comm (10 ^ s) 10, ← Nat.mul_assoc, show (Q / 10 + 1) * 10 = Q + 1 by omega]]
      exact q2
    · rw [if_neg (nI_nel 9 9 rfl (by omega) (by decide) c), e_Model_round_151, if_neg hn, if_pos (ixN (by omega) (by decide)), if_pos (ixN (by omega) (by decide)), mF_digit, nI_clamp (by omega), hd, nI_1, mF_sdigit]
      exact ⟨_, t + 1 + s, P, rfl, rep_inc hr c hz, Or.inl ⟨rfl, rfl⟩⟩
theorem rep_trunc {dgs : Nat → Int32} {N L w : Nat} {K : Int} (h : rep dgs N L) (hw : (w : Int) = L - K) (hw1 : 1 ≤ w) : rep dgs (N / 10 ^ w) K.toNat := by
  obtain ⟨h1, h2, h3⟩ := h
  rcases Nat.eq_zero_or_pos K.toNat with q | q
  · rw [q, Nat.div_eq_of_lt (Nat.lt_of_lt_of_le h1 (Nat.pow_le_pow_right (by decide) (by omega)))]
    exact rep_0 dgs
  · have hL : L = K.toNat + w := by omega
    refine ⟨?_, fun _ => ?_, fun i hi => ?_⟩
    · apply Nat.div_lt_of_lt_mul
      rw [← Nat.pow_add, Nat.add_comm, ← hL]
      exact h1
    · rw [Nat.le_div_iff_mul_le (p0 w), ← Nat.pow_add, show K.toNat - 1 + w = L - 1 by omega]
      exact h2 (by omega)
    · rw [h3 i (by omega), Nat.div_div_eq_div_mul, ← Nat.pow_add, show w + (K.toNat - 1 - i) = L - 1 - i by omega]
theorem m_round {M : T_Model} {wr : Nat → Int32} {en fm : Int32} {bd dgs : Nat → Int32} {N L j b : Nat} (hr : rep dgs N L) (hL : L ≤ 18) (P : Int) (hP1 : -50 ≤ P) (hP2 : P ≤ 50) (hb : b ≤ 9) (hj : M_how M = nI j) (hj7 : j ≤ 7) (neg : Bool) (x : Int32) (hx : x = nI b) :
    (¬ P + b < L → f_Model_round (mF M wr en dgs (nI L) (iI P) fm bd) x (bB neg) = some (1, mF M wr en dgs (nI L) (iI P) fm bd)) ∧
    (∀ w : Nat, (w : Int) = L - (P + b) → 1 ≤ w →
      ((0 < N % 10 ^ w ∧ j = 7) → f_Model_round (mF M wr en dgs (nI L) (iI P) fm bd) x (bB neg) = some (0, mF M wr en dgs (nI L) (iI P) fm bd)) ∧
      (¬ (0 < N % 10 ^ w ∧ j = 7) → ∃ dgs' L' P', f_Model_round (mF M wr en dgs (nI L) (iI P) fm bd) x (bB neg) = some (1, mF M wr en dgs' (nI L') (iI P') fm bd) ∧ rep dgs' (N / 10 ^ w + (if rup j neg N (10 ^ w) = true then 1 else 0)) L' ∧ (0 < L' → (L' : Int) - P' = b) ∧ -60 ≤ P' ∧ P' ≤ 60)) := by
  subst hx
  have hpb : iI P + nI b = iI (P + b) := by rw [iI_n]; exact iI_add P b
  refine ⟨fun h => ?_, fun w hw hw1 => ?_⟩
  · rw [e_Model_round, mF_point, mF_digits, hpb, if_neg]
    rw [iI_n, iI_lt (by omega) (by omega) (by omega) (by omega)]
    exact h
  · have hlt : iI (P + b) < nI L := by
      rw [iI_n, iI_lt (by omega) (by omega) (by omega) (by omega)]
      omega
    have hrc : (rcc (N % 10 ^ w) (10 ^ w) = 0 ↔ ¬ 0 < N % 10 ^ w) ∧ rcc (N % 10 ^ w) (10 ^ w) ≤ 3 := by
      unfold rcc
      split
      · omega
      · split
        · omega
        · split <;> omega
    have st : f_Model_round (mF M wr en dgs (nI L) (iI P) fm bd) (nI b) (bB neg) = (if nI (rcc (N % 10 ^ w) (10 ^ w)) ≤ 0 then f_Model_round_40 (mF M wr en dgs (nI L) (iI P) fm bd) (nI b) (bB neg) (iI (P + b)) (nI (rcc (N % 10 ^ w) (10 ^ w))) else (if nI j = (7 : Int32) then some ((0 : Int32), (mF M wr en dgs (nI L) (iI P) fm bd)) else f_Model_round_40 (mF M wr en dgs (nI L) (iI P) fm bd) (nI b) (bB neg) (iI (P + b)) (nI (rcc (N % 10 ^ w) (10 ^ w))))) := by
      rw [e_Model_round, mF_point, mF_digits, hpb, if_pos hlt, m_rest hr hL (P + b) w hw hw1 (by omega), Option.bind_some, mF_how, hj]
    refine ⟨fun ⟨h1, h2⟩ => ?_, fun hno => ?_⟩
    · rw [st, if_neg (nI_nle (by omega) (by omega)), if_pos (show nI j = 7 by rw [h2]; rfl)]
    · have st2 : f_Model_round (mF M wr en dgs (nI L) (iI P) fm bd) (nI b) (bB neg) = f_Model_round_40 (mF M wr en dgs (nI L) (iI P) fm bd) (nI b) (bB neg) (iI (P + b)) (nI (rcc (N % 10 ^ w) (10 ^ w))) := by
        rw [st]
        split
        · rfl
        · rename_i hh
          rw [if_neg]
          intro z
          have hj' : j = 7 := (nI_eq (by omega) (by decide)).mp z
          refine hno ⟨?_, hj'⟩
          rcases Nat.eq_zero_or_pos (N % 10 ^ w) with q | q
          · exfalso
            apply hh
            rw [hrc.1.mpr (by omega)]; decide
          · exact q
      have st3 : f_Model_round (mF M wr en dgs (nI L) (iI P) fm bd) (nI b) (bB neg) = f_Model_round_63 (mF M wr en dgs (nI L) (iI P) fm bd) (nI b) (bB neg) (iI (P + b)) (nI (rcc (N % 10 ^ w) (10 ^ w))) (bB (decide (N / 10 ^ w % 2 = 1))) := by
        rw [st2, e_Model_round_40]
        by_cases c : P + b ≤ 0
        · rw [if_pos ((iI_le0 (by omega) (by omega)).mpr c), Nat.div_eq_of_lt (Nat.lt_of_lt_of_le hr.1 (Nat.pow_le_pow_right (by decide) (by omega)))]; rfl
        · obtain ⟨k, hk⟩ : ∃ k : Nat, P + b = (k : Int) + 1 := ⟨(P + b - 1).toNat, by omega⟩
          have hd := hr.2.2 k (by omega)
          rw [show L - 1 - k = w by omega] at hd
          have hx1 : iI (P + b) - 1 = nI k := by rw [hk, iI_n]; exact (iI_sub _ 1).trans (congrArg iI (by omega))
          rw [if_neg (fun z => c ((iI_le0 (by omega) (by omega)).mp z)), hx1, if_pos (ixN (by omega) (by decide)), mF_digit, nI_clamp (by omega), hd, show (2 : Int32) = nI 2 from rfl, pk_rem (by omega) (by decide) (by decide), show N / 10 ^ w % 10 % 2 = N / 10 ^ w % 2 by omega]
          by_cases c2 : N / 10 ^ w % 2 = 1
          · rw [if_pos (show nI (N / 10 ^ w % 2) = 1 by rw [c2]; rfl), decide_eq_true c2]; rfl
          · rw [if_neg (nI_nel 1 1 rfl (by omega) (by decide) c2), decide_eq_false c2]; rfl
      have st4 : f_Model_round (mF M wr en dgs (nI L) (iI P) fm bd) (nI b) (bB neg) = f_Model_round_87 (mF M wr en dgs (nI L) (iI P) fm bd) (nI b) (iI (P + b)) (bB (rup j neg N (10 ^ w))) := by
        rw [st3, e_Model_round_63]
        unfold rup
        rcases Nat.eq_zero_or_pos (N % 10 ^ w) with q | q
        · rw [hrc.1.mpr (by omega), if_pos (show nI 0 ≤ 0 by decide), decide_eq_false (show ¬ 0 < N % 10 ^ w by omega)]; rfl
        · have hj6 : j ≤ 6 := by
            rcases Nat.lt_or_ge j 7 with z | z
            · omega
            · exact absurd ⟨q, by omega⟩ hno
          rw [if_neg (nI_nle (by omega) (by omega)), m_away hj hj6 neg _ _ _ q, Option.bind_some, decide_eq_true q, Bool.true_and]
          cases aw j neg (N / 10 ^ w) (N % 10 ^ w) (10 ^ w)
          · rw [if_pos b_f]; rfl
          · rw [if_neg b_t]; rfl
      have st5 : f_Model_round (mF M wr en dgs (nI L) (iI P) fm bd) (nI b) (bB neg) = f_Model_round_99 (mF M wr en dgs (nI L) (iI P) fm bd) (nI b) (iI (P + b)) (bB (rup j neg N (10 ^ w))) (nI (P + b).toNat) := by
        rw [st4, e_Model_round_87]
        by_cases c : 0 ≤ P + b
        · rw [if_pos ((iI_0le (by omega) (by omega)).mpr c), ← iI_nat c]
        · rw [if_neg (fun z => c ((iI_0le (by omega) (by omega)).mp z)), show (P + b).toNat = 0 by omega]; rfl
      have ht := rep_trunc hr hw hw1
      rw [st5, e_Model_round_99, mF_sdigits]
      cases hu : rup j neg N (10 ^ w)
      · rw [if_pos b_f, ib_f, Nat.add_zero]
        exact ⟨dgs, (P + b).toNat, P, rfl, ht, fun z => by omega, by omega, by omega⟩
      · obtain ⟨d', L', P', q1, q2, q3⟩ := m_carry (M := M) (wr := wr) (en := en) (fm := fm) (bd := bd) P (P + b) b hb (by omega) (by omega) (P + b).toNat 0 FU (N / 10 ^ w) dgs (by rw [FU_val]; omega) (by omega) ht (fun i h1 h2 => by omega)
        rw [if_neg b_t, ib_t, show nI (P + b).toNat - 1 = iI (((P + b).toNat : Int) - 1) by rw [iI_n]; exact iI_sub _ 1]
        rw [Nat.pow_zero, Nat.mul_one] at q2
        refine ⟨d', L', P', q1, q2, fun z => ?_, ?_, ?_⟩
        · rcases q3 with ⟨a1, a2⟩ | ⟨a1, a2⟩
          · omega
          · split at a2 <;> omega
        · rcases q3 with ⟨a1, a2⟩ | ⟨a1, a2⟩
          · omega
          · split at a2 <;> omega
        · rcases q3 with ⟨a1, a2⟩ | ⟨a1, a2⟩
          · omega
          · split at a2 <;> omega
