-- reading numbers: what is asked of both
def isD (T : Nat → Nat) (e q : Nat) : Bool := decide (q < e) && (decide (48 ≤ T q) && decide (T q ≤ 57))
def bA (T : Nat → Nat) (b e q : Nat) : Int32 := if b ≤ q ∧ q < e then nI (T q) else -1
def btw (T : Nat → Nat) (b e p : Nat) : Bool := decide (b < p) && (isD T e (p - 1) && isD T e (p + 1))
theorem isD_p {T : Nat → Nat} {e q : Nat} (h : isD T e q = true) : q < e ∧ 48 ≤ T q ∧ T q ≤ 57 := by
  unfold isD at h
  rw [Bool.and_eq_true_iff, Bool.and_eq_true_iff, decide_eq_true_eq, decide_eq_true_eq, decide_eq_true_eq] at h
  exact h
theorem c_bodyAt {v : T_Row} {T : Nat → Nat} {n b e p : Nat} (hR : RowOf v T n) (he : e ≤ n) {neg ex pp : Int32} {s : St} (hb : b < 1000) (q : Nat) (hq : q < 1000) (x : Int32) (hx : x = nI q) : f_NumberReader_bodyAt (nR b e p neg s ex pp) v x = some (bA T b e q) := by
  subst hx
  have hn := hR.2.1
  rw [e_NumberReader_bodyAt, show N_begin (nR b e p neg s ex pp) = nI b from rfl, show N_end (nR b e p neg s ex pp) = nI e from rfl]
  unfold bA
  by_cases h1 : q < b
  · rw [if_pos (nI_lt h1 (by omega)), if_neg (by omega)]; rfl
  · rw [if_neg (nI_nlt (by omega) (by omega))]
    by_cases h2 : e ≤ q
    · rw [if_pos (nI_le h2 (by omega)), if_neg (by omega)]; rfl
    · rw [if_neg (nI_ge (by omega) (by omega)), row_at hR q (by omega), Option.bind_some, if_pos (by omega), show chA T n q = nI (T q) from if_pos (by omega)]; rfl
theorem c_bodyAtM {v : T_Row} {b e p : Nat} {neg ex pp : Int32} {s : St} (hb : b < 1000) : f_NumberReader_bodyAt (nR b e p neg s ex pp) v (nI 0 - 1) = some (-1) := by
  rw [e_NumberReader_bodyAt, show N_begin (nR b e p neg s ex pp) = nI b from rfl, if_pos]
  · rfl
  · rw [Int32.lt_iff_toInt_lt, nI_toInt (by omega)]
    have : (nI 0 - 1).toInt = -1 := by decide
    omega
theorem c_isDig {T : Nat → Nat} {n b e q : Nat} {t : Nat → Int32} (hT : TX T n t) (he : e ≤ n) (hb : b ≤ q) : f_Deci_isDigit (bA T b e q) = some (bB (isD T e q)) := by
  unfold isD
  by_cases h : q < e
  · have hv := hT q (by omega)
    rw [show bA T b e q = nI (T q) from if_pos ⟨hb, h⟩, e_Deci_isDigit, decide_eq_true h, Bool.true_and]
    by_cases h1 : 48 ≤ T q
    · rw [if_neg (li_nlt 48 48 rfl h1 (by omega)), decide_eq_true h1, Bool.true_and]
      by_cases h2 : T q ≤ 57
      · rw [if_neg (li_ngt 57 57 rfl h2 (by decide)), decide_eq_true h2]; rfl
      · rw [if_pos (li_gt 57 57 rfl (by omega) (by omega)), decide_eq_false h2]; rfl
    · rw [if_pos (li_lt 48 48 rfl (by omega) (by decide)), decide_eq_false h1]; rfl
  · rw [show bA T b e q = -1 from if_neg (by omega), decide_eq_false h]; rfl
theorem c_isDigM : f_Deci_isDigit (-1) = some (bB false) := rfl
theorem bA_eq {T : Nat → Nat} {n b e q : Nat} {t : Nat → Int32} (hT : TX T n t) (he : e ≤ n) (hb : b ≤ q) (x : Int32) (c : Nat) (hx : x = nI c) (hc : c < 1000) : bA T b e q = x ↔ (q < e ∧ T q = c) := by
  subst hx
  unfold bA
  by_cases h : q < e
  · have hv := hT q (by omega)
    rw [if_pos ⟨hb, h⟩, nI_eq (by omega) (by omega)]
    exact ⟨fun z => ⟨h, z⟩, fun z => z.2⟩
  · rw [if_neg (by omega)]
    refine ⟨fun z => ?_, fun z => absurd z.1 h⟩
    have : ¬ nI c < 0 := nI_pos (by omega)
    rw [← z] at this
    exact absurd (show (-1 : Int32) < 0 by decide) this
theorem c_btw {v : T_Row} {T : Nat → Nat} {n b e p : Nat} (hR : RowOf v T n) (he : e ≤ n) {neg ex pp : Int32} {s : St} (hb : b ≤ p) (hp : p < 200) : f_NumberReader_isBetweenDigits (nR b e p neg s ex pp) v = some (bB (btw T b e p)) := by
  have hn := hR.2.1
  rw [e_NumberReader_isBetweenDigits, show N_place (nR b e p neg s ex pp) = nI p from rfl]
  unfold btw
  cases p with
  | zero =>
    rw [c_bodyAtM (by omega), Option.bind_some, c_isDigM, Option.bind_some, if_pos b_f, decide_eq_false (show ¬ b < 0 by omega)]; rfl
  | succ p =>
    rw [nI_pred, c_bodyAt hR he (by omega) p (by omega) _ rfl, Option.bind_some]
    by_cases q : b ≤ p
    · rw [c_isDig hR.2.2 he q, Option.bind_some, decide_eq_true (show b < p + 1 by omega), Bool.true_and, show p + 1 - 1 = p from rfl]
      cases isD T e p
      · rw [if_pos b_f]; rfl
      · rw [if_neg b_t, nI_1, c_bodyAt hR he (by omega) (p + 1 + 1) (by omega) _ rfl, Option.bind_some, c_isDig hR.2.2 he (by omega), Option.bind_some, Bool.true_and]
        cases isD T e (p + 1 + 1)
        · rw [if_pos b_f]; rfl
        · rw [if_neg b_t]; rfl
    · rw [show bA T b e p = -1 from if_neg (by omega), c_isDigM, Option.bind_some, if_pos b_f, decide_eq_false (show ¬ b < p + 1 by omega)]; rfl
def scI (T : Nat → Nat) (b e : Nat) (g : Bool) : Nat → St → St × Nat
  | 0, s => (s, e)
  | r + 1, s => if isD T e (e - (r + 1)) = true then scI T b e g r (dg 0 (T (e - (r + 1)) - 48) s) else if (g && (decide (T (e - (r + 1)) = 44) && btw T b e (e - (r + 1)))) = true then scI T b e g r s else (s, e - (r + 1))
def scF (T : Nat → Nat) (e : Nat) : Nat → St → St × Nat
  | 0, s => (s, e)
  | r + 1, s => if isD T e (e - (r + 1)) = true then scF T e r (dg 1 (T (e - (r + 1)) - 48) s) else (s, e - (r + 1))
theorem scI_p {T : Nat → Nat} {b e : Nat} {g : Bool} : ∀ (r : Nat) (s : St), r ≤ e → gI s (e - r) → e - r ≤ (scI T b e g r s).2 ∧ (scI T b e g r s).2 ≤ e ∧ gI (scI T b e g r s).1 (scI T b e g r s).2 := by
  intro r
  induction r with
  | zero => intro s _ h; exact ⟨Nat.le_refl _, Nat.le_refl _, h⟩
  | succ r ih =>
    intro s hr h
    unfold scI
    by_cases c : isD T e (e - (r + 1)) = true
    · rw [if_pos c]
      have w := isD_p c
      obtain ⟨i1, i2, i3⟩ := ih (dg 0 (T (e - (r + 1)) - 48) s) (by omega) (by rw [show e - r = e - (r + 1) + 1 by omega]; exact dg_I h (by omega) (by omega))
      exact ⟨by omega, i2, i3⟩
    · rw [if_neg c]
      split
      · obtain ⟨i1, i2, i3⟩ := ih s (by omega) (gI_le h (by omega))
        exact ⟨by omega, i2, i3⟩
      · exact ⟨Nat.le_refl _, by dsimp only; omega, h⟩
theorem scF_p {T : Nat → Nat} {e : Nat} : ∀ (r : Nat) (s : St), r ≤ e → gI s (e - r) → e - r ≤ (scF T e r s).2 ∧ (scF T e r s).2 ≤ e ∧ gI (scF T e r s).1 (scF T e r s).2 := by
  intro r
  induction r with
  | zero => intro s _ h; exact ⟨Nat.le_refl _, Nat.le_refl _, h⟩
  | succ r ih =>
    intro s hr h
    unfold scF
    by_cases c : isD T e (e - (r + 1)) = true
    · rw [if_pos c]
      have w := isD_p c
      obtain ⟨i1, i2, i3⟩ := ih (dg 1 (T (e - (r + 1)) - 48) s) (by omega) (by rw [show e - r = e - (r + 1) + 1 by omega]; exact dg_I h (by omega) (by omega))
      exact ⟨by omega, i2, i3⟩
    · rw [if_neg c]
      exact ⟨Nat.le_refl _, by dsimp only; omega, h⟩
theorem c_rInt {v : T_Row} {T : Nat → Nat} {n b e : Nat} (hR : RowOf v T n) (he : e ≤ n) {neg ex pp : Int32} {g : Bool} : ∀ (m r : Nat) (s : St), r < m → r ≤ e → b ≤ e - r → gI s (e - r) →
    f_NumberReader_readInteger_0 v m (nR b e (e - r) neg s ex pp) (bB g) = some (nR b e (scI T b e g r s).2 neg (scI T b e g r s).1 ex pp) := by
  have hn := hR.2.1
  intro m
  induction m with
  | zero => intro r s h; omega
  | succ m ih =>
    intro r s hm hr hb hs
    rw [e_NumberReader_readInteger_0, show N_end (nR b e (e - r) neg s ex pp) = nI e from rfl, show N_place (nR b e (e - r) neg s ex pp) = nI (e - r) from rfl]
    cases r with
    | zero => rw [if_pos (nI_le (by omega) (by omega))]; rfl
    | succ r =>
      have st : ∀ s', f_NumberReader_readInteger_58 v (f_NumberReader_readInteger_0 v m) (nR b e (e - (r + 1)) neg s' ex pp) (bB g) = f_NumberReader_readInteger_0 v m (nR b e (e - r) neg s' ex pp) (bB g) := by
        intro s'
        rw [e_NumberReader_readInteger_58, show N_place (nR b e (e - (r + 1)) neg s' ex pp) = nI (e - (r + 1)) from rfl, nI_1, show e - (r + 1) + 1 = e - r by omega]; rfl
      rw [if_neg (nI_ge (by omega) (by omega)), c_bodyAt hR he (by omega) (e - (r + 1)) (by omega) _ rfl, Option.bind_some, c_isDig hR.2.2 he hb, Option.bind_some]
      unfold scI
      cases c : isD T e (e - (r + 1))
      · rw [if_pos b_f, ib_f]
        cases g
        · rw [if_pos b_f]; rfl
        · rw [if_neg b_t, Bool.true_and]
          by_cases c44 : T (e - (r + 1)) = 44
          · rw [if_pos ((bA_eq hR.2.2 he hb 44 44 rfl (by decide)).mpr ⟨by omega, c44⟩), c_btw hR he hb (by omega), Option.bind_some, decide_eq_true c44, Bool.true_and]
            cases btw T b e (e - (r + 1))
            · rw [if_pos b_f, ib_f]; rfl
            · rw [if_neg b_t, ib_t, st, ih r s (by omega) (by omega) (by omega) (gI_le hs (by omega))]
          · rw [if_neg (fun z => c44 ((bA_eq hR.2.2 he hb 44 44 rfl (by decide)).mp z).2), decide_eq_false c44, Bool.false_and, ib_f]; rfl
      · have w := isD_p c
        rw [if_neg b_t, ib_t, show bA T b e (e - (r + 1)) = nI (T (e - (r + 1))) from if_pos ⟨hb, by omega⟩, c_take (K := e - (r + 1)) (d := T (e - (r + 1)) - 48) hs (by omega) (by omega) (nI (T (e - (r + 1))) - 48) (pk_sub (b := 48) w.2.1), Option.bind_some, st, ih r _ (by omega) (by omega) (by omega) (by rw [show e - r = e - (r + 1) + 1 by omega]; exact dg_I hs (by omega) (by omega))]
theorem dg_fr {d : Nat} {s : St} : dg 1 d s = ((dg 0 d s).1, (dg 0 d s).2.1, (dg 0 d s).2.2.1, (dg 0 d s).2.2.2.1, (dg 0 d s).2.2.2.2.1, (dg 0 d s).2.2.2.2.2 + 1) := by
  unfold dg
  split
  · rfl
  · split <;> rfl
theorem c_rFr {v : T_Row} {T : Nat → Nat} {n b e : Nat} (hR : RowOf v T n) (he : e ≤ n) {neg ex pp : Int32} : ∀ (m r : Nat) (s : St), r < m → r ≤ e → b ≤ e - r → gI s (e - r) →
    f_NumberReader_readFraction_0 v m (nR b e (e - r) neg s ex pp) = some (nR b e (scF T e r s).2 neg (scF T e r s).1 ex pp) := by
  have hn := hR.2.1
  intro m
  induction m with
  | zero => intro r s h; omega
  | succ m ih =>
    intro r s hm hr hb hs
    rw [e_NumberReader_readFraction_0, show N_end (nR b e (e - r) neg s ex pp) = nI e from rfl, show N_place (nR b e (e - r) neg s ex pp) = nI (e - r) from rfl]
    cases r with
    | zero => rw [if_pos (nI_le (by omega) (by omega))]; rfl
    | succ r =>
      rw [if_neg (nI_ge (by omega) (by omega)), c_bodyAt hR he (by omega) (e - (r + 1)) (by omega) _ rfl, Option.bind_some, c_isDig hR.2.2 he hb, Option.bind_some]
      unfold scF
      cases c : isD T e (e - (r + 1))
      · rw [if_pos b_f, ib_f]; rfl
      · have w := isD_p c
        have st : sN_fractionDigits (sN_place (nR b e (e - (r + 1)) neg (dg 0 (T (e - (r + 1)) - 48) s) ex pp) (N_place (nR b e (e - (r + 1)) neg (dg 0 (T (e - (r + 1)) - 48) s) ex pp) + 1)) (N_fractionDigits (nR b e (e - (r + 1)) neg (dg 0 (T (e - (r + 1)) - 48) s) ex pp) + 1) = nR b e (e - r) neg (dg 1 (T (e - (r + 1)) - 48) s) ex pp := by
          rw [show N_place (nR b e (e - (r + 1)) neg (dg 0 (T (e - (r + 1)) - 48) s) ex pp) = nI (e - (r + 1)) from rfl, show N_fractionDigits (nR b e (e - (r + 1)) neg (dg 0 (T (e - (r + 1)) - 48) s) ex pp) = nI (dg 0 (T (e - (r + 1)) - 48) s).2.2.2.2.2 from rfl, nI_1, nI_1, show e - (r + 1) + 1 = e - r by omega, dg_fr]
          rfl
        rw [if_neg b_t, ib_t, Option.bind_some, show bA T b e (e - (r + 1)) = nI (T (e - (r + 1))) from if_pos ⟨hb, by omega⟩, c_take (K := e - (r + 1)) (d := T (e - (r + 1)) - 48) hs (by omega) (by omega) (nI (T (e - (r + 1))) - 48) (pk_sub (b := 48) w.2.1), Option.bind_some, st, ih r _ (by omega) (by omega) (by omega) (by rw [show e - r = e - (r + 1) + 1 by omega]; exact dg_I hs (by omega) (by omega))]
-- exponents
def scE (T : Nat → Nat) (e : Nat) : Nat → Nat → Nat → Nat × Nat × Nat
  | 0, p, v => (p, v, 0)
  | k + 1, p, v => if isD T e p = true then scE T e k (p + 1) (10 * v + (T p - 48)) else (p, v, k + 1)
theorem scE_p {T : Nat → Nat} {e : Nat} : ∀ (k p v : Nat), p ≤ (scE T e k p v).1 ∧ (scE T e k p v).1 ≤ p + k ∧ (scE T e k p v).2.2 ≤ k ∧ (v < 10 ^ (3 - k) → k ≤ 3 → (scE T e k p v).2.1 < 1000) := by
  intro k
  induction k with
  | zero => intro p v; exact ⟨Nat.le_refl _, Nat.le_refl _, Nat.le_refl _, fun z _ => z⟩
  | succ k ih =>
    intro p v
    unfold scE
    by_cases c : isD T e p = true
    · rw [if_pos c]
      have w := isD_p c
      obtain ⟨i1, i2, i3, i4⟩ := ih (p + 1) (10 * v + (T p - 48))
      refine ⟨by omega, by omega, by omega, fun hv hk => i4 ?_ (by omega)⟩
      rw [show 3 - k = (3 - (k + 1)) + 1 by omega, Nat.pow_succ]
      omega
    · rw [if_neg c]
      refine ⟨Nat.le_refl _, by dsimp only; omega, Nat.le_refl _, fun hv hk => ?_⟩
      have : 10 ^ (3 - (k + 1)) ≤ 10 ^ 3 := Nat.pow_le_pow_right (by decide) (by omega)
      exact Nat.lt_of_lt_of_le hv this
def exV (x2 : Bool) (v : Nat) : Int32 := if x2 = true then -(nI v) else nI v
theorem c_rEx {v : T_Row} {T : Nat → Nat} {n b e : Nat} (hR : RowOf v T n) (he : e ≤ n) {neg ex pp : Int32} {s : St} (x2 : Bool) : ∀ (m k p w : Nat), k < m → k ≤ 3 → b ≤ p → p < 200 →
    f_NumberReader_readExponent_65 v m (nR b e p neg s ex pp) (bB x2) (nI w) (nI (3 - k)) = some (bB (decide ((scE T e k p w).2.2 < 3)), nR b e (scE T e k p w).1 neg s (exV x2 (scE T e k p w).2.1) pp) := by
  have hn := hR.2.1
  have fin : ∀ (p w k : Nat), k ≤ 3 → f_NumberReader_readExponent_120 v (nR b e p neg s ex pp) (bB x2) (nI w) (nI (3 - k)) = some (bB (decide (k < 3)), nR b e p neg s (exV x2 w) pp) := by
    intro p w k hk
    have f131 : ∀ x : Int32, f_NumberReader_readExponent_131 v (nR b e p neg s ex pp) (nI (3 - k)) x = some (bB (decide (k < 3)), nR b e p neg s x pp) := by
      intro x
      rw [e_NumberReader_readExponent_131]
      by_cases q : k < 3
      · rw [if_neg (nI_nle (by omega) (by omega)), decide_eq_true q]; rfl
      · rw [show 3 - k = 0 by omega, if_pos (show nI 0 ≤ 0 by decide), decide_eq_false q]; rfl
    rw [e_NumberReader_readExponent_120]
    cases x2
    · rw [if_pos b_f, f131]; rfl
    · rw [if_neg b_t, f131]; rfl
  intro m
  induction m with
  | zero => intro k p w h; omega
  | succ m ih =>
    intro k p w hm hk hb hp
    rw [e_NumberReader_readExponent_65]
    cases k with
    | zero =>
      rw [if_pos (show (3 : Int32) ≤ nI (3 - 0) by decide), fin p w 0 (by omega)]
      rfl
    | succ k =>
      rw [if_neg (li_nle 3 3 rfl (by omega) (by decide)), show N_place (nR b e p neg s ex pp) = nI p from rfl, c_bodyAt hR he (by omega) p (by omega) _ rfl, Option.bind_some, c_isDig hR.2.2 he hb, Option.bind_some]
      unfold scE
      cases c : isD T e p
      · rw [if_pos b_f, ib_f, fin p w (k + 1) hk]
      · have q := isD_p c
        have hd := hR.2.2 p (by omega)
        rw [if_neg b_t, ib_t, Option.bind_some, show bA T b e p = nI (T p) from if_pos ⟨hb, q.1⟩, show nI w * 10 + nI (T p) - 48 = nI (10 * w + (T p - 48)) by
          rw [show nI w * 10 = nI (w * 10) from pk_mul w 10, nI_add, show (48 : Int32) = nI 48 from rfl, pk_sub (by omega), show w * 10 + T p - 48 = 10 * w + (T p - 48) by omega], nI_1, nI_1, show 3 - (k + 1) + 1 = 3 - k by omega]
        exact ih k (p + 1) _ (by omega) (by omega) (by omega) (by omega)
