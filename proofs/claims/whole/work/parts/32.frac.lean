-- the digits behind the point, and the exponent
theorem shp_e (h z a b : Nat) (gr : Bool) (g e : Nat) : S_exponentZeros (shp h z a b gr g e) = nI e := rfl
theorem shp_h (h z a b : Nat) (gr : Bool) (g e : Nat) : S_hashes (shp h z a b gr g e) = nI h := rfl
theorem shp_gr (h z a b : Nat) (gr : Bool) (g e : Nat) : S_grouped (shp h z a b gr g e) = bB gr := rfl
def sFr (T : Nat → Nat) (n : Nat) : Nat → Nat → Nat → Nat → Nat × Nat × Nat
  | 0, p, a, b => (p, a, b)
  | f + 1, p, a, b =>
    if 9 ≤ b then (p, a, b)
    else if (p < n ∧ T p = 48) ∧ b = a then sFr T n f (p + 1) (a + 1) (b + 1)
    else if p < n ∧ T p = 35 then sFr T n f (p + 1) a (b + 1)
    else (p, a, b)
theorem take_fr {T : Nat → Nat} {n p : Nat} (hle : ∀ i, i < n → T i ≤ 126) (h z a b : Nat) (gr : Bool) (g e : Nat) (ha : a < 1000) (hb : b < 1000) :
    f_Shape_takeFraction (shp h z a b gr g e) (chA T n p) = some (if (p < n ∧ T p = 48) ∧ b = a then ((1 : Int32), shp h z (a + 1) (b + 1) gr g e) else if p < n ∧ T p = 35 then ((1 : Int32), shp h z a (b + 1) gr g e) else ((0 : Int32), shp h z a b gr g e)) := by
  have hba : S_mostFraction (shp h z a b gr g e) = S_leastFraction (shp h z a b gr g e) ↔ b = a := nI_eq (by omega) (by omega)
  have k30 : f_Shape_takeFraction_30 (shp h z a b gr g e) (chA T n p) = some (if p < n ∧ T p = 35 then ((1 : Int32), shp h z a (b + 1) gr g e) else ((0 : Int32), shp h z a b gr g e)) := by
    rw [e_Shape_takeFraction_30]
    by_cases c : p < n ∧ T p = 35
    · rw [if_pos ((chA_eq hle 35 35 rfl (by decide)).mpr c), if_pos c]
      show some ((1 : Int32), ((nI h, nI z, nI a, nI b + 1, bB gr, nI g, nI e) : T_Shape)) = _
      rw [nI_1]; rfl
    · rw [if_neg (fun q => c ((chA_eq hle 35 35 rfl (by decide)).mp q)), if_neg c]
  rw [e_Shape_takeFraction]
  by_cases c : p < n ∧ T p = 48
  · rw [if_pos ((chA_eq hle 48 48 rfl (by decide)).mpr c)]
    by_cases d : b = a
    · rw [if_pos (hba.mpr d), if_pos ⟨c, d⟩]
      show some ((1 : Int32), ((nI h, nI z, nI a + 1, nI b + 1, bB gr, nI g, nI e) : T_Shape)) = _
      rw [nI_1, nI_1]; rfl
    · rw [if_neg (fun q => d (hba.mp q)), if_neg (fun q => d q.2), k30]
  · rw [if_neg (fun q => c ((chA_eq hle 48 48 rfl (by decide)).mp q)), if_neg (fun q => c q.1), k30]
theorem c_fr {v : T_Row} {T : Nat → Nat} {n : Nat} (h : RowOf v T n) (hh z : Nat) (gr : Bool) (g e : Nat) : ∀ (f p a b : Nat), 9 - b < f → p ≤ n → a ≤ b → b ≤ 9 →
    f_PatternReader_readFraction_2 v f (nI p) (shp hh z a b gr g e) (nI b) = some (nI (sFr T n f p a b).1, shp hh z (sFr T n f p a b).2.1 (sFr T n f p a b).2.2 gr g e) := by
  have hN := h.2.1
  have hle := h.le
  intro f
  induction f with
  | zero => intro p a b hf; omega
  | succ f ih =>
    intro p a b hf hp hab hb9
    rw [e_PatternReader_readFraction_2]
    by_cases h9 : 9 ≤ b
    · rw [if_pos (li_le 9 9 rfl h9 (by omega)), show sFr T n (f + 1) p a b = (p, a, b) from if_pos h9]
    · rw [if_neg (li_nle 9 9 rfl (by omega) (by decide)), row_at h p (by omega), Option.bind_some, take_fr hle hh z a b gr g e (by omega) (by omega), Option.bind_some]
      by_cases c1 : (p < n ∧ T p = 48) ∧ b = a
      · rw [if_pos c1]; dsimp only
        rw [if_neg one_ne, nI_1, nI_1, show sFr T n (f + 1) p a b = sFr T n f (p + 1) (a + 1) (b + 1) from (if_neg h9).trans (if_pos c1)]
        exact ih (p + 1) (a + 1) (b + 1) (by omega) (by omega) (by omega) (by omega)
      · rw [if_neg c1]
        by_cases c2 : p < n ∧ T p = 35
        · rw [if_pos c2]; dsimp only
          rw [if_neg one_ne, nI_1, nI_1, show sFr T n (f + 1) p a b = sFr T n f (p + 1) a (b + 1) from (if_neg h9).trans ((if_neg c1).trans (if_pos c2))]
          exact ih (p + 1) a (b + 1) (by omega) (by omega) (by omega) (by omega)
        · rw [if_neg c2]; dsimp only
          rw [if_pos rfl, show sFr T n (f + 1) p a b = (p, a, b) from (if_neg h9).trans ((if_neg c1).trans (if_neg c2))]
theorem m_fr {M : T_Model} {T : Nat → Nat} {n : Nat} (h : ModOf M T n) {el es kp : Nat → Int32} {w o g x : Int32} : ∀ (f p a b : Nat), 9 - b < f → p ≤ n → a ≤ b → b ≤ 9 →
    f_Model_fraction_4 f (mP M el es kp (nI p) w o g) x (nI a) (nI (b - a)) = f_Model_fraction_105 (mP M el es kp (nI (sFr T n f p a b).1) w o g) x (nI (sFr T n f p a b).2.1) (nI ((sFr T n f p a b).2.2 - (sFr T n f p a b).2.1)) := by
  have hN := h.2.1
  have hle := h.le
  intro f
  induction f with
  | zero => intro p a b hf; omega
  | succ f ih =>
    intro p a b hf hp hab hb9
    have i1 : p < n → ix (nI p) 120 := fun q => ixN (by omega) (by decide)
    have z48 : (p < n ∧ T p = 48) → f_Model_fraction_48 (f_Model_fraction_4 f) (mP M el es kp (nI p) w o g) x (nI a) (nI (b - a)) = f_Model_fraction_4 f (mP M el es kp (nI (p + 1)) w o g) x (nI (a + 1)) (nI (b - a)) := by
      intro c
      rw [e_Model_fraction_48, mP_at, if_pos (i1 c.1), mP_text, nI_clamp (by omega), (h.2.2 p c.1).1, if_pos (show nI (T p) = 48 by rw [c.2]; rfl), e_Model_fraction_69, mP_at, if_pos (i1 c.1), mP_text, nI_clamp (by omega), (h.2.2 p c.1).1, if_neg (show ¬ nI (T p) = 35 by rw [c.2]; decide), e_Model_fraction_91, mP_at, sP_at, nI_1, nI_1]
    have z35 : (p < n ∧ T p = 35) → f_Model_fraction_48 (f_Model_fraction_4 f) (mP M el es kp (nI p) w o g) x (nI a) (nI (b - a)) = f_Model_fraction_4 f (mP M el es kp (nI (p + 1)) w o g) x (nI a) (nI (b - a + 1)) := by
      intro c
      rw [e_Model_fraction_48, mP_at, if_pos (i1 c.1), mP_text, nI_clamp (by omega), (h.2.2 p c.1).1, if_neg (show ¬ nI (T p) = 48 by rw [c.2]; decide), e_Model_fraction_69, mP_at, if_pos (i1 c.1), mP_text, nI_clamp (by omega), (h.2.2 p c.1).1, if_pos (show nI (T p) = 35 by rw [c.2]; rfl), e_Model_fraction_91, mP_at, sP_at, nI_1, nI_1]
    have z27 : f_Model_fraction_27 (f_Model_fraction_4 f) (mP M el es kp (nI p) w o g) x (nI a) (nI (b - a)) = if (p < n ∧ T p = 35) ∧ b < 9 then f_Model_fraction_4 f (mP M el es kp (nI (p + 1)) w o g) x (nI a) (nI (b - a + 1)) else f_Model_fraction_105 (mP M el es kp (nI p) w o g) x (nI a) (nI (b - a)) := by
      rw [e_Model_fraction_27, mP_at, m_is (mP_of h) p (by omega) 35 35 rfl (by decide), Option.bind_some, nI_add, show a + (b - a) = b by omega]
      by_cases c : p < n ∧ T p = 35
      · rw [decide_eq_true c, if_neg b_t]
        by_cases h9 : b < 9
        · rw [if_neg (li_nle 9 9 rfl h9 (by decide)), z35 c, if_pos ⟨c, h9⟩]
        · rw [if_pos (li_le 9 9 rfl (by omega) (by omega)), if_neg (fun q => h9 q.2)]
      · rw [decide_eq_false c, if_pos b_f, if_neg (fun q => c q.1)]
    rw [e_Model_fraction_4, mP_at, m_is (mP_of h) p (by omega) 48 48 rfl (by decide), Option.bind_some]
    by_cases h9 : 9 ≤ b
    · have e27 : f_Model_fraction_27 (f_Model_fraction_4 f) (mP M el es kp (nI p) w o g) x (nI a) (nI (b - a)) = f_Model_fraction_105 (mP M el es kp (nI p) w o g) x (nI a) (nI (b - a)) := by
        rw [z27, if_neg (fun q => by omega)]
      rw [show sFr T n (f + 1) p a b = (p, a, b) from if_pos h9]
      by_cases c : p < n ∧ T p = 48
      · rw [decide_eq_true c, if_neg b_t]
        by_cases d : b = a
        · rw [if_pos (show nI (b - a) = 0 by rw [d, Nat.sub_self]; rfl), if_neg (li_nlt 9 9 rfl (by omega) (by omega)), e27]
        · rw [if_neg (nI_nel 0 0 rfl (by omega) (by decide) (by omega)), e27]
      · rw [decide_eq_false c, if_pos b_f, e27]
    · by_cases c : p < n ∧ T p = 48
      · rw [decide_eq_true c, if_neg b_t]
        by_cases d : b = a
        · rw [if_pos (show nI (b - a) = 0 by rw [d, Nat.sub_self]; rfl), if_pos (li_lt 9 9 rfl (by omega) (by decide)), z48 c, show sFr T n (f + 1) p a b = sFr T n f (p + 1) (a + 1) (b + 1) from (if_neg h9).trans (if_pos ⟨c, d⟩)]
          have := ih (p + 1) (a + 1) (b + 1) (by omega) (by omega) (by omega) (by omega)
          rw [show b + 1 - (a + 1) = b - a by omega] at this
          exact this
        · rw [if_neg (nI_nel 0 0 rfl (by omega) (by decide) (by omega)), z27, if_neg (fun q => by have := q.1.2; have := c.2; omega), show sFr T n (f + 1) p a b = (p, a, b) from (if_neg h9).trans ((if_neg (fun q => d q.2)).trans (if_neg (fun q => by have := q.2; have := c.2; omega)))]
      · rw [decide_eq_false c, if_pos b_f, z27]
        by_cases c2 : p < n ∧ T p = 35
        · rw [if_pos ⟨c2, by omega⟩, show sFr T n (f + 1) p a b = sFr T n f (p + 1) a (b + 1) from (if_neg h9).trans ((if_neg (fun q => c q.1)).trans (if_pos c2))]
          have := ih (p + 1) a (b + 1) (by omega) (by omega) (by omega) (by omega)
          rw [show b + 1 - a = b - a + 1 by omega] at this
          exact this
        · rw [if_neg (fun q => c2 q.1), show sFr T n (f + 1) p a b = (p, a, b) from (if_neg h9).trans ((if_neg (fun q => c q.1)).trans (if_neg c2))]
def sEx (T : Nat → Nat) (n : Nat) : Nat → Nat → Nat → Nat × Nat
  | 0, p, e => (p, e)
  | f + 1, p, e => if 3 ≤ e then (p, e) else if p < n ∧ T p = 48 then sEx T n f (p + 1) (e + 1) else (p, e)
theorem c_ex {v : T_Row} {T : Nat → Nat} {n : Nat} (h : RowOf v T n) (hh z a b : Nat) (gr : Bool) (g : Nat) : ∀ (f p e : Nat), 3 - e < f → p ≤ n + 1 → e ≤ 3 →
    f_PatternReader_readExponent_0 v f (nI p) (shp hh z a b gr g e) = some (bB (decide (0 < (sEx T n f p e).2)), nI (sEx T n f p e).1, shp hh z a b gr g (sEx T n f p e).2) := by
  have hN := h.2.1
  have hle := h.le
  have k44 : ∀ (p e : Nat), e ≤ 3 → f_PatternReader_readExponent_44 v (nI p) (shp hh z a b gr g e) = some (bB (decide (0 < e)), nI p, shp hh z a b gr g e) := by
    intro p e he
    rw [e_PatternReader_readExponent_44, shp_e]
    by_cases e0 : e = 0
    · subst e0
      rw [if_pos (show nI 0 ≤ 0 by decide)]; rfl
    · rw [if_neg (show ¬ nI e ≤ 0 from nI_nle (by omega) (by omega)), decide_eq_true (by omega : 0 < e)]; rfl
  intro f
  induction f with
  | zero => intro p e hf; omega
  | succ f ih =>
    intro p e hf hp he
    rw [e_PatternReader_readExponent_0, shp_e]
    by_cases h3 : 3 ≤ e
    · rw [if_pos (show (3 : Int32) ≤ nI e from li_le 3 3 rfl h3 (by omega)), show sEx T n (f + 1) p e = (p, e) from if_pos h3]
      exact k44 p e he
    · rw [if_neg (show ¬ (3 : Int32) ≤ nI e from li_nle 3 3 rfl (by omega) (by decide)), row_at h p (by omega), Option.bind_some]
      by_cases c : p < n ∧ T p = 48
      · rw [if_pos ((chA_eq hle 48 48 rfl (by decide)).mpr c), nI_1, show sEx T n (f + 1) p e = sEx T n f (p + 1) (e + 1) from (if_neg h3).trans (if_pos c)]
        have := ih (p + 1) (e + 1) (by omega) (by omega) (by omega)
        rw [← this]
        show f_PatternReader_readExponent_0 v f (nI (p + 1)) ((nI hh, nI z, nI a, nI b, bB gr, nI g, nI e + 1) : T_Shape) = _
        rw [nI_1]; rfl
      · rw [if_neg (fun q => c ((chA_eq hle 48 48 rfl (by decide)).mp q)), show sEx T n (f + 1) p e = (p, e) from (if_neg h3).trans (if_neg c)]
        exact k44 p e he
theorem m_ex {M : T_Model} {T : Nat → Nat} {n : Nat} (h : ModOf M T n) {el es kp : Nat → Int32} {w o g x : Int32} : ∀ (f p e : Nat), 3 - e < f → p ≤ n + 1 → e ≤ 3 →
    f_Model_exponent_2 f (mP M el es kp (nI p) w o g) x (nI e) = f_Model_exponent_37 (mP M el es kp (nI (sEx T n f p e).1) w o g) x (nI (sEx T n f p e).2) := by
  have hN := h.2.1
  intro f
  induction f with
  | zero => intro p e hf; omega
  | succ f ih =>
    intro p e hf hp he
    rw [e_Model_exponent_2, mP_at, m_is (mP_of h) p (by omega) 48 48 rfl (by decide), Option.bind_some]
    by_cases h3 : 3 ≤ e
    · rw [show sEx T n (f + 1) p e = (p, e) from if_pos h3, if_pos (li_le 3 3 rfl h3 (by omega))]
      split <;> rfl
    · rw [if_neg (li_nle 3 3 rfl (by omega) (by decide))]
      by_cases c : p < n ∧ T p = 48
      · rw [decide_eq_true c, if_neg b_t, sP_at, nI_1, nI_1, show sEx T n (f + 1) p e = sEx T n f (p + 1) (e + 1) from (if_neg h3).trans (if_pos c)]
        exact ih (p + 1) (e + 1) (by omega) (by omega) (by omega)
      · rw [decide_eq_false c, if_pos b_f, show sEx T n (f + 1) p e = (p, e) from (if_neg h3).trans (if_neg c)]
