-- the digits before the point
theorem one_ne : ¬ (1 : Int32) = 0 := by decide
def shp (h z a b : Nat) (gr : Bool) (g e : Nat) : T_Shape := (nI h, nI z, nI a, nI b, bB gr, nI g, nI e)
/-- ok, place, hashes, zeros, grouped, group -/
def sInt (T : Nat → Nat) (n : Nat) : Nat → Nat → Nat → Nat → Nat → Bool → Nat → Bool × Nat × Nat × Nat × Bool × Nat
  | 0, p, _, h, z, gr, g => (true, p, h, z, gr, g)
  | f + 1, p, k, h, z, gr, g =>
    if 12 ≤ k then (true, p, h, z, gr, g)
    else if 0 < k ∧ p < n ∧ T p = 44 then
      (if p + 1 < n ∧ T (p + 1) = 35 ∧ z = 0 then sInt T n f (p + 2) (k + 1) (h + 1) z true 1
       else if p + 1 < n ∧ T (p + 1) = 48 then sInt T n f (p + 2) (k + 1) h (z + 1) true 1
       else (false, p + 1, h, z, true, 0))
    else
      (if p < n ∧ T p = 35 ∧ z = 0 then sInt T n f (p + 1) (k + 1) (h + 1) z gr (if gr = true then g + 1 else g)
       else if p < n ∧ T p = 48 then sInt T n f (p + 1) (k + 1) h (z + 1) gr (if gr = true then g + 1 else g)
       else (decide (0 < k), p, h, z, gr, g))
theorem take_47 (h z a b : Nat) (gr : Bool) (g e : Nat) : f_Shape_takeInteger_47 (shp h z a b gr g e) = some (1, shp h z a b gr (if gr = true then g + 1 else g) e) := by
  cases gr
  · rfl
  · rw [e_Shape_takeInteger_47, if_neg (show ¬ S_grouped (shp h z a b true g e) = 0 from b_t)]
    show some ((1 : Int32), ((nI h, nI z, nI a, nI b, bB true, nI g + 1, nI e) : T_Shape)) = _
    rw [nI_1]; rfl
theorem take_int {T : Nat → Nat} {n p : Nat} (hle : ∀ i, i < n → T i ≤ 126) (h z a b : Nat) (gr : Bool) (g e : Nat) (hz : z < 1000) :
    f_Shape_takeInteger (shp h z a b gr g e) (chA T n p) = some (if p < n ∧ T p = 35 ∧ z = 0 then ((1 : Int32), shp (h + 1) z a b gr (if gr = true then g + 1 else g) e) else if p < n ∧ T p = 48 then ((1 : Int32), shp h (z + 1) a b gr (if gr = true then g + 1 else g) e) else ((0 : Int32), shp h z a b gr g e)) := by
  have hz0 : S_leastInteger (shp h z a b gr g e) = 0 ↔ z = 0 := by
    show nI z = nI 0 ↔ _
    exact nI_eq (by omega) (by decide)
  have k26 : f_Shape_takeInteger_26 (shp h z a b gr g e) (chA T n p) = some (if p < n ∧ T p = 48 then ((1 : Int32), shp h (z + 1) a b gr (if gr = true then g + 1 else g) e) else ((0 : Int32), shp h z a b gr g e)) := by
    rw [e_Shape_takeInteger_26]
    by_cases c : p < n ∧ T p = 48
    · rw [if_pos ((chA_eq hle 48 48 rfl (by decide)).mpr c), if_pos c, ← take_47]
      show f_Shape_takeInteger_47 ((nI h, nI z + 1, nI a, nI b, bB gr, nI g, nI e) : T_Shape) = _
      rw [nI_1]; rfl
    · rw [if_neg (fun q => c ((chA_eq hle 48 48 rfl (by decide)).mp q)), if_neg c]
  rw [e_Shape_takeInteger]
  by_cases c : p < n ∧ T p = 35
  · rw [if_pos ((chA_eq hle 35 35 rfl (by decide)).mpr c)]
    by_cases z0 : z = 0
    · rw [if_pos (hz0.mpr z0), if_pos ⟨c.1, c.2, z0⟩, ← take_47]
      show f_Shape_takeInteger_47 ((nI h + 1, nI z, nI a, nI b, bB gr, nI g, nI e) : T_Shape) = _
      rw [nI_1]; rfl
    · rw [if_neg (fun q => z0 (hz0.mp q)), if_neg (fun q => z0 q.2.2), k26]
  · rw [if_neg (fun q => c ((chA_eq hle 35 35 rfl (by decide)).mp q)), if_neg (fun q => c ⟨q.1, q.2.1⟩), k26]
theorem c_int {v : T_Row} {T : Nat → Nat} {n : Nat} (h : RowOf v T n) (a b e : Nat) : ∀ (f p k hh z : Nat) (gr : Bool) (g : Nat), 12 - k < f → p ≤ n → k = hh + z → k ≤ 12 →
    f_PatternReader_readInteger_2 v f (nI p) (shp hh z a b gr g e) (nI k) = some (bB (sInt T n f p k hh z gr g).1, nI (sInt T n f p k hh z gr g).2.1, shp (sInt T n f p k hh z gr g).2.2.1 (sInt T n f p k hh z gr g).2.2.2.1 a b (sInt T n f p k hh z gr g).2.2.2.2.1 (sInt T n f p k hh z gr g).2.2.2.2.2 e) := by
  have hN := h.2.1
  have hle := h.le
  intro f
  induction f with
  | zero => intro p k hh z gr g hf; omega
  | succ f ih =>
    intro p k hh z gr g hf hp hk hk12
    rw [e_PatternReader_readInteger_2]
    by_cases h12 : 12 ≤ k
    · rw [if_pos (li_le 12 12 rfl h12 (by omega)), show sInt T n (f + 1) p k hh z gr g = (true, p, hh, z, gr, g) from if_pos h12]; rfl
    · rw [if_neg (li_nle 12 12 rfl (by omega) (by decide))]
      have tail : ∀ (p1 : Nat) (gr1 : Bool) (g1 : Nat) (c : Bool), p1 ≤ n + 1 → f_PatternReader_readInteger_51 v (f_PatternReader_readInteger_2 v f) (nI p1) (shp hh z a b gr1 g1 e) (nI k) (bB c) =
          if p1 < n ∧ T p1 = 35 ∧ z = 0 then f_PatternReader_readInteger_2 v f (nI (p1 + 1)) (shp (hh + 1) z a b gr1 (if gr1 = true then g1 + 1 else g1) e) (nI (k + 1))
          else if p1 < n ∧ T p1 = 48 then f_PatternReader_readInteger_2 v f (nI (p1 + 1)) (shp hh (z + 1) a b gr1 (if gr1 = true then g1 + 1 else g1) e) (nI (k + 1))
          else some (bB (decide (0 < k) && !c), nI p1, shp hh z a b gr1 g1 e) := by
        intro p1 gr1 g1 c hp1
        rw [e_PatternReader_readInteger_51, row_at h p1 (by omega), Option.bind_some, take_int hle hh z a b gr1 g1 e (by omega), Option.bind_some]
        by_cases c1 : p1 < n ∧ T p1 = 35 ∧ z = 0
        · rw [if_pos c1, if_pos c1]; dsimp only; rw [if_neg one_ne, nI_1, nI_1]
        · rw [if_neg c1, if_neg c1]
          by_cases c2 : p1 < n ∧ T p1 = 48
          · rw [if_pos c2, if_pos c2]; dsimp only; rw [if_neg one_ne, nI_1, nI_1]
          · rw [if_neg c2, if_neg c2, if_pos rfl]
            by_cases k0 : k = 0
            · subst k0
              rw [if_pos (by decide)]; rfl
            · rw [if_neg (nI_nle (by omega) (by omega)), decide_eq_true (by omega : 0 < k)]
              cases c
              · rw [if_pos b_f]; rfl
              · rw [if_neg b_t]; rfl
      by_cases k0 : k = 0
      · subst k0
        rw [if_pos (by decide), e_PatternReader_readInteger_29, e_PatternReader_readInteger_30, if_pos rfl, show (0 : Int32) = bB false from rfl, show bB false = nI 0 from rfl]
        rw [show f_PatternReader_readInteger_51 v (f_PatternReader_readInteger_2 v f) (nI p) (shp hh z a b gr g e) (nI 0) (nI 0) = _ from tail p gr g false (by omega)]
        have ns : ¬ (0 < 0 ∧ p < n ∧ T p = 44) := fun q => absurd q.1 (by omega)
        by_cases c1 : p < n ∧ T p = 35 ∧ z = 0
        · rw [if_pos c1, show sInt T n (f + 1) p 0 hh z gr g = sInt T n f (p + 1) (0 + 1) (hh + 1) z gr (if gr = true then g + 1 else g) from (if_neg h12).trans ((if_neg ns).trans (if_pos c1))]
          exact ih (p + 1) (0 + 1) (hh + 1) z gr _ (by omega) (by omega) (by omega) (by omega)
        · rw [if_neg c1]
          by_cases c2 : p < n ∧ T p = 48
          · rw [if_pos c2, show sInt T n (f + 1) p 0 hh z gr g = sInt T n f (p + 1) (0 + 1) hh (z + 1) gr (if gr = true then g + 1 else g) from (if_neg h12).trans ((if_neg ns).trans ((if_neg c1).trans (if_pos c2)))]
            exact ih (p + 1) (0 + 1) hh (z + 1) gr _ (by omega) (by omega) (by omega) (by omega)
          · rw [if_neg c2, show sInt T n (f + 1) p 0 hh z gr g = (decide (0 < 0), p, hh, z, gr, g) from (if_neg h12).trans ((if_neg ns).trans ((if_neg c1).trans (if_neg c2)))]; rfl
      · rw [if_neg (nI_nle (by omega) (by omega)), row_at h p (by omega), Option.bind_some]
        by_cases cm : p < n ∧ T p = 44
        · rw [if_pos ((chA_eq hle 44 44 rfl (by decide)).mpr cm), e_PatternReader_readInteger_30, if_neg (by decide), show f_Shape_startGroup (shp hh z a b gr g e) = some (shp hh z a b true 0 e) from rfl, Option.bind_some, nI_1]
          rw [show f_PatternReader_readInteger_51 v (f_PatternReader_readInteger_2 v f) (nI (p + 1)) (shp hh z a b true 0 e) (nI k) 1 = _ from tail (p + 1) true 0 true (by omega)]
          have ys : 0 < k ∧ p < n ∧ T p = 44 := ⟨by omega, cm⟩
          by_cases c1 : p + 1 < n ∧ T (p + 1) = 35 ∧ z = 0
          · rw [if_pos c1, show sInt T n (f + 1) p k hh z gr g = sInt T n f (p + 2) (k + 1) (hh + 1) z true 1 from (if_neg h12).trans ((if_pos ys).trans (if_pos c1))]
            exact ih (p + 2) (k + 1) (hh + 1) z true 1 (by omega) (by omega) (by omega) (by omega)
          · rw [if_neg c1]
            by_cases c2 : p + 1 < n ∧ T (p + 1) = 48
            · rw [if_pos c2, show sInt T n (f + 1) p k hh z gr g = sInt T n f (p + 2) (k + 1) hh (z + 1) true 1 from (if_neg h12).trans ((if_pos ys).trans ((if_neg c1).trans (if_pos c2)))]
              exact ih (p + 2) (k + 1) hh (z + 1) true 1 (by omega) (by omega) (by omega) (by omega)
            · rw [if_neg c2, show sInt T n (f + 1) p k hh z gr g = (false, p + 1, hh, z, true, 0) from (if_neg h12).trans ((if_pos ys).trans ((if_neg c1).trans (if_neg c2)))]
              rw [Bool.not_true, Bool.and_false]
        · rw [if_neg (fun q => cm ((chA_eq hle 44 44 rfl (by decide)).mp q)), e_PatternReader_readInteger_29, e_PatternReader_readInteger_30, if_pos rfl]
          rw [show f_PatternReader_readInteger_51 v (f_PatternReader_readInteger_2 v f) (nI p) (shp hh z a b gr g e) (nI k) 0 = _ from tail p gr g false (by omega)]
          have ns : ¬ (0 < k ∧ p < n ∧ T p = 44) := fun q => cm q.2
          by_cases c1 : p < n ∧ T p = 35 ∧ z = 0
          · rw [if_pos c1, show sInt T n (f + 1) p k hh z gr g = sInt T n f (p + 1) (k + 1) (hh + 1) z gr (if gr = true then g + 1 else g) from (if_neg h12).trans ((if_neg ns).trans (if_pos c1))]
            exact ih (p + 1) (k + 1) (hh + 1) z gr _ (by omega) (by omega) (by omega) (by omega)
          · rw [if_neg c1]
            by_cases c2 : p < n ∧ T p = 48
            · rw [if_pos c2, show sInt T n (f + 1) p k hh z gr g = sInt T n f (p + 1) (k + 1) hh (z + 1) gr (if gr = true then g + 1 else g) from (if_neg h12).trans ((if_neg ns).trans ((if_neg c1).trans (if_pos c2)))]
              exact ih (p + 1) (k + 1) hh (z + 1) gr _ (by omega) (by omega) (by omega) (by omega)
            · rw [if_neg c2, show sInt T n (f + 1) p k hh z gr g = (decide (0 < k), p, hh, z, gr, g) from (if_neg h12).trans ((if_neg ns).trans ((if_neg c1).trans (if_neg c2)))]
              rw [Bool.not_false, Bool.and_true]
theorem m_wh {M : T_Model} {T : Nat → Nat} {n : Nat} (h : ModOf M T n) {el es kp : Nat → Int32} {w o g x : Int32} (m p k z q : Nat) (cm due : Bool) (hp : p < 2 ^ 29) (hk : k < 1000) (hz : z < 1000) :
    f_Model_whole_13 (m + 1) (mP M el es kp (nI p) w o g) x (nI k) (nI z) (nI q) (bB cm) (bB due) =
      if k < 12 ∧ p < n ∧ T p = 35 ∧ z = 0 then f_Model_whole_13 m (mP M el es kp (nI (p + 1)) w o g) x (nI (k + 1)) (nI z) (nI (q + 1)) (bB cm) (bB false)
      else if k < 12 ∧ p < n ∧ T p = 48 then f_Model_whole_13 m (mP M el es kp (nI (p + 1)) w o g) x (nI (k + 1)) (nI (z + 1)) (nI (q + 1)) (bB cm) (bB false)
      else if k < 12 ∧ (p < n ∧ T p = 44) ∧ due = false then f_Model_whole_13 m (mP M el es kp (nI (p + 1)) w o g) x (nI k) (nI z) (nI 0) (bB true) (bB true)
      else f_Model_whole_153 (mP M el es kp (nI p) w o g) x (nI k) (nI z) (nI q) (bB cm) (bB due) := by
  have hN := h.2.1
  have hle := h.le
  have z79 : p < n → ∀ (cm : Bool), f_Model_whole_79 (f_Model_whole_13 m) (mP M el es kp (nI p) w o g) x (nI k) (nI z) (nI q) (bB cm) =
      if T p = 44 then f_Model_whole_13 m (mP M el es kp (nI (p + 1)) w o g) x (nI k) (nI z) (nI 0) (bB true) (bB true)
      else if T p = 48 then f_Model_whole_13 m (mP M el es kp (nI (p + 1)) w o g) x (nI (k + 1)) (nI (z + 1)) (nI (q + 1)) (bB cm) (bB false)
      else f_Model_whole_13 m (mP M el es kp (nI (p + 1)) w o g) x (nI (k + 1)) (nI z) (nI (q + 1)) (bB cm) (bB false) := by
    intro hpn cm
    have h126 := hle p hpn
    have i1 : ix (nI p) 120 := ixN (by omega) (by decide)
    rw [e_Model_whole_79, mP_at, if_pos i1, if_pos i1, mP_text, nI_clamp (by omega), (h.2.2 p hpn).1]
    by_cases c44 : T p = 44
    · rw [if_pos (show nI (T p) = 44 by rw [c44]; rfl), if_pos c44, e_Model_whole_140, mP_at, sP_at, nI_1]; rfl
    · rw [if_neg (nI_nel 44 44 rfl (by omega) (by decide) c44), if_neg c44]
      by_cases c48 : T p = 48
      · rw [if_pos (show nI (T p) = 48 by rw [c48]; rfl), if_pos c48, e_Model_whole_126, e_Model_whole_140, mP_at, sP_at, nI_1, nI_1, nI_1, nI_1]; rfl
      · rw [if_neg (nI_nel 48 48 rfl (by omega) (by decide) c48), if_neg c48, e_Model_whole_126, e_Model_whole_140, mP_at, sP_at, nI_1, nI_1, nI_1]; rfl
  have z55 : f_Model_whole_55 (f_Model_whole_13 m) (mP M el es kp (nI p) w o g) x (nI k) (nI z) (nI q) (bB cm) (bB due) =
      if k < 12 ∧ (p < n ∧ T p = 44) ∧ due = false then f_Model_whole_13 m (mP M el es kp (nI (p + 1)) w o g) x (nI k) (nI z) (nI 0) (bB true) (bB true)
      else f_Model_whole_153 (mP M el es kp (nI p) w o g) x (nI k) (nI z) (nI q) (bB cm) (bB due) := by
    rw [e_Model_whole_55, mP_at, m_is (mP_of h) p (by omega) 44 44 rfl (by decide), Option.bind_some]
    by_cases c : p < n ∧ T p = 44
    · rw [decide_eq_true c, if_neg b_t]
      cases due
      · rw [if_pos b_f]
        by_cases k12 : k < 12
        · rw [if_neg (li_nle 12 12 rfl k12 (by decide)), z79 c.1, if_pos c.2, if_pos ⟨k12, c, rfl⟩]
        · rw [if_pos (li_le 12 12 rfl (by omega) (by omega)), if_neg (fun q => k12 q.1)]
      · rw [if_neg b_t, if_neg (fun q => by cases q.2.2)]
    · rw [decide_eq_false c, if_pos b_f, if_neg (fun q => c q.2.1)]
  have z36 : f_Model_whole_36 (f_Model_whole_13 m) (mP M el es kp (nI p) w o g) x (nI k) (nI z) (nI q) (bB cm) (bB due) =
      if k < 12 ∧ p < n ∧ T p = 48 then f_Model_whole_13 m (mP M el es kp (nI (p + 1)) w o g) x (nI (k + 1)) (nI (z + 1)) (nI (q + 1)) (bB cm) (bB false)
      else if k < 12 ∧ (p < n ∧ T p = 44) ∧ due = false then f_Model_whole_13 m (mP M el es kp (nI (p + 1)) w o g) x (nI k) (nI z) (nI 0) (bB true) (bB true)
      else f_Model_whole_153 (mP M el es kp (nI p) w o g) x (nI k) (nI z) (nI q) (bB cm) (bB due) := by
    rw [e_Model_whole_36, mP_at, m_is (mP_of h) p (by omega) 48 48 rfl (by decide), Option.bind_some]
    by_cases c : p < n ∧ T p = 48
    · rw [decide_eq_true c, if_neg b_t]
      by_cases k12 : k < 12
      · rw [if_pos (li_lt 12 12 rfl k12 (by decide)), z79 c.1, if_neg (by rw [c.2]; decide), if_pos c.2, if_pos ⟨k12, c⟩]
      · rw [if_neg (li_nlt 12 12 rfl (by omega) (by omega)), z55]
        rw [if_neg (show ¬ (k < 12 ∧ p < n ∧ T p = 48) from fun q => k12 q.1)]
    · rw [decide_eq_false c, if_pos b_f, z55]
      rw [if_neg (show ¬ (k < 12 ∧ p < n ∧ T p = 48) from fun q => c q.2)]
  rw [e_Model_whole_13, mP_at, m_is (mP_of h) p (by omega) 35 35 rfl (by decide), Option.bind_some]
  by_cases c : p < n ∧ T p = 35
  · rw [decide_eq_true c, if_neg b_t]
    by_cases z0 : z = 0
    · rw [if_pos (show nI z = 0 by rw [z0]; rfl)]
      by_cases k12 : k < 12
      · rw [if_pos (li_lt 12 12 rfl k12 (by decide)), z79 c.1, if_neg (by rw [c.2]; decide), if_neg (by rw [c.2]; decide), if_pos ⟨k12, c.1, c.2, z0⟩]
      · rw [if_neg (li_nlt 12 12 rfl (by omega) (by omega)), z36]
        rw [if_neg (show ¬ (k < 12 ∧ p < n ∧ T p = 35 ∧ z = 0) from fun q => k12 q.1)]
    · rw [if_neg (nI_nel 0 0 rfl (by omega) (by decide) z0), z36]
      rw [if_neg (show ¬ (k < 12 ∧ p < n ∧ T p = 35 ∧ z = 0) from fun q => z0 q.2.2.2)]
  · rw [decide_eq_false c, if_pos b_f, z36]
    rw [if_neg (show ¬ (k < 12 ∧ p < n ∧ T p = 35 ∧ z = 0) from fun q => c ⟨q.2.1, q.2.2.1⟩)]
theorem m_int {M : T_Model} {T : Nat → Nat} {n : Nat} (h : ModOf M T n) {el es kp : Nat → Int32} {w o g x : Int32} : ∀ (f m p k hh z q : Nat) (gr : Bool) (gg : Nat), 12 - k < f → 2 * (12 - k) + 2 < m → p ≤ n → k = hh + z → k ≤ 12 → (gr = true → q = gg) →
    ∃ q', f_Model_whole_13 m (mP M el es kp (nI p) w o g) x (nI k) (nI z) (nI q) (bB gr) (bB (decide (k = 0))) =
      f_Model_whole_153 (mP M el es kp (nI (sInt T n f p k hh z gr gg).2.1) w o g) x (nI ((sInt T n f p k hh z gr gg).2.2.1 + (sInt T n f p k hh z gr gg).2.2.2.1)) (nI (sInt T n f p k hh z gr gg).2.2.2.1) (nI q') (bB (sInt T n f p k hh z gr gg).2.2.2.2.1) (bB (!(sInt T n f p k hh z gr gg).1)) ∧
      ((sInt T n f p k hh z gr gg).2.2.2.2.1 = true → q' = (sInt T n f p k hh z gr gg).2.2.2.2.2) := by
  have hN := h.2.1
  intro f
  induction f with
  | zero => intro m p k hh z q gr gg hf; omega
  | succ f ih =>
    intro m p k hh z q gr gg hf hm hp hk hk12 hq
    obtain ⟨m, rfl⟩ : ∃ m', m = m' + 1 := ⟨m - 1, by omega⟩
    rw [m_wh h m p k z q gr _ (by omega) (by omega) (by omega)]
    by_cases h12 : 12 ≤ k
    · rw [if_neg (fun q => by omega), if_neg (fun q => by omega), if_neg (fun q => by omega), show sInt T n (f + 1) p k hh z gr gg = (true, p, hh, z, gr, gg) from if_pos h12, decide_eq_false (by omega : ¬ k = 0)]
      exact ⟨q, by rw [hk]; rfl, hq⟩
    · have k12 : k < 12 := by omega
      by_cases ys : 0 < k ∧ p < n ∧ T p = 44
      · rw [if_neg (fun q => by have := ys.2.2; omega), if_neg (fun q => by have := ys.2.2; omega), if_pos ⟨k12, ys.2, decide_eq_false (by omega)⟩]
        obtain ⟨m, rfl⟩ : ∃ m', m = m' + 1 := ⟨m - 1, by omega⟩
        rw [m_wh h m (p + 1) k z 0 true true (by omega) (by omega) (by omega)]
        by_cases c1 : p + 1 < n ∧ T (p + 1) = 35 ∧ z = 0
        · rw [if_pos ⟨k12, c1⟩, show sInt T n (f + 1) p k hh z gr gg = sInt T n f (p + 2) (k + 1) (hh + 1) z true 1 from (if_neg h12).trans ((if_pos ys).trans (if_pos c1))]
          have := ih m (p + 2) (k + 1) (hh + 1) z (0 + 1) true 1 (by omega) (by omega) (by omega) (by omega) (by omega) (fun _ => rfl)
          rw [decide_eq_false (by omega : ¬ k + 1 = 0)] at this
          exact this
        · rw [if_neg (fun q => c1 q.2)]
          by_cases c2 : p + 1 < n ∧ T (p + 1) = 48
          · rw [if_pos ⟨k12, c2⟩, show sInt T n (f + 1) p k hh z gr gg = sInt T n f (p + 2) (k + 1) hh (z + 1) true 1 from (if_neg h12).trans ((if_pos ys).trans ((if_neg c1).trans (if_pos c2)))]
            have := ih m (p + 2) (k + 1) hh (z + 1) (0 + 1) true 1 (by omega) (by omega) (by omega) (by omega) (by omega) (fun _ => rfl)
            rw [decide_eq_false (by omega : ¬ k + 1 = 0)] at this
            exact this
          · rw [if_neg (fun q => c2 q.2), if_neg (fun q => by cases q.2.2), show sInt T n (f + 1) p k hh z gr gg = (false, p + 1, hh, z, true, 0) from (if_neg h12).trans ((if_pos ys).trans ((if_neg c1).trans (if_neg c2)))]
            exact ⟨0, by rw [hk]; rfl, fun _ => rfl⟩
      · by_cases c1 : p < n ∧ T p = 35 ∧ z = 0
        · rw [if_pos ⟨k12, c1⟩, show sInt T n (f + 1) p k hh z gr gg = sInt T n f (p + 1) (k + 1) (hh + 1) z gr (if gr = true then gg + 1 else gg) from (if_neg h12).trans ((if_neg ys).trans (if_pos c1))]
          have := ih m (p + 1) (k + 1) (hh + 1) z (q + 1) gr (if gr = true then gg + 1 else gg) (by omega) (by omega) (by omega) (by omega) (by omega) (fun e => by rw [if_pos e, hq e])
          rw [decide_eq_false (by omega : ¬ k + 1 = 0)] at this
          exact this
        · rw [if_neg (fun q => c1 q.2)]
          by_cases c2 : p < n ∧ T p = 48
          · rw [if_pos ⟨k12, c2⟩, show sInt T n (f + 1) p k hh z gr gg = sInt T n f (p + 1) (k + 1) hh (z + 1) gr (if gr = true then gg + 1 else gg) from (if_neg h12).trans ((if_neg ys).trans ((if_neg c1).trans (if_pos c2)))]
            have := ih m (p + 1) (k + 1) hh (z + 1) (q + 1) gr (if gr = true then gg + 1 else gg) (by omega) (by omega) (by omega) (by omega) (by omega) (fun e => by rw [if_pos e, hq e])
            rw [decide_eq_false (by omega : ¬ k + 1 = 0)] at this
            exact this
          · have n3 : ¬ (k < 12 ∧ (p < n ∧ T p = 44) ∧ decide (k = 0) = false) := fun q => ys ⟨by have := of_decide_eq_false q.2.2; omega, q.2.1⟩
            rw [if_neg (fun q => c2 q.2), if_neg n3, show sInt T n (f + 1) p k hh z gr gg = (decide (0 < k), p, hh, z, gr, gg) from (if_neg h12).trans ((if_neg ys).trans ((if_neg c1).trans (if_neg c2)))]
            refine ⟨q, ?_, hq⟩
            have : (!decide (0 < k)) = decide (k = 0) := by
              by_cases k0 : k = 0
              · subst k0; rfl
              · rw [decide_eq_true (by omega : 0 < k), decide_eq_false k0]; rfl
            show _ = f_Model_whole_153 _ x (nI (hh + z)) (nI z) (nI q) (bB gr) (bB (!decide (0 < k)))
            rw [this, hk]
