-- a number of a pattern
theorem FU_val : FU = 1000 := rfl
theorem sInt_p (T : Nat → Nat) (n : Nat) : ∀ (f p k h z : Nat) (gr : Bool) (g : Nat), 12 - k < f → p ≤ n → k = h + z → k ≤ 12 → g ≤ k → (gr = false → g = 0) →
    p ≤ (sInt T n f p k h z gr g).2.1 ∧ (sInt T n f p k h z gr g).2.1 ≤ n ∧ (sInt T n f p k h z gr g).2.2.1 + (sInt T n f p k h z gr g).2.2.2.1 ≤ 12 ∧ p + ((sInt T n f p k h z gr g).2.2.1 + (sInt T n f p k h z gr g).2.2.2.1) ≤ (sInt T n f p k h z gr g).2.1 + k ∧
    ((sInt T n f p k h z gr g).1 = true → 1 ≤ (sInt T n f p k h z gr g).2.2.1 + (sInt T n f p k h z gr g).2.2.2.1) ∧ (sInt T n f p k h z gr g).2.2.2.2.2 ≤ 12 ∧ ((sInt T n f p k h z gr g).2.2.2.2.1 = false → (sInt T n f p k h z gr g).2.2.2.2.2 = 0) := by
  intro f
  induction f with
  | zero => intro p k h z gr g hf; omega
  | succ f ih =>
    intro p k h z gr g hf hp hk hk12 hg hgr
    by_cases h12 : 12 ≤ k
    · rw [show sInt T n (f + 1) p k h z gr g = (true, p, h, z, gr, g) from if_pos h12]
      exact ⟨Nat.le_refl p, hp, by show h + z ≤ 12; omega, by show p + (h + z) ≤ p + k; omega, fun _ => by show 1 ≤ h + z; omega, by show g ≤ 12; omega, hgr⟩
    · by_cases ys : 0 < k ∧ p < n ∧ T p = 44
      · by_cases c1 : p + 1 < n ∧ T (p + 1) = 35 ∧ z = 0
        · rw [show sInt T n (f + 1) p k h z gr g = sInt T n f (p + 2) (k + 1) (h + 1) z true 1 from (if_neg h12).trans ((if_pos ys).trans (if_pos c1))]
          obtain ⟨a1, a2, a3, a4, a5, a6, a7⟩ := ih (p + 2) (k + 1) (h + 1) z true 1 (by omega) (by omega) (by omega) (by omega) (by omega) (by intro q; cases q)
          exact ⟨by omega, a2, a3, by omega, a5, a6, a7⟩
        · by_cases c2 : p + 1 < n ∧ T (p + 1) = 48
          · rw [show sInt T n (f + 1) p k h z gr g = sInt T n f (p + 2) (k + 1) h (z + 1) true 1 from (if_neg h12).trans ((if_pos ys).trans ((if_neg c1).trans (if_pos c2)))]
            obtain ⟨a1, a2, a3, a4, a5, a6, a7⟩ := ih (p + 2) (k + 1) h (z + 1) true 1 (by omega) (by omega) (by omega) (by omega) (by omega) (by intro q; cases q)
            exact ⟨by omega, a2, a3, by omega, a5, a6, a7⟩
          · rw [show sInt T n (f + 1) p k h z gr g = (false, p + 1, h, z, true, 0) from (if_neg h12).trans ((if_pos ys).trans ((if_neg c1).trans (if_neg c2)))]
            exact ⟨by show p ≤ p + 1; omega, by show p + 1 ≤ n; omega, by show h + z ≤ 12; omega, by show p + (h + z) ≤ p + 1 + k; omega, (fun q => by cases q), by show 0 ≤ 12; omega, (fun q => by cases q)⟩
      · by_cases c1 : p < n ∧ T p = 35 ∧ z = 0
        · rw [show sInt T n (f + 1) p k h z gr g = sInt T n f (p + 1) (k + 1) (h + 1) z gr (if gr = true then g + 1 else g) from (if_neg h12).trans ((if_neg ys).trans (if_pos c1))]
          obtain ⟨a1, a2, a3, a4, a5, a6, a7⟩ := ih (p + 1) (k + 1) (h + 1) z gr (if gr = true then g + 1 else g) (by omega) (by omega) (by omega) (by omega) (by split <;> omega) (fun q => by rw [q]; exact hgr q)
          exact ⟨by omega, a2, a3, by omega, a5, a6, a7⟩
        · by_cases c2 : p < n ∧ T p = 48
          · rw [show sInt T n (f + 1) p k h z gr g = sInt T n f (p + 1) (k + 1) h (z + 1) gr (if gr = true then g + 1 else g) from (if_neg h12).trans ((if_neg ys).trans ((if_neg c1).trans (if_pos c2)))]
            obtain ⟨a1, a2, a3, a4, a5, a6, a7⟩ := ih (p + 1) (k + 1) h (z + 1) gr (if gr = true then g + 1 else g) (by omega) (by omega) (by omega) (by omega) (by split <;> omega) (fun q => by rw [q]; exact hgr q)
            exact ⟨by omega, a2, a3, by omega, a5, a6, a7⟩
          · rw [show sInt T n (f + 1) p k h z gr g = (decide (0 < k), p, h, z, gr, g) from (if_neg h12).trans ((if_neg ys).trans ((if_neg c1).trans (if_neg c2)))]
            exact ⟨Nat.le_refl p, hp, by show h + z ≤ 12; omega, by show p + (h + z) ≤ p + k; omega, fun q => by have := of_decide_eq_true q; show 1 ≤ h + z; omega, by show g ≤ 12; omega, hgr⟩
theorem sFr_p (T : Nat → Nat) (n : Nat) : ∀ (f p a b : Nat), p ≤ n → a ≤ b → b ≤ 9 → p ≤ (sFr T n f p a b).1 ∧ (sFr T n f p a b).1 ≤ n ∧ (sFr T n f p a b).2.1 ≤ (sFr T n f p a b).2.2 ∧ (sFr T n f p a b).2.2 ≤ 9 := by
  intro f
  induction f with
  | zero => intro p a b hp hab hb; exact ⟨Nat.le_refl p, hp, hab, hb⟩
  | succ f ih =>
    intro p a b hp hab hb
    by_cases h9 : 9 ≤ b
    · rw [show sFr T n (f + 1) p a b = (p, a, b) from if_pos h9]
      exact ⟨Nat.le_refl p, hp, hab, hb⟩
    · by_cases c1 : (p < n ∧ T p = 48) ∧ b = a
      · rw [show sFr T n (f + 1) p a b = sFr T n f (p + 1) (a + 1) (b + 1) from (if_neg h9).trans (if_pos c1)]
        obtain ⟨a1, a2, a3, a4⟩ := ih (p + 1) (a + 1) (b + 1) (by omega) (by omega) (by omega)
        exact ⟨by omega, a2, a3, a4⟩
      · by_cases c2 : p < n ∧ T p = 35
        · rw [show sFr T n (f + 1) p a b = sFr T n f (p + 1) a (b + 1) from (if_neg h9).trans ((if_neg c1).trans (if_pos c2))]
          obtain ⟨a1, a2, a3, a4⟩ := ih (p + 1) a (b + 1) (by omega) (by omega) (by omega)
          exact ⟨by omega, a2, a3, a4⟩
        · rw [show sFr T n (f + 1) p a b = (p, a, b) from (if_neg h9).trans ((if_neg c1).trans (if_neg c2))]
          exact ⟨Nat.le_refl p, hp, hab, hb⟩
theorem sEx_p (T : Nat → Nat) (n : Nat) : ∀ (f p e : Nat), p ≤ n → e ≤ 3 → p ≤ (sEx T n f p e).1 ∧ (sEx T n f p e).1 ≤ n ∧ (sEx T n f p e).2 ≤ 3 := by
  intro f
  induction f with
  | zero => intro p e hp he; exact ⟨Nat.le_refl p, hp, he⟩
  | succ f ih =>
    intro p e hp he
    by_cases h3 : 3 ≤ e
    · rw [show sEx T n (f + 1) p e = (p, e) from if_pos h3]
      exact ⟨Nat.le_refl p, hp, he⟩
    · by_cases c : p < n ∧ T p = 48
      · rw [show sEx T n (f + 1) p e = sEx T n f (p + 1) (e + 1) from (if_neg h3).trans (if_pos c)]
        obtain ⟨a1, a2, a3⟩ := ih (p + 1) (e + 1) (by omega) (by omega)
        exact ⟨by omega, a2, a3⟩
      · rw [show sEx T n (f + 1) p e = (p, e) from (if_neg h3).trans (if_neg c)]
        exact ⟨Nat.le_refl p, hp, he⟩
section NUM
variable (T : Nat → Nat) (n p : Nat)
def nuI : Bool × Nat × Nat × Nat × Bool × Nat := sInt T n FU p 0 0 0 false 0
def nuH : Nat := (nuI T n p).2.2.1
def nuZ : Nat := (nuI T n p).2.2.2.1
def nuGr : Bool := (nuI T n p).2.2.2.2.1
def nuG : Nat := (nuI T n p).2.2.2.2.2
def nuQ : Nat := (nuI T n p).2.1
def nuD : Prop := nuQ T n p < n ∧ T (nuQ T n p) = 46
def nuF : Nat × Nat × Nat := if nuQ T n p < n ∧ T (nuQ T n p) = 46 then sFr T n FU (nuQ T n p + 1) 0 0 else (nuQ T n p, 0, 0)
def nuX : Bool := decide (((nuF T n p).1 < n ∧ T (nuF T n p).1 = 69) ∧ nuH T n p = 0 ∧ nuGr T n p = false)
def nuE : Nat × Nat := if nuX T n p = true then sEx T n FU ((nuF T n p).1 + 1) 0 else ((nuF T n p).1, 0)
def nuOk : Bool := (nuI T n p).1 && (!(nuX T n p) || decide (0 < (nuE T n p).2))
def nuP : Nat := if (nuI T n p).1 = true then (nuE T n p).1 else nuQ T n p
def nuS : T_Shape := if (nuI T n p).1 = true then shp (nuH T n p) (nuZ T n p) (nuF T n p).2.1 (nuF T n p).2.2 (nuGr T n p) (nuG T n p) (nuE T n p).2 else shp (nuH T n p) (nuZ T n p) 0 0 (nuGr T n p) (nuG T n p) 0
end NUM
theorem nu_p {T : Nat → Nat} {n p : Nat} (hp : p ≤ n) : p ≤ nuQ T n p ∧ nuQ T n p ≤ n ∧ nuH T n p + nuZ T n p ≤ 12 ∧ p + (nuH T n p + nuZ T n p) ≤ nuQ T n p ∧ ((nuI T n p).1 = true → 1 ≤ nuH T n p + nuZ T n p) ∧ nuG T n p ≤ 12 ∧ (nuGr T n p = false → nuG T n p = 0) := by
  obtain ⟨a1, a2, a3, a4, a5, a6, a7⟩ := sInt_p T n FU p 0 0 0 false 0 (by rw [FU_val]; omega) hp rfl (by omega) (by omega) (fun _ => rfl)
  exact ⟨a1, a2, a3, a4, a5, a6, a7⟩
theorem nuF_p {T : Nat → Nat} {n p : Nat} (hp : p ≤ n) : nuQ T n p ≤ (nuF T n p).1 ∧ (nuF T n p).1 ≤ n ∧ (nuF T n p).2.1 ≤ (nuF T n p).2.2 ∧ (nuF T n p).2.2 ≤ 9 := by
  obtain ⟨a1, a2, -⟩ := nu_p (T := T) hp
  unfold nuF
  by_cases c : nuQ T n p < n ∧ T (nuQ T n p) = 46
  · rw [if_pos c]
    obtain ⟨b1, b2, b3, b4⟩ := sFr_p T n FU (nuQ T n p + 1) 0 0 (by omega) (by omega) (by omega)
    exact ⟨by omega, b2, b3, b4⟩
  · rw [if_neg c]
    exact ⟨Nat.le_refl _, a2, Nat.le_refl _, by show 0 ≤ 9; omega⟩
theorem nuE_p {T : Nat → Nat} {n p : Nat} (hp : p ≤ n) : (nuF T n p).1 ≤ (nuE T n p).1 ∧ (nuE T n p).1 ≤ n ∧ (nuE T n p).2 ≤ 3 ∧ (0 < (nuE T n p).2 → nuX T n p = true) := by
  obtain ⟨a1, a2, -⟩ := nuF_p (T := T) hp
  unfold nuE
  by_cases c : nuX T n p = true
  · rw [if_pos c]
    have c' := of_decide_eq_true c
    obtain ⟨b1, b2, b3⟩ := sEx_p T n FU ((nuF T n p).1 + 1) 0 (by omega) (by omega)
    exact ⟨by omega, b2, b3, fun _ => c⟩
  · rw [if_neg c]
    exact ⟨Nat.le_refl _, a2, by show 0 ≤ 3; omega, fun q => absurd q (Nat.lt_irrefl 0)⟩
theorem nuP_p {T : Nat → Nat} {n p : Nat} (hp : p ≤ n) : p ≤ nuP T n p ∧ nuP T n p ≤ n ∧ (nuOk T n p = true → p + 1 ≤ nuP T n p) := by
  obtain ⟨a1, a2, a3, a4, a5, -⟩ := nu_p (T := T) hp
  obtain ⟨b1, b2, -⟩ := nuF_p (T := T) hp
  obtain ⟨c1, c2, -⟩ := nuE_p (T := T) hp
  unfold nuP
  by_cases c : (nuI T n p).1 = true
  · rw [if_pos c]
    have := a5 c
    exact ⟨by omega, c2, fun _ => by omega⟩
  · rw [if_neg c]
    exact ⟨a1, a2, fun q => absurd (Bool.and_eq_true_iff.mp q).1 c⟩
theorem c_num {v : T_Row} {T : Nat → Nat} {n p : Nat} (h : RowOf v T n) (hp : p ≤ n) (sh : T_Shape) : f_PatternReader_readNumber (nI p) v sh = some (bB (nuOk T n p), nI (nuP T n p), nuS T n p) := by
  have hN := h.2.1
  have hle := h.le
  obtain ⟨a1, a2, -⟩ := nu_p (T := T) hp
  obtain ⟨b1, b2, -⟩ := nuF_p (T := T) hp
  have ci := c_int h 0 0 0 FU p 0 0 0 false 0 (by rw [FU_val]; omega) hp rfl (by omega)
  rw [e_PatternReader_readNumber, show f_Shape_clear sh = some (shp 0 0 0 0 false 0 0) from rfl, Option.bind_some, e_PatternReader_readInteger, show f_PatternReader_readInteger_2 v FU (nI p) (shp 0 0 0 0 false 0 0) (0 : Int32) = _ from ci, Option.bind_some]
  show (if bB (nuI T n p).1 = 0 then some ((0 : Int32), nI (nuQ T n p), shp (nuH T n p) (nuZ T n p) 0 0 (nuGr T n p) (nuG T n p) 0) else _) = _
  unfold nuOk nuP nuS
  cases hI : (nuI T n p).1
  · rw [if_pos b_f, if_neg (by decide), if_neg (by decide)]; rfl
  · rw [if_neg b_t, if_pos rfl, if_pos rfl]
    show (f_Row_at v (nI (nuQ T n p))).bind _ = _
    have e44 : ∀ (q a b : Nat), q ≤ n → (nuF T n p) = (q, a, b) → f_PatternReader_readNumber_44 v (nI q) (shp (nuH T n p) (nuZ T n p) a b (nuGr T n p) (nuG T n p) 0) = some (bB (true && (!(nuX T n p) || decide (0 < (nuE T n p).2))), nI (nuE T n p).1, shp (nuH T n p) (nuZ T n p) (nuF T n p).2.1 (nuF T n p).2.2 (nuGr T n p) (nuG T n p) (nuE T n p).2) := by
      intro q a b hq hF
      rw [e_PatternReader_readNumber_44, row_at h q (by omega), Option.bind_some]
      by_cases c : q < n ∧ T q = 69
      · rw [if_pos ((chA_eq hle 69 69 rfl (by decide)).mpr c), e_Shape_allowsExponent, shp_h, shp_gr]
        obtain ⟨u1, u2, u3, -⟩ := nu_p (T := T) hp
        by_cases h0 : nuH T n p = 0
        · rw [if_pos (show nI (nuH T n p) = 0 by rw [h0]; rfl)]
          cases hg : nuGr T n p
          · have hX : nuX T n p = true := decide_eq_true ⟨by rw [hF]; exact c, h0, hg⟩
            have hE : nuE T n p = sEx T n FU (q + 1) 0 := by unfold nuE; rw [if_pos hX, hF]
            rw [if_pos b_f, show f_Shape_allowsExponent_19 (shp (nuH T n p) (nuZ T n p) a b false (nuG T n p) 0) 1 = some 1 from rfl, Option.bind_some, if_neg one_ne, e_PatternReader_readExponent, nI_1, c_ex h (nuH T n p) (nuZ T n p) a b false (nuG T n p) FU (q + 1) 0 (by rw [FU_val]; omega) (by omega) (by omega), Option.bind_some, if_pos (bB_01 _), hX, hE, hF]
            rfl
          · have hX : nuX T n p = false := decide_eq_false (fun z => by rw [hg] at z; cases z.2.2)
            have hE : nuE T n p = (q, 0) := by unfold nuE; rw [hX, if_neg (by decide), hF]
            rw [if_neg b_t, show f_Shape_allowsExponent_18 (shp (nuH T n p) (nuZ T n p) a b true (nuG T n p) 0) = some 0 from rfl, Option.bind_some, if_pos rfl, hX, hE, hF]
            rfl
        · have hX : nuX T n p = false := decide_eq_false (fun z => h0 z.2.1)
          have hE : nuE T n p = (q, 0) := by unfold nuE; rw [hX, if_neg (by decide), hF]
          rw [if_neg (nI_nel 0 0 rfl (by omega) (by decide) h0), show ∀ s, f_Shape_allowsExponent_18 s = some 0 from fun s => rfl, Option.bind_some, if_pos rfl, hX, hE, hF]
          rfl
      · have hX : nuX T n p = false := decide_eq_false (fun z => c (by have := z.1; rw [hF] at this; exact this))
        have hE : nuE T n p = (q, 0) := by unfold nuE; rw [hX, if_neg (by decide), hF]
        rw [if_neg (fun z => c ((chA_eq hle 69 69 rfl (by decide)).mp z)), hX, hE, hF]
        rfl
    rw [row_at h _ (by omega), Option.bind_some]
    by_cases cd : nuQ T n p < n ∧ T (nuQ T n p) = 46
    · have hF : nuF T n p = sFr T n FU (nuQ T n p + 1) 0 0 := if_pos cd
      rw [if_pos ((chA_eq hle 46 46 rfl (by decide)).mpr cd), e_PatternReader_readFraction, nI_1]
      show (f_PatternReader_readFraction_2 v FU (nI (nuQ T n p + 1)) (shp (nuH T n p) (nuZ T n p) 0 0 (nuGr T n p) (nuG T n p) 0) (0 : Int32)).bind _ = _
      rw [show f_PatternReader_readFraction_2 v FU (nI (nuQ T n p + 1)) (shp (nuH T n p) (nuZ T n p) 0 0 (nuGr T n p) (nuG T n p) 0) (0 : Int32) = _ from c_fr h (nuH T n p) (nuZ T n p) (nuGr T n p) (nuG T n p) 0 FU (nuQ T n p + 1) 0 0 (by rw [FU_val]; omega) (by omega) (by omega) (by omega), Option.bind_some, ← hF]
      exact e44 _ _ _ b2 rfl
    · have hF : nuF T n p = (nuQ T n p, 0, 0) := if_neg cd
      rw [if_neg (fun z => cd ((chA_eq hle 46 46 rfl (by decide)).mp z))]
      exact e44 _ _ _ a2 hF
/-- what the reference keeps of a number -/
def nuK (T : Nat → Nat) (n p : Nat) (kp : Nat → Int32) : Nat → Int32 := upd (upd kp 0 (nI (nuZ T n p))) 3 (nI (nuG T n p))
def nuK2 (T : Nat → Nat) (n p : Nat) (kp : Nat → Int32) : Nat → Int32 := if nuQ T n p < n ∧ T (nuQ T n p) = 46 then upd (upd (nuK T n p kp) 1 (nI (nuF T n p).2.1)) 2 (nI (nuF T n p).2.2) else nuK T n p kp
def nuK3 (T : Nat → Nat) (n p : Nat) (kp : Nat → Int32) : Nat → Int32 := if (nuI T n p).1 = true then (if nuX T n p = true then upd (nuK2 T n p kp) 4 (nI (nuE T n p).2) else nuK2 T n p kp) else nuK T n p kp
theorem m_whole {M : T_Model} {T : Nat → Nat} {n p : Nat} (h : ModOf M T n) (hp : p ≤ n) {el es kp : Nat → Int32} {w o : Int32} (kg fst : Bool) :
    f_Model_whole (mP M el es kp (nI p) w o (bB kg)) (bB fst) = some (nI (if nuGr T n p = true ∨ 0 < nuH T n p then 0 else nuZ T n p), mP M el es (if (kg && fst) = true then nuK T n p kp else kp) (nI (nuQ T n p)) (if (nuI T n p).1 = true then w else nI (nuQ T n p)) o (bB kg)) := by
  obtain ⟨a1, a2, a3, a4, a5, a6, a7⟩ := nu_p (T := T) hp
  obtain ⟨q', m1, m2⟩ := m_int h (el := el) (es := es) (kp := kp) (w := w) (o := o) (g := bB kg) (x := bB fst) FU FU p 0 0 0 0 false 0 (by rw [FU_val]; omega) (by rw [FU_val]; omega) hp rfl (by omega) (by intro q; cases q)
  rw [e_Model_whole]
  rw [show f_Model_whole_13 FU (mP M el es kp (nI p) w o (bB kg)) (bB fst) 0 0 0 0 1 = _ from m1]
  show f_Model_whole_153 (mP M el es kp (nI (nuQ T n p)) w o (bB kg)) (bB fst) (nI (nuH T n p + nuZ T n p)) (nI (nuZ T n p)) (nI q') (bB (nuGr T n p)) (bB (!(nuI T n p).1)) = _
  have hq : nuGr T n p = true → q' = nuG T n p := m2
  have e201 : ∀ (X : T_Model), f_Model_whole_201 X (nI (nuH T n p + nuZ T n p)) (nI (nuZ T n p)) (bB (nuGr T n p)) = some (nI (if nuGr T n p = true ∨ 0 < nuH T n p then 0 else nuZ T n p), X) := by
    intro X
    rw [e_Model_whole_201]
    cases hg : nuGr T n p
    · rw [if_pos b_f]
      by_cases h0 : nuH T n p = 0
      · rw [if_pos (by rw [h0, Nat.zero_add]; exact nI_le (Nat.le_refl _) (by omega)), if_neg (by intro z; rcases z with z | z; cases z; omega), h0, Nat.zero_add]; rfl
      · rw [if_neg (nI_ge (by omega) (by omega)), if_pos (Or.inr (by omega))]; rfl
    · rw [if_neg b_t, if_pos (Or.inl rfl)]; rfl
  have e166 : ∀ (w' : Int32), f_Model_whole_166 (mP M el es kp (nI (nuQ T n p)) w' o (bB kg)) (bB fst) (nI (nuH T n p + nuZ T n p)) (nI (nuZ T n p)) (nI q') (bB (nuGr T n p)) = some (nI (if nuGr T n p = true ∨ 0 < nuH T n p then 0 else nuZ T n p), mP M el es (if (kg && fst) = true then nuK T n p kp else kp) (nI (nuQ T n p)) w' o (bB kg)) := by
    intro w'
    rw [e_Model_whole_166, mP_keeping]
    cases kg
    · rw [if_pos b_f, e201]; rfl
    · rw [if_neg b_t]
      cases fst
      · rw [if_pos b_f, e201]; rfl
      · rw [if_neg b_t, mP_kept, sP_kept]
        cases hg : nuGr T n p
        · have := e201 (mP M el es (nuK T n p kp) (nI (nuQ T n p)) w' o (bB true))
          rw [hg] at this
          have hk : nuK T n p kp = upd (upd kp 0 (nI (nuZ T n p))) 3 0 := by unfold nuK; rw [a7 hg]; rfl
          rw [hk] at this
          rw [if_pos b_f, e_Model_whole_200, if_pos (show ix 3 7 by decide), mP_kept, sP_kept, hk]
          exact this
        · have := e201 (mP M el es (nuK T n p kp) (nI (nuQ T n p)) w' o (bB true))
          rw [hg] at this
          rw [if_neg b_t, e_Model_whole_200, if_pos (show ix 3 7 by decide), mP_kept, sP_kept, hq hg]
          exact this
  rw [e_Model_whole_153]
  cases hI : (nuI T n p).1
  · rw [if_neg (show ¬ bB (!false) = 0 from b_t), mP_at, sP_wrong, e166]; rfl
  · rw [if_pos (show bB (!true) = 0 from b_f), e166]; rfl
