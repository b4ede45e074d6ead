-- a part of a pattern
theorem ib_t {α : Type} (a b : α) : (if true = true then a else b) = a := if_pos rfl
theorem ib_f {α : Type} (a b : α) : (if false = true then a else b) = b := if_neg (by decide)
def aP (T : Nat → Nat) (n p : Nat) : Nat × Bool × List Nat := sAff T n FU p false []
def ptA (T : Nat → Nat) (n p : Nat) : Nat := (aP T n p).1
def ptB (T : Nat → Nat) (n p : Nat) : Nat × Bool × List Nat := aP T n (nuP T n (ptA T n p))
def ptOk (T : Nat → Nat) (n p : Nat) : Bool := nuOk T n (ptA T n p) && !(ptB T n p).2.1
def ptP (T : Nat → Nat) (n p : Nat) : Nat := if nuOk T n (ptA T n p) = true then (ptB T n p).1 else nuP T n (ptA T n p)
theorem aP_p {T : Nat → Nat} {n p : Nat} (hT : ∀ i, i < n → 32 ≤ T i ∧ T i ≤ 126) (hn : n ≤ 120) (hp : p ≤ n) : p ≤ (aP T n p).1 ∧ (aP T n p).1 ≤ n ∧ ((aP T n p).2.1 = true → (aP T n p).1 = n) ∧ (aP T n p).2.2.length + p ≤ (aP T n p).1 ∧ okL (aP T n p).2.2 := by
  obtain ⟨a1, a2, a3, a4, a5⟩ := sAff_p T n hT FU p false [] (by rw [FU_val]; omega) hp (fun e he => by cases he)
  exact ⟨a1, a2, a3, by have : (sAff T n FU p false []).2.2.length + p ≤ 0 + (sAff T n FU p false []).1 := a4; show (sAff T n FU p false []).2.2.length + p ≤ (sAff T n FU p false []).1; omega, a5⟩
theorem pt_p {T : Nat → Nat} {n p : Nat} (hT : ∀ i, i < n → 32 ≤ T i ∧ T i ≤ 126) (hn : n ≤ 120) (hp : p ≤ n) : p ≤ ptA T n p ∧ ptA T n p ≤ n ∧ nuP T n (ptA T n p) ≤ n ∧ p ≤ ptP T n p ∧ ptP T n p ≤ n ∧ (nuOk T n (ptA T n p) = true → (aP T n p).2.1 = false) ∧ ((ptB T n p).2.1 = true → (ptB T n p).1 = n) ∧ (ptOk T n p = true → (aP T n p).2.2.length + (ptB T n p).2.2.length + (p + 1) ≤ ptP T n p) := by
  obtain ⟨a1, a2, a3, a4, a5⟩ := aP_p hT hn hp
  obtain ⟨b1, b2, b3⟩ := nuP_p (T := T) a2
  obtain ⟨c1, c2, c3, c4, c5⟩ := aP_p hT hn b2
  refine ⟨a1, a2, b2, ?_, ?_, ?_, c3, ?_⟩
  · unfold ptP
    split
    · show p ≤ (aP T n (nuP T n (ptA T n p))).1
      unfold ptA; omega
    · unfold ptA; omega
  · unfold ptP
    split
    · exact c2
    · exact b2
  · intro h
    cases hq : (aP T n p).2.1
    · rfl
    · have := a3 hq
      unfold ptA at h
      rw [this, (nu_end T n).1] at h
      cases h
  · intro h
    obtain ⟨h1, h2⟩ := Bool.and_eq_true_iff.mp h
    have b3' := b3 h1
    unfold ptP
    rw [if_pos h1]
    unfold ptB ptA
    omega
theorem RowOf.vis {v : T_Row} {T : Nat → Nat} {n : Nat} (h : RowOf v T n) : ∀ i, i < n → 32 ≤ T i ∧ T i ≤ 126 := fun i hi => (h.2.2 i hi).2
theorem ModOf.vis {M : T_Model} {T : Nat → Nat} {n : Nat} (h : ModOf M T n) : ∀ i, i < n → 32 ≤ T i ∧ T i ≤ 126 := fun i hi => (h.2.2 i hi).2
theorem c_rdAff {v : T_Row} {T : Nat → Nat} {n p : Nat} (h : RowOf v T n) (hp : p ≤ n) (a : T_Affix) : ∃ a', f_PatternReader_readAffix (nI p) v a = some (bB (!(aP T n p).2.1), nI (aP T n p).1, a') ∧ cAff a' (aP T n p).2.2 := by
  have hN := h.2.1
  obtain ⟨a', e1, e2⟩ := c_aff h FU p false (a.1, (0 : Int32)) [] (by rw [FU_val]; omega) hp (Nat.zero_le _) ⟨rfl, by show 0 ≤ 120; omega, fun i hi => absurd hi (Nat.not_lt_zero i)⟩
  refine ⟨a', ?_, e2⟩
  rw [e_PatternReader_readAffix, show f_Affix_clear a = some (a.1, (0 : Int32)) from rfl, Option.bind_some, show f_Row_size v = some (nI n) from congrArg some h.1, Option.bind_some]
  exact e1
theorem c_part {v : T_Row} {T : Nat → Nat} {n p : Nat} (h : RowOf v T n) (hp : p ≤ n) (P : T_Part) : ∃ P', f_PatternReader_readPart (nI p) v P = some (bB (ptOk T n p), nI (ptP T n p), P') ∧ (ptOk T n p = true → cAff P'.1 (aP T n p).2.2 ∧ P'.2.1 = nuS T n (ptA T n p) ∧ cAff P'.2.2 (ptB T n p).2.2) := by
  have hN := h.2.1
  obtain ⟨u1, u2, u3, u4, u5, u6, u7, u8⟩ := pt_p h.vis hN hp
  obtain ⟨a', e1, e2⟩ := c_rdAff h hp P.1
  have e3 : f_PatternReader_readNumber (nI (aP T n p).1) v P.2.1 = some (bB (nuOk T n (ptA T n p)), nI (nuP T n (ptA T n p)), nuS T n (ptA T n p)) := c_num h u2 P.2.1
  obtain ⟨a'', e4, e5⟩ := c_rdAff h u3 P.2.2
  rw [e_PatternReader_readPart]
  rw [show Q_prefix P = P.1 from rfl, e1, Option.bind_some]
  dsimp only
  cases hq : (aP T n p).2.1
  · rw [if_neg (show ¬ bB (!false) = 0 from b_t), show Q_shape P = P.2.1 from rfl, e3, Option.bind_some]
    dsimp only
    cases hO : nuOk T n (ptA T n p)
    · have hk : ptOk T n p = false := by unfold ptOk; rw [hO]; rfl
      have hP : ptP T n p = nuP T n (ptA T n p) := by unfold ptP; rw [hO]; rfl
      rw [if_pos b_f, hk, hP]
      exact ⟨_, rfl, fun z => by cases z⟩
    · have hP : ptP T n p = (ptB T n p).1 := by unfold ptP; rw [hO]; rfl
      rw [if_neg b_t, show Q_suffix P = P.2.2 from rfl, e4, Option.bind_some]
      dsimp only
      cases hB : (aP T n (nuP T n (ptA T n p))).2.1
      · have hk : ptOk T n p = true := by unfold ptOk ptB; rw [hO, hB]; rfl
        rw [if_neg (show ¬ bB (!false) = 0 from b_t), hk, hP]
        exact ⟨(a', nuS T n (ptA T n p), a''), rfl, fun _ => ⟨e2, rfl, e5⟩⟩
      · have hk : ptOk T n p = false := by unfold ptOk ptB; rw [hO, hB]; rfl
        rw [if_pos (show bB (!true) = 0 from b_f), hk, hP]
        exact ⟨_, rfl, fun z => by cases z⟩
  · have hO : nuOk T n (ptA T n p) = false := by
      cases hO : nuOk T n (ptA T n p)
      · rfl
      · rw [u6 hO] at hq; cases hq
    have hk : ptOk T n p = false := by unfold ptOk; rw [hO]; rfl
    have hn : (aP T n p).1 = n := (aP_p h.vis hN hp).2.2.1 hq
    have hP : ptP T n p = (aP T n p).1 := by unfold ptP; rw [hO]; show nuP T n (ptA T n p) = _; unfold ptA; rw [hn]; exact (nu_end T n).2
    rw [if_pos (show bB (!true) = 0 from b_f), hk, hP]
    exact ⟨_, rfl, fun z => by cases z⟩
theorem m_rdAff {M : T_Model} {T : Nat → Nat} {n p : Nat} (h : ModOf M T n) (hp : p ≤ n) {el0 es0 el es kp : Nat → Int32} {w o g : Int32} {L : Nat → List Nat} {j : Nat} (hj : j < 4) (hg : g = 1 → n ≤ 40) (hL : L j = []) (hK : KR g el0 es0 el es L) (x : Int32) (hx : x = nI j) :
    ∃ el' es', f_Model_affix (mP M el es kp (nI p) w o g) x = some (mP M el' es' kp (nI (aP T n p).1) w (bB (aP T n p).2.1) g) ∧ KR g el0 es0 el' es' (updF L j (aP T n p).2.2) := by
  have hN := h.2.1
  subst hx
  obtain ⟨el', es', e1, e2⟩ := m_aff h (kp := kp) (w := w) hj hg FU p false el es L (by rw [FU_val]; omega) hp (by rw [hL]; exact Nat.zero_le p) hK
  rw [hL] at e1 e2
  refine ⟨el', es', ?_, e2⟩
  rw [e_Model_affix, mP_size, mP_at, sP_open, h.1, e_Model_affix_21, e_Model_affix_21]
  by_cases hn : p < n
  · rw [decide_eq_true hn] at e1
    rw [if_neg (nI_ge hn (by omega))]
    exact e1
  · rw [decide_eq_false hn] at e1
    rw [if_pos (nI_le (by omega) (by omega))]
    exact e1
theorem m_part {M : T_Model} {T : Nat → Nat} {n p : Nat} (h : ModOf M T n) (hp : p ≤ n) {el0 es0 el es kp : Nat → Int32} {o : Int32} {L : Nat → List Nat} (kg : Bool) (j : Nat) (hj : j < 2) (hg : kg = true → n ≤ 40) (hL0 : L (2 * j) = []) (hL1 : L (2 * j + 1) = []) (hK : KR (bB kg) el0 es0 el es L) (x : Int32) (hx : x = nI j) :
    ∃ el' es', f_Model_part (mP M el es kp (nI p) (-1) o (bB kg)) x = some (mP M el' es' (if (kg && decide (j = 0)) = true then nuK3 T n (ptA T n p) kp else kp) (nI (ptP T n p)) (if nuOk T n (ptA T n p) = true then -1 else nI (ptP T n p)) (bB (if nuOk T n (ptA T n p) = true then (ptB T n p).2.1 else (aP T n p).2.1)) (bB kg)) ∧
      KR (bB kg) el0 es0 el' es' (if nuOk T n (ptA T n p) = true then updF (updF L (2 * j) (aP T n p).2.2) (2 * j + 1) (ptB T n p).2.2 else updF L (2 * j) (aP T n p).2.2) := by
  have hN := h.2.1
  subst hx
  obtain ⟨u1, u2, u3, u4, u5, u6, u7, u8⟩ := pt_p h.vis hN hp
  have hg' : bB kg = 1 → n ≤ 40 := fun z => hg (by cases kg; cases z; rfl)
  obtain ⟨el1, es1, e1, e2⟩ := m_rdAff h hp (kp := kp) (w := -1) (o := o) (by omega : 2 * j < 4) hg' hL0 hK ((2 : Int32) * nI j) (pk_mul 2 j)
  have e3 : f_Model_number (mP M el1 es1 kp (nI (aP T n p).1) (-1) (bB (aP T n p).2.1) (bB kg)) (bB (decide (j = 0))) = _ := m_num h u2 kg (decide (j = 0))
  rw [e_Model_part, e1, Option.bind_some]
  have key : ∃ el' es', f_Model_part_17 (mP M el1 es1 kp (nI (aP T n p).1) (-1) (bB (aP T n p).2.1) (bB kg)) (nI j) (bB (decide (j = 0))) = some (mP M el' es' (if (kg && decide (j = 0)) = true then nuK3 T n (ptA T n p) kp else kp) (nI (ptP T n p)) (if nuOk T n (ptA T n p) = true then -1 else nI (ptP T n p)) (bB (if nuOk T n (ptA T n p) = true then (ptB T n p).2.1 else (aP T n p).2.1)) (bB kg)) ∧
      KR (bB kg) el0 es0 el' es' (if nuOk T n (ptA T n p) = true then updF (updF L (2 * j) (aP T n p).2.2) (2 * j + 1) (ptB T n p).2.2 else updF L (2 * j) (aP T n p).2.2) := by
    rw [e_Model_part_17, e3, Option.bind_some, mP_wrong]
    show ∃ el' es', (if 0 ≤ (if nuOk T n (ptA T n p) = true then (-1 : Int32) else nI (nuP T n (ptA T n p))) then _ else _) = _ ∧ _
    cases hO : nuOk T n (ptA T n p)
    · have hP : ptP T n p = nuP T n (ptA T n p) := by unfold ptP; rw [hO]; rfl
      have e0 : (0 : Int32) ≤ nI (nuP T n (ptA T n p)) := nI_pos' (by omega)
      simp only [ib_f]
      rw [if_pos e0, hP]
      exact ⟨el1, es1, rfl, e2⟩
    · have hP : ptP T n p = (ptB T n p).1 := by unfold ptP; rw [hO]; rfl
      have hO' : nuOk T n (aP T n p).1 = true := hO
      obtain ⟨el2, es2, e4, e5⟩ := m_rdAff h u3 (kp := (if (kg && decide (j = 0)) = true then nuK3 T n (ptA T n p) kp else kp)) (w := -1) (o := bB (aP T n p).2.1) (by omega : 2 * j + 1 < 4) hg' (show updF L (2 * j) (aP T n p).2.2 (2 * j + 1) = [] from (if_neg (by omega)).trans hL1) e2 ((2 : Int32) * nI j + 1) (by rw [show (2 : Int32) * nI j = nI (2 * j) from pk_mul 2 j, nI_1])
      simp only [ite_true]
      rw [if_neg ge0_m1]
      show ∃ el' es', (f_Model_affix (mP M el1 es1 (if (kg && decide (j = 0)) = true then nuK3 T n (ptA T n p) kp else kp) (nI (nuP T n (ptA T n p))) (-1) (bB (aP T n p).2.1) (bB kg)) ((2 : Int32) * nI j + 1)).bind _ = _ ∧ _
      rw [e4, Option.bind_some, hP]
      exact ⟨el2, es2, rfl, e5⟩
  by_cases j0 : j = 0
  · rw [if_pos (show nI j = 0 by rw [j0]; rfl)]
    rw [show f_Model_part_17 (mP M el1 es1 kp (nI (aP T n p).1) (-1) (bB (aP T n p).2.1) (bB kg)) (nI j) (1 : Int32) = f_Model_part_17 (mP M el1 es1 kp (nI (aP T n p).1) (-1) (bB (aP T n p).2.1) (bB kg)) (nI j) (bB (decide (j = 0))) by rw [decide_eq_true j0]; rfl]
    exact key
  · rw [if_neg (nI_nel 0 0 rfl (by omega) (by decide) j0)]
    rw [show f_Model_part_17 (mP M el1 es1 kp (nI (aP T n p).1) (-1) (bB (aP T n p).2.1) (bB kg)) (nI j) (0 : Int32) = f_Model_part_17 (mP M el1 es1 kp (nI (aP T n p).1) (-1) (bB (aP T n p).2.1) (bB kg)) (nI j) (bB (decide (j = 0))) by rw [decide_eq_false j0]; rfl]
    exact key
