-- a whole text as a pattern
def rdS (T : Nat → Nat) (n : Nat) : Bool := ptOk T n 0 && decide (ptP T n 0 < n ∧ T (ptP T n 0) = 59)
def rdQ (T : Nat → Nat) (n : Nat) : Nat := ptP T n 0 + 1
def rdE (T : Nat → Nat) (n p : Nat) : Option Nat := if ptOk T n p = true then (if ptP T n p < n then some (ptP T n p) else none) else some (ptP T n p)
def rdF (T : Nat → Nat) (n : Nat) : Option Nat := if rdS T n = true then rdE T n (rdQ T n) else rdE T n 0
def fI (o : Option Nat) : Int32 := match o with
  | none => -1
  | some k => nI k
def rdL (T : Nat → Nat) (n : Nat) : Nat → List Nat := if rdS T n = true then updF (updF (updF (updF (fun _ => []) 0 (aP T n 0).2.2) 1 (ptB T n 0).2.2) 2 (aP T n (rdQ T n)).2.2) 3 (ptB T n (rdQ T n)).2.2 else updF (updF (fun _ => []) 0 (aP T n 0).2.2) 1 (ptB T n 0).2.2
theorem rdS_q {T : Nat → Nat} {n : Nat} (h : rdS T n = true) : ptOk T n 0 = true ∧ ptP T n 0 < n ∧ T (ptP T n 0) = 59 := by
  obtain ⟨h1, h2⟩ := Bool.and_eq_true_iff.mp h
  exact ⟨h1, of_decide_eq_true h2⟩
theorem c_read {v : T_Row} {T : Nat → Nat} {n : Nat} (h : RowOf v T n) (pr : T_PatternReader) (P : T_Pattern) : ∃ pl P', f_PatternReader_read pr v P = some (fI (rdF T n), pl, P') ∧
    (rdF T n = none → cAff P'.1.1 (aP T n 0).2.2 ∧ P'.1.2.1 = nuS T n (ptA T n 0) ∧ cAff P'.1.2.2 (ptB T n 0).2.2 ∧ P_hasSecond P' = bB (rdS T n) ∧ (rdS T n = true → cAff P'.2.1.1 (aP T n (rdQ T n)).2.2 ∧ cAff P'.2.1.2.2 (ptB T n (rdQ T n)).2.2)) := by
  have hN := h.2.1
  have hle := h.le
  obtain ⟨u1, u2, u3, u4, u5, u6, u7, u8⟩ := pt_p h.vis hN (Nat.zero_le n)
  obtain ⟨P0, e1, e2⟩ := c_part h (Nat.zero_le n) (P_first P)
  have e72 : ∀ (p : Nat) (X : T_Pattern), p ≤ n → f_PatternReader_read_72 v (nI p) X = some (fI (if p < n then some p else none), nI p, X) := by
    intro p X hp
    rw [e_PatternReader_read_72, show f_Row_size v = some (nI n) from congrArg some h.1, Option.bind_some]
    by_cases c : p < n
    · rw [if_neg (nI_ge c (by omega)), if_pos c]; rfl
    · rw [if_pos (nI_le (by omega) (by omega)), if_neg c]; rfl
  rw [e_PatternReader_read]
  rw [show f_PatternReader_readPart (0 : Int32) v (P_first P) = _ from e1, Option.bind_some]
  dsimp only
  cases h0 : ptOk T n 0
  · have hS : rdS T n = false := by unfold rdS; rw [h0]; rfl
    have hF : rdF T n = some (ptP T n 0) := by unfold rdF rdE; rw [hS, h0]; rfl
    rw [if_pos b_f, hF]
    exact ⟨_, _, rfl, fun z => by cases z⟩
  · rw [if_neg b_t, row_at h _ (by omega), Option.bind_some]
    obtain ⟨z1, z2, z3⟩ := e2 h0
    by_cases cs : ptP T n 0 < n ∧ T (ptP T n 0) = 59
    · have hS : rdS T n = true := by unfold rdS; rw [h0, decide_eq_true cs]; rfl
      obtain ⟨P1, e3, e4⟩ := c_part h (show rdQ T n ≤ n from cs.1) (P_second P)
      rw [if_pos ((chA_eq hle 59 59 rfl (by decide)).mpr cs), nI_1]
      rw [show f_PatternReader_readPart (nI (ptP T n 0 + 1)) v (P_second P) = _ from e3, Option.bind_some]
      dsimp only
      cases h1 : ptOk T n (rdQ T n)
      · have hF : rdF T n = some (ptP T n (rdQ T n)) := by unfold rdF rdE; rw [hS, h1]; rfl
        rw [if_pos b_f, hF]
        exact ⟨_, _, rfl, fun z => by cases z⟩
      · have hF : rdF T n = if ptP T n (rdQ T n) < n then some (ptP T n (rdQ T n)) else none := by unfold rdF rdE; rw [hS, h1]; rfl
        obtain ⟨y1, y2, y3⟩ := e4 h1
        rw [if_neg b_t, e72 _ _ (pt_p h.vis hN (show rdQ T n ≤ n from cs.1)).2.2.2.2.1, hF]
        exact ⟨_, _, rfl, fun _ => ⟨z1, z2, z3, by rw [hS]; rfl, fun _ => ⟨y1, y3⟩⟩⟩
    · have hS : rdS T n = false := by unfold rdS; rw [h0, decide_eq_false cs]; rfl
      have hF : rdF T n = if ptP T n 0 < n then some (ptP T n 0) else none := by unfold rdF rdE; rw [hS, h0]; rfl
      rw [if_neg (fun z => cs ((chA_eq hle 59 59 rfl (by decide)).mp z)), e72 _ _ u5, hF]
      exact ⟨_, _, rfl, fun _ => ⟨z1, z2, z3, by rw [hS]; rfl, fun z => by rw [hS] at z; cases z⟩⟩
theorem g_98 {M : T_Model} {el es kp : Nat → Int32} {a w o : Int32} (kg s : Bool) : f_Model_go_98 (mP M el es kp a w o (bB kg)) (bB s) = some (mP M el es (if kg = true then upd kp 6 (bB s) else kp) a w o (bB kg)) := by
  cases kg
  · rfl
  · cases s
    · rfl
    · rfl
theorem g_65 {M : T_Model} {T : Nat → Nat} {n p : Nat} (h : ModOf M T n) (hp : p ≤ n) {el es kp : Nat → Int32} (kg s ok op : Bool) :
    f_Model_go_65 (mP M el es kp (nI p) (if ok = true then -1 else nI p) (bB op) (bB kg)) (bB s) = some (mP M el es (if kg = true then upd kp 6 (bB s) else kp) (nI p) (fI (if ok = true ∧ ¬ p < n ∧ op = false then none else some p)) (bB op) (bB kg)) := by
  have hN := h.2.1
  rw [e_Model_go_65, mP_wrong, mP_at, mP_size, mP_open, h.1]
  cases ok
  · have e0 : (0 : Int32) ≤ nI p := nI_pos' (by omega)
    rw [ib_f, if_pos e0, g_98, if_neg (show ¬ (false = true ∧ ¬ p < n ∧ op = false) from fun z => by cases z.1)]
    rfl
  · rw [ib_t, if_neg ge0_m1]
    by_cases c : p < n
    · rw [if_pos (nI_lt c (by omega)), e_Model_go_90, mP_at, sP_wrong, g_98, if_neg (show ¬ (true = true ∧ ¬ p < n ∧ op = false) from fun z => z.2.1 c)]
      rfl
    · rw [if_neg (nI_nlt (by omega) (by omega))]
      cases op
      · rw [if_pos b_f, g_98, if_pos (show true = true ∧ ¬ p < n ∧ false = false from ⟨rfl, c, rfl⟩)]
        rfl
      · rw [if_neg b_t, e_Model_go_90, mP_at, sP_wrong, g_98, if_neg (show ¬ (true = true ∧ ¬ p < n ∧ true = false) from fun z => by cases z.2.2)]
        rfl
