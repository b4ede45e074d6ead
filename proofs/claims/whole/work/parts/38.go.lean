theorem mP_self (M : T_Model) : mP M (M_element M) (M_elements M) (M_kept M) (M_at M) (M_wrong M) (M_open M) (M_keeping M) = M := rfl
theorem mP_start (M : T_Model) (a w g : Int32) : sM_keeping (sM_wrong (sM_at M a) w) g = mP M (M_element M) (M_elements M) (M_kept M) a w (M_open M) g := by
  have h : sM_at M a = mP M (M_element M) (M_elements M) (M_kept M) a (M_wrong M) (M_open M) (M_keeping M) := (congrArg (fun z => sM_at z a) (mP_self M).symm).trans (sP_at M _ _ _ _ _ _ _ a)
  rw [h, sP_wrong, sP_keeping]
theorem kp_if (kg : Bool) (A B : Nat → Int32) (x : Int32) : (if kg = true then upd (if kg = true then A else B) 6 x else (if kg = true then A else B)) = (if kg = true then upd A 6 x else B) := by cases kg <;> rfl
theorem g0 (X : T_Model) (r : Option O_Model_go) (h : f_Model_go_65 X (bB false) = r) : f_Model_go_65 X (0 : Int32) = r := h
theorem g1 (X : T_Model) (r : Option O_Model_go) (h : f_Model_go_65 X (bB true) = r) : f_Model_go_65 X (1 : Int32) = r := h
set_option maxHeartbeats 4000000 in
theorem m_go {M : T_Model} {T : Nat → Nat} {n : Nat} (h : ModOf M T n) (kg : Bool) (hg : kg = true → n ≤ 40) (h0 : kg = true → mFam (M_element M) (M_elements M) (fun _ => [])) :
    ∃ el' es' a' o', f_Model_go M (bB kg) = some (mP M el' es' (if kg = true then upd (nuK3 T n (ptA T n 0) (M_kept M)) 6 (bB (rdS T n)) else M_kept M) a' (fI (rdF T n)) o' (bB kg)) ∧ (kg = false → el' = M_element M ∧ es' = M_elements M) ∧ (kg = true → rdF T n = none → mFam el' es' (rdL T n)) := by
  have hN := h.2.1
  obtain ⟨u1, u2, u3, u4, u5, u6, u7, u8⟩ := pt_p h.vis hN (Nat.zero_le n)
  have hK0 : KR (bB kg) (M_element M) (M_elements M) (M_element M) (M_elements M) (fun _ => []) := by
    cases kg
    · exact Or.inl ⟨rfl, rfl, rfl⟩
    · exact Or.inr ⟨rfl, h0 rfl⟩
  obtain ⟨el1, es1, e1, e2⟩ := m_part h (Nat.zero_le n) (kp := M_kept M) (o := M_open M) kg 0 (by omega) hg rfl rfl hK0 (0 : Int32) rfl
  have hkk : (kg && decide (0 = 0)) = kg := by cases kg <;> rfl
  rw [hkk] at e1
  rw [e_Model_go, if_pos (bB_01 kg), mP_start, show (0 : Int32) = nI 0 from rfl]
  rw [show f_Model_part (mP M (M_element M) (M_elements M) (M_kept M) (nI 0) (-1 : Int32) (M_open M) (bB kg)) (nI 0) = _ from e1, Option.bind_some, mP_wrong, mP_at]
  have kr : ∀ {el es : Nat → Int32} {L : Nat → List Nat}, KR (bB kg) (M_element M) (M_elements M) el es L → (kg = false → el = M_element M ∧ es = M_elements M) ∧ (kg = true → mFam el es L) := by
    intro el es L hk
    cases kg
    · rcases hk with ⟨-, a, b⟩ | ⟨a, -⟩
      · exact ⟨fun _ => ⟨a, b⟩, (fun z => by cases z)⟩
      · exact absurd a (by decide)
    · rcases hk with ⟨a, -⟩ | ⟨-, a⟩
      · exact absurd a b_t
      · exact ⟨(fun z => by cases z), fun _ => a⟩
  cases hO : nuOk T n (ptA T n 0)
  · have k0 : ptOk T n 0 = false := by unfold ptOk; rw [hO]; rfl
    have hS : rdS T n = false := by unfold rdS; rw [k0]; rfl
    have hF : rdF T n = some (ptP T n 0) := by unfold rdF rdE; rw [hS, k0]; rfl
    rw [hO] at e2
    have g := g_65 h u5 (el := el1) (es := es1) (kp := (if kg = true then nuK3 T n (ptA T n 0) (M_kept M) else M_kept M)) kg false false (aP T n 0).2.1
    rw [ib_f, if_neg (show ¬ (false = true ∧ ¬ ptP T n 0 < n ∧ (aP T n 0).2.1 = false) from fun z => by cases z.1)] at g
    rw [ib_f, ib_f, if_pos (show nI 0 ≤ nI (ptP T n 0) from nI_pos' (by omega)), e_Model_go_44, e_Model_go_45, if_pos rfl, g0 _ _ g, hF, hS]
    rw [kp_if]
    exact ⟨el1, es1, nI (ptP T n 0), bB (aP T n 0).2.1, rfl, (kr e2).1, fun _ z => by cases z⟩
  · rw [hO] at e2
    have e2' : KR (bB kg) (M_element M) (M_elements M) el1 es1 (updF (updF (fun _ => []) 0 (aP T n 0).2.2) 1 (ptB T n 0).2.2) := e2
    rw [ib_t, ib_t, if_neg (show ¬ nI 0 ≤ (-1 : Int32) from ge0_m1), m_is (mP_of h) _ (by omega) 59 59 rfl (by decide), Option.bind_some]
    by_cases cs : ptP T n 0 < n ∧ T (ptP T n 0) = 59
    · have hB : (ptB T n 0).2.1 = false := by
        cases hB : (ptB T n 0).2.1
        · rfl
        · have := u7 hB
          have hP : ptP T n 0 = (ptB T n 0).1 := by unfold ptP; rw [hO]; rfl
          omega
      have k0 : ptOk T n 0 = true := by unfold ptOk; rw [hO, hB]; rfl
      have hS : rdS T n = true := by unfold rdS; rw [k0, decide_eq_true cs]; rfl
      obtain ⟨w1, w2, w3, w4, w5, w6, w7, w8⟩ := pt_p h.vis hN (show rdQ T n ≤ n from cs.1)
      obtain ⟨el2, es2, e3, e4⟩ := m_part h (show rdQ T n ≤ n from cs.1) (kp := (if kg = true then nuK3 T n (ptA T n 0) (M_kept M) else M_kept M)) (o := bB (ptB T n 0).2.1) kg 1 (by omega) hg rfl rfl e2' (1 : Int32) rfl
      have hk1 : (kg && decide (1 = 0)) = false := by cases kg <;> rfl
      rw [hk1, ib_f] at e3
      rw [decide_eq_true cs, if_neg (show ¬ bB true = nI 0 from b_t), e_Model_go_45, if_neg one_ne, mP_at, sP_at, nI_1]
      rw [show f_Model_part (mP M el1 es1 (if kg = true then nuK3 T n (ptA T n 0) (M_kept M) else M_kept M) (nI (ptP T n 0 + 1)) (-1) (bB (ptB T n 0).2.1) (bB kg)) (1 : Int32) = _ from e3, Option.bind_some]
      have g := g_65 h w5 (el := el2) (es := es2) (kp := (if kg = true then nuK3 T n (ptA T n 0) (M_kept M) else M_kept M)) kg true (nuOk T n (ptA T n (rdQ T n))) (if nuOk T n (ptA T n (rdQ T n)) = true then (ptB T n (rdQ T n)).2.1 else (aP T n (rdQ T n)).2.1)
      rw [g1 _ _ g]
      have hF : fI (if nuOk T n (ptA T n (rdQ T n)) = true ∧ ¬ ptP T n (rdQ T n) < n ∧ (if nuOk T n (ptA T n (rdQ T n)) = true then (ptB T n (rdQ T n)).2.1 else (aP T n (rdQ T n)).2.1) = false then none else some (ptP T n (rdQ T n))) = fI (rdF T n) := by
        unfold rdF rdE
        rw [hS, ib_t]
        cases hO1 : nuOk T n (ptA T n (rdQ T n))
        · have k1 : ptOk T n (rdQ T n) = false := by unfold ptOk; rw [hO1]; rfl
          rw [k1, ib_f, if_neg (fun z => by cases z.1), ib_f]
        · rw [ib_t]
          cases hB1 : (ptB T n (rdQ T n)).2.1
          · have k1 : ptOk T n (rdQ T n) = true := by unfold ptOk; rw [hO1, hB1]; rfl
            rw [k1, ib_t]
            by_cases c : ptP T n (rdQ T n) < n
            · rw [if_pos c, if_neg (fun z => z.2.1 c)]
            · rw [if_neg c, if_pos ⟨rfl, c, rfl⟩]
          · have k1 : ptOk T n (rdQ T n) = false := by unfold ptOk; rw [hO1, hB1]; rfl
            rw [k1, ib_f, if_neg (fun z => by cases z.2.2)]
      rw [hF, hS, kp_if]
      refine ⟨el2, es2, nI (ptP T n (rdQ T n)), _, rfl, (kr e4).1, fun zk zn => ?_⟩
      · have hO1 : nuOk T n (ptA T n (rdQ T n)) = true := by
          unfold rdF rdE at zn
          rw [hS, ib_t] at zn
          cases hO1 : nuOk T n (ptA T n (rdQ T n))
          · have k1 : ptOk T n (rdQ T n) = false := by unfold ptOk; rw [hO1]; rfl
            rw [k1, ib_f] at zn; cases zn
          · rfl
        have := (kr e4).2 zk
        rw [hO1, ib_t] at this
        unfold rdL
        rw [hS, ib_t]
        exact this
    · have hS : rdS T n = false := by unfold rdS; rw [decide_eq_false cs]; cases ptOk T n 0 <;> rfl
      have g := g_65 h u5 (el := el1) (es := es1) (kp := (if kg = true then nuK3 T n (ptA T n 0) (M_kept M) else M_kept M)) kg false true (ptB T n 0).2.1
      rw [ib_t] at g
      rw [decide_eq_false cs, if_pos (show bB false = nI 0 from rfl), e_Model_go_44, e_Model_go_45, if_pos rfl, g0 _ _ g]
      have hF : fI (if true = true ∧ ¬ ptP T n 0 < n ∧ (ptB T n 0).2.1 = false then none else some (ptP T n 0)) = fI (rdF T n) := by
        unfold rdF rdE
        rw [hS, ib_f]
        cases hB : (ptB T n 0).2.1
        · have k0 : ptOk T n 0 = true := by unfold ptOk; rw [hO, hB]; rfl
          rw [k0, ib_t]
          by_cases c : ptP T n 0 < n
          · rw [if_pos c, if_neg (fun z => z.2.1 c)]
          · rw [if_neg c, if_pos ⟨rfl, c, rfl⟩]
        · have k0 : ptOk T n 0 = false := by unfold ptOk; rw [hO, hB]; rfl
          rw [k0, ib_f, if_neg (fun z => by cases z.2.2)]
      rw [hF, hS, kp_if]
      refine ⟨el1, es1, nI (ptP T n 0), _, rfl, (kr e2').1, fun zk _ => ?_⟩
      · unfold rdL
        rw [hS, ib_f]
        exact (kr e2').2 zk
