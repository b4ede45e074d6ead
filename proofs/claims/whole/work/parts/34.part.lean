theorem ge0_m1 : ¬ (0 : Int32) ≤ -1 := by decide
theorem m_num {M : T_Model} {T : Nat → Nat} {n p : Nat} (h : ModOf M T n) (hp : p ≤ n) {el es kp : Nat → Int32} {o : Int32} (kg fst : Bool) :
    f_Model_number (mP M el es kp (nI p) (-1) o (bB kg)) (bB fst) = some (mP M el es (if (kg && fst) = true then nuK3 T n p kp else kp) (nI (nuP T n p)) (if nuOk T n p = true then -1 else nI (nuP T n p)) o (bB kg)) := by
  have hN := h.2.1
  obtain ⟨a1, a2, a3, a4, a5, a6, a7⟩ := nu_p (T := T) hp
  obtain ⟨b1, b2, b3, b4⟩ := nuF_p (T := T) hp
  rw [e_Model_number, m_whole h hp kg fst, Option.bind_some]
  dsimp only
  rw [mP_wrong, mP_at, sP_at]
  cases hI : (nuI T n p).1
  · have hO : nuOk T n p = false := by unfold nuOk; rw [hI]; rfl
    have hP : nuP T n p = nuQ T n p := by unfold nuP; rw [hI]; rfl
    have hK : nuK3 T n p kp = nuK T n p kp := by unfold nuK3; rw [hI]; rfl
    have e1 : (if false = true then (-1 : Int32) else nI (nuQ T n p)) = nI (nuQ T n p) := if_neg (by decide)
    have e2 : (0 : Int32) ≤ nI (nuQ T n p) := nI_pos' (by omega)
    rw [hO, hP, hK, e1, if_pos e2, e_Model_number_41, mP_wrong, if_pos e2, e_Model_number_80]
  · have hP : nuP T n p = (nuE T n p).1 := by unfold nuP; rw [hI]; rfl
    have a5' := a5 hI
    rw [if_pos rfl, if_neg ge0_m1, m_is (mP_of h) _ (by omega) 46 46 rfl (by decide), Option.bind_some, hP]
    have e41 : f_Model_number_41 (mP M el es (if (kg && fst) = true then nuK2 T n p kp else kp) (nI (nuF T n p).1) (-1) o (bB kg)) (bB fst) (nI (if nuGr T n p = true ∨ 0 < nuH T n p then 0 else nuZ T n p)) = some (mP M el es (if (kg && fst) = true then nuK3 T n p kp else kp) (nI (nuE T n p).1) (if nuOk T n p = true then -1 else nI (nuE T n p).1) o (bB kg)) := by
      rw [e_Model_number_41, mP_wrong, if_neg ge0_m1, mP_at, m_is (mP_of h) _ (by omega) 69 69 rfl (by decide), Option.bind_some, sP_at]
      have noX : nuX T n p = false → some (mP M el es (if (kg && fst) = true then nuK2 T n p kp else kp) (nI (nuF T n p).1) (-1) o (bB kg)) = some (mP M el es (if (kg && fst) = true then nuK3 T n p kp else kp) (nI (nuE T n p).1) (if nuOk T n p = true then -1 else nI (nuE T n p).1) o (bB kg)) := by
        intro hX
        have hE : nuE T n p = ((nuF T n p).1, 0) := by unfold nuE; rw [hX]; rfl
        have hO : nuOk T n p = true := by unfold nuOk; rw [hI, hX]; rfl
        have hK : nuK3 T n p kp = nuK2 T n p kp := by unfold nuK3; rw [hI, hX]; rfl
        rw [hE, hO, hK]; rfl
      by_cases c : (nuF T n p).1 < n ∧ T (nuF T n p).1 = 69
      · rw [decide_eq_true c, if_neg b_t]
        by_cases d : nuGr T n p = true ∨ 0 < nuH T n p
        · rw [if_pos d, if_pos (show nI 0 ≤ 0 by decide)]
          exact noX (decide_eq_false (fun z => by rcases d with d | d; rw [d] at z; cases z.2.2; omega))
        · have hX : nuX T n p = true := decide_eq_true ⟨c, by omega, by cases hg : nuGr T n p; rfl; exact absurd (Or.inl hg) d⟩
          have hE : nuE T n p = sEx T n FU ((nuF T n p).1 + 1) 0 := by unfold nuE; rw [if_pos hX]
          rw [if_neg d, if_neg (nI_nle (by omega) (by omega)), e_Model_exponent, nI_1]
          rw [show f_Model_exponent_2 FU (mP M el es (if (kg && fst) = true then nuK2 T n p kp else kp) (nI ((nuF T n p).1 + 1)) (-1) o (bB kg)) (bB fst) 0 = _ from m_ex h FU ((nuF T n p).1 + 1) 0 (by rw [FU_val]; omega) (by omega) (by omega), ← hE]
          have e49 : ∀ w', f_Model_exponent_49 (mP M el es (if (kg && fst) = true then nuK2 T n p kp else kp) (nI (nuE T n p).1) w' o (bB kg)) (bB fst) (nI (nuE T n p).2) = some (mP M el es (if (kg && fst) = true then nuK3 T n p kp else kp) (nI (nuE T n p).1) w' o (bB kg)) := by
            intro w'
            have hK : nuK3 T n p kp = upd (nuK2 T n p kp) 4 (nI (nuE T n p).2) := by unfold nuK3; rw [hI, hX]; rfl
            rw [e_Model_exponent_49, mP_keeping, hK]
            cases kg
            · rw [if_pos b_f]; rfl
            · rw [if_neg b_t]
              cases fst
              · rw [if_pos b_f]; rfl
              · rw [if_neg b_t]; rfl
          rw [e_Model_exponent_37, mP_at, sP_wrong]
          by_cases e0 : (nuE T n p).2 = 0
          · have hO : nuOk T n p = false := by unfold nuOk; rw [hI, hX, e0]; rfl
            rw [if_pos (show nI (nuE T n p).2 = 0 by rw [e0]; rfl), e49, Option.bind_some, hO]; rfl
          · have hO : nuOk T n p = true := by unfold nuOk; rw [hI, hX, decide_eq_true (by omega : 0 < (nuE T n p).2)]; rfl
            have := (nuE_p (T := T) hp).2.2.1
            rw [if_neg (nI_nel 0 0 rfl (by omega) (by decide) e0), e49, Option.bind_some, hO]; rfl
      · rw [decide_eq_false c, if_pos b_f]
        exact noX (decide_eq_false (fun z => c z.1))
    by_cases cd : nuQ T n p < n ∧ T (nuQ T n p) = 46
    · have hF : nuF T n p = sFr T n FU (nuQ T n p + 1) 0 0 := if_pos cd
      have hK : nuK2 T n p kp = upd (upd (nuK T n p kp) 1 (nI (nuF T n p).2.1)) 2 (nI (nuF T n p).2.2) := if_pos cd
      rw [decide_eq_true cd, if_neg b_t, e_Model_fraction, nI_1]
      rw [show f_Model_fraction_4 FU (mP M el es (if (kg && fst) = true then nuK T n p kp else kp) (nI (nuQ T n p + 1)) (-1) o (bB kg)) (bB fst) 0 0 = _ from m_fr h FU (nuQ T n p + 1) 0 0 (by rw [FU_val]; omega) (by omega) (by omega) (by omega), ← hF]
      have e105 : f_Model_fraction_105 (mP M el es (if (kg && fst) = true then nuK T n p kp else kp) (nI (nuF T n p).1) (-1) o (bB kg)) (bB fst) (nI (nuF T n p).2.1) (nI ((nuF T n p).2.2 - (nuF T n p).2.1)) = some (mP M el es (if (kg && fst) = true then nuK2 T n p kp else kp) (nI (nuF T n p).1) (-1) o (bB kg)) := by
        rw [e_Model_fraction_105, mP_keeping, nI_add, show (nuF T n p).2.1 + ((nuF T n p).2.2 - (nuF T n p).2.1) = (nuF T n p).2.2 by omega, hK]
        cases kg
        · rw [if_pos b_f]; rfl
        · rw [if_neg b_t]
          cases fst
          · rw [if_pos b_f]; rfl
          · rw [if_neg b_t]; rfl
      rw [e105, Option.bind_some]
      exact e41
    · have hF : nuF T n p = (nuQ T n p, 0, 0) := if_neg cd
      have hK : nuK2 T n p kp = nuK T n p kp := if_neg cd
      rw [decide_eq_false cd, if_pos b_f]
      rw [hF, hK] at e41
      exact e41
