-- apply
def clrE (es : Nat → Int32) : Nat → Int32 := upd (upd (upd (upd es 0 0) 1 0) 2 0) 3 0
def clrK (kp : Nat → Int32) : Nat → Int32 := upd (upd (upd (upd (upd (upd (upd kp 0 0) 1 0) 2 0) 3 0) 4 0) 5 0) 6 0
theorem clrE_0 (es : Nat → Int32) {j : Nat} (h : j < 4) : clrE es j = 0 := by
  rcases (show j = 0 ∨ j = 1 ∨ j = 2 ∨ j = 3 by omega) with rfl | rfl | rfl | rfl <;> rfl
theorem clrK_0 (kp : Nat → Int32) {j : Nat} (h : j < 7) : clrK kp j = 0 := by
  rcases (show j = 0 ∨ j = 1 ∨ j = 2 ∨ j = 3 ∨ j = 4 ∨ j = 5 ∨ j = 6 by omega) with rfl | rfl | rfl | rfl | rfl | rfl | rfl <;> rfl
theorem sK_two (M : T_Model) (f g : Nat → Int32) : sM_kept (sM_kept M f) g = sM_kept M g := rfl
theorem mK_of (M : T_Model) (f : Nat → Int32) : M_kept (sM_kept M f) = f := rfl
theorem sE_two (M : T_Model) (f g : Nat → Int32) : sM_elements (sM_elements M f) g = sM_elements M g := rfl
theorem mE_of (M : T_Model) (f : Nat → Int32) : M_elements (sM_elements M f) = f := rfl
theorem st31 (m : Nat) (M : T_Model) (f : Nat → Int32) (k : Nat) (hk : k < 4) (x : Int32) (hx : x = nI k) : f_Model_apply_31 (m + 1) (sM_elements M f) x = f_Model_apply_31 m (sM_elements M (upd f k 0)) (nI (k + 1)) := by
  subst hx
  rw [e_Model_apply_31, if_neg (li_nle 4 4 rfl hk (by decide)), if_pos (ixN hk (by decide)), mE_of, sE_two, nI_clamp (by omega), nI_1]
theorem clr31 (m : Nat) (M : T_Model) : f_Model_apply_31 (m + 5) M 0 = f_Model_apply_51 FU (sM_elements M (clrE (M_elements M))) 0 := by
  rw [show f_Model_apply_31 (m + 5) M 0 = f_Model_apply_31 (m + 5) (sM_elements M (M_elements M)) (nI 0) from rfl, st31 _ _ _ 0 (by omega) _ rfl, st31 _ _ _ 1 (by omega) _ rfl, st31 _ _ _ 2 (by omega) _ rfl, st31 _ _ _ 3 (by omega) _ rfl, e_Model_apply_31, if_pos (li_le 4 4 rfl (by omega) (by decide))]
  rfl
def aft (M : T_Model) : Option O_Model_apply := (f_Model_go M (1 : Int32)).bind (fun o72 => (f_Model_hasPercent (sM_there o72 (1 : Int32)) (0 : Int32)).bind (fun o87 => (if o87 = 0 then (f_Model_hasPercent (sM_there o72 (1 : Int32)) (1 : Int32)).bind (fun o95 => (if o95 = 0 then f_Model_apply_107 (sM_there o72 (1 : Int32)) (5 : Int32) (1 : Int32) else f_Model_apply_101 (sM_there o72 (1 : Int32)) (5 : Int32))) else f_Model_apply_101 (sM_there o72 (1 : Int32)) (5 : Int32))))
theorem st51 (m : Nat) (M : T_Model) (f : Nat → Int32) (k : Nat) (hk : k < 7) (x : Int32) (hx : x = nI k) : f_Model_apply_51 (m + 1) (sM_kept M f) x = f_Model_apply_51 m (sM_kept M (upd f k 0)) (nI (k + 1)) := by
  subst hx
  rw [e_Model_apply_51, if_neg (li_nle 7 7 rfl hk (by decide)), if_pos (ixN hk (by decide)), mK_of, sK_two, nI_clamp (by omega), nI_1]
theorem clr51 (m : Nat) (M : T_Model) : f_Model_apply_51 (m + 8) M 0 = aft (sM_kept M (clrK (M_kept M))) := by
  rw [show f_Model_apply_51 (m + 8) M 0 = f_Model_apply_51 (m + 8) (sM_kept M (M_kept M)) (nI 0) from rfl, st51 _ _ _ 0 (by omega) _ rfl, st51 _ _ _ 1 (by omega) _ rfl, st51 _ _ _ 2 (by omega) _ rfl, st51 _ _ _ 3 (by omega) _ rfl, st51 _ _ _ 4 (by omega) _ rfl, st51 _ _ _ 5 (by omega) _ rfl, st51 _ _ _ 6 (by omega) _ rfl, e_Model_apply_51, if_pos (li_le 7 7 rfl (by omega) (by decide))]
  rfl
theorem nuS_kept {T : Nat → Nat} {n p : Nat} (hp : p ≤ n) (hO : nuOk T n p = true) (kp : Nat → Int32) (x5 x6 : Int32) : iShape (nuS T n p) (upd (upd (nuK3 T n p (clrK kp)) 6 x6) 5 x5) (nuZ T n p) (nuF T n p).2.1 (nuF T n p).2.2 (nuG T n p) (nuE T n p).2 := by
  obtain ⟨a1, a2, a3, a4, a5, a6, a7⟩ := nu_p (T := T) hp
  obtain ⟨b1, b2, b3, b4⟩ := nuF_p (T := T) hp
  obtain ⟨c1, c2, c3, c4⟩ := nuE_p (T := T) hp
  have hI : (nuI T n p).1 = true := (Bool.and_eq_true_iff.mp hO).1
  have hS : nuS T n p = shp (nuH T n p) (nuZ T n p) (nuF T n p).2.1 (nuF T n p).2.2 (nuGr T n p) (nuG T n p) (nuE T n p).2 := by unfold nuS; rw [hI]; rfl
  have kd : ∀ j, j < 3 → 1 ≤ j → nuK2 T n p (clrK kp) j = if j = 1 then nI (nuF T n p).2.1 else nI (nuF T n p).2.2 := by
    intro j h1 h2
    unfold nuK2
    by_cases cd : nuQ T n p < n ∧ T (nuQ T n p) = 46
    · rw [if_pos cd]
      rcases (show j = 1 ∨ j = 2 by omega) with rfl | rfl <;> rfl
    · have hF : nuF T n p = (nuQ T n p, 0, 0) := if_neg cd
      rw [if_neg cd, hF]
      rcases (show j = 1 ∨ j = 2 by omega) with rfl | rfl <;> rfl
  have k2 : ∀ j, (j = 0 ∨ j = 3 ∨ j = 4) → nuK2 T n p (clrK kp) j = nuK T n p (clrK kp) j := by
    intro j hj
    unfold nuK2
    split
    · rcases hj with rfl | rfl | rfl <;> rfl
    · rfl
  have k3 : ∀ j, j < 4 → nuK3 T n p (clrK kp) j = nuK2 T n p (clrK kp) j := by
    intro j hj
    unfold nuK3
    rw [hI, ib_t]
    split
    · exact pk_un (by omega)
    · rfl
  have k4 : nuK3 T n p (clrK kp) 4 = nI (nuE T n p).2 := by
    unfold nuK3
    rw [hI, ib_t]
    cases hX : nuX T n p
    · have hE : nuE T n p = ((nuF T n p).1, 0) := by unfold nuE; rw [hX]; rfl
      rw [ib_f, k2 4 (Or.inr (Or.inr rfl)), hE]; rfl
    · rw [ib_t, pk_us]
  have u : ∀ j, j < 5 → upd (upd (nuK3 T n p (clrK kp)) 6 x6) 5 x5 j = nuK3 T n p (clrK kp) j := fun j hj => by rw [pk_un (by omega), pk_un (by omega)]
  rw [hS]
  refine ⟨⟨rfl, ?_⟩, ⟨rfl, ?_⟩, ⟨rfl, ?_⟩, ⟨rfl, ?_⟩, ⟨rfl, ?_⟩, by omega, b3, b4, a6, c3, fun he => ?_⟩
  · rw [u 0 (by omega), k3 0 (by omega), k2 0 (Or.inl rfl)]; rfl
  · rw [u 1 (by omega), k3 1 (by omega), kd 1 (by omega) (by omega)]; rfl
  · rw [u 2 (by omega), k3 2 (by omega), kd 2 (by omega) (by omega)]; rfl
  · rw [u 3 (by omega), k3 3 (by omega), k2 3 (Or.inr (Or.inl rfl))]; rfl
  · rw [u 4 (by omega), k4]
  · have hX := of_decide_eq_true (c4 he)
    have := a5 hI
    exact ⟨by omega, a7 hX.2.2⟩
theorem fI_none : fI none = -1 := rfl
theorem fI_some {k : Nat} (h : k < 2 ^ 30) : ¬ fI (some k) = -1 ∧ ¬ fI (some k) < 0 := by
  have h1 : ¬ nI k < 0 := nI_pos (by omega)
  refine ⟨fun z => ?_, h1⟩
  have z' : nI k = -1 := z
  rw [z'] at h1
  exact h1 (by decide)
theorem inv_text {X : T_Deci} {M : T_Model} {n : Nat} (h : iTxt (D_typed X) (M_text M) (M_size M) n) : ∃ T, RowOf (D_typed X) T n ∧ ModOf M T n := by
  obtain ⟨h1, h2, h3, h4⟩ := h
  have key : ∀ i, i < n → M_text M i = nI (M_text M i).toNatClampNeg ∧ 32 ≤ (M_text M i).toNatClampNeg ∧ (M_text M i).toNatClampNeg ≤ 126 := by
    intro i hi
    obtain ⟨c, c1, c2, c3⟩ := (h4 i hi).2
    rw [c3, nI_clamp (by omega)]
    exact ⟨rfl, c1, c2⟩
  exact ⟨fun i => (M_text M i).toNatClampNeg, ⟨h1, h3, fun i hi => by rw [(h4 i hi).1]; exact key i hi⟩, ⟨h2, h3, key⟩⟩
set_option maxHeartbeats 4000000 in
theorem op_apply : Op_apply Inv := by
  intro X M hI
  obtain ⟨⟨n, ht⟩, hw, hm, hr, hf, hp⟩ := hI
  obtain ⟨T, hR, hM⟩ := inv_text ht
  have hN := hR.2.1
  obtain ⟨pl, P', r1, r2⟩ := c_read hR (D_patternReader X) (D_spare X)
  obtain ⟨el1, es1, a1, o1, g1, g2, -⟩ := m_go hM false (by intro z; cases z) (by intro z; cases z)
  obtain ⟨g2a, g2b⟩ := g2 rfl
  subst g2a g2b
  rw [ib_f] at g1
  have g1' : f_Model_go M 0 = some (mP M (M_element M) (M_elements M) (M_kept M) a1 (fI (rdF T n)) o1 (bB false)) := g1
  obtain ⟨u1, u2, u3, u4, u5, u6, u7, u8⟩ := pt_p hR.vis hN (Nat.zero_le n)
  cases hF : rdF T n with
  | some k =>
    have hk : k ≤ n := by
      unfold rdF rdE at hF
      by_cases hS : rdS T n = true
      · have w := pt_p hR.vis hN (show rdQ T n ≤ n from (rdS_q hS).2.1)
        rw [if_pos hS] at hF
        split at hF
        · split at hF
          · cases hF; omega
          · cases hF
        · cases hF; exact w.2.2.2.2.1
      · rw [if_neg hS] at hF
        split at hF
        · split at hF
          · cases hF; omega
          · cases hF
        · cases hF; exact u5
    obtain ⟨f1, f2⟩ := fI_some (k := k) (by omega)
    rw [hF] at r1 g1'
    refine ⟨fI (some k), sD_spare (sD_patternReader X pl) P', mP M (M_element M) (M_elements M) (M_kept M) a1 (fI (some k)) o1 (bB false), ?_, ?_, ⟨n, ht⟩, hw, hm, hr, hf, hp⟩
    · rw [e_Deci_apply, r1, Option.bind_some]
      dsimp only
      rw [if_neg f1]
    · rw [e_Model_apply, g1', Option.bind_some, mP_wrong, if_neg f2]
  | none =>
    rw [hF] at r1 g1'
    obtain ⟨z1, z2, z3, z4, z5⟩ := r2 hF
    have zs : f_Row_size (D_typed X) = some (nI n) := congrArg some hR.1
    by_cases h40 : n ≤ 40
    · -- the pattern is taken
      have hfam : mFam (M_element (sM_kept (sM_elements (mP M (M_element M) (M_elements M) (M_kept M) a1 (fI none) o1 (bB false)) (clrE (M_elements M))) (clrK (M_kept M)))) (M_elements (sM_kept (sM_elements (mP M (M_element M) (M_elements M) (M_kept M) a1 (fI none) o1 (bB false)) (clrE (M_elements M))) (clrK (M_kept M)))) (fun _ => []) := by
        intro j hj
        refine ⟨?_, by show 0 ≤ 40; omega, fun i hi => absurd hi (Nat.not_lt_zero i)⟩
        exact clrE_0 (M_elements M) hj
      have hM2 : ModOf (sM_kept (sM_elements (mP M (M_element M) (M_elements M) (M_kept M) a1 (fI none) o1 (bB false)) (clrE (M_elements M))) (clrK (M_kept M))) T n := hM
      obtain ⟨el2, es2, a2, o2, q1, -, q3⟩ := m_go hM2 true (fun _ => h40) (fun _ => hfam)
      have q3' := q3 rfl hF
      rw [ib_t, hF] at q1
      have v0 := aP_p hR.vis hN (Nat.zero_le n)
      have v1 := aP_p hR.vis hN u3
      have hS0 : ptOk T n 0 = true := by
        unfold rdF rdE at hF
        by_cases hS : rdS T n = true
        · exact (rdS_q hS).1
        · rw [if_neg hS] at hF
          split at hF
          · assumption
          · cases hF
      have hO0 : nuOk T n (ptA T n 0) = true := (Bool.and_eq_true_iff.mp hS0).1
      have u8' := u8 hS0
      have lens : (rdS T n = true → (aP T n 0).2.2.length + (ptB T n 0).2.2.length + ((aP T n (rdQ T n)).2.2.length + (ptB T n (rdQ T n)).2.2.length) ≤ 38 ∧ okL (aP T n (rdQ T n)).2.2 ∧ okL (ptB T n (rdQ T n)).2.2) ∧ (aP T n 0).2.2.length + (ptB T n 0).2.2.length ≤ 39 := by
        refine ⟨fun hS => ?_, by omega⟩
        have hq := rdS_q hS
        have w := pt_p hR.vis hN (show rdQ T n ≤ n from hq.2.1)
        have hS1 : ptOk T n (rdQ T n) = true := by
          unfold rdF rdE at hF
          rw [if_pos hS] at hF
          split at hF
          · assumption
          · cases hF
        have w8 := w.2.2.2.2.2.2.2 hS1
        have w5 := w.2.2.2.2.1
        have hQ : rdQ T n = ptP T n 0 + 1 := rfl
        exact ⟨by omega, (aP_p hR.vis hN (show rdQ T n ≤ n from hq.2.1)).2.2.2.2, (aP_p hR.vis hN w.2.2.1).2.2.2.2⟩
      obtain ⟨PP, c1, c2, c3, c4, c5, c6⟩ := c_complete z1 z3 v0.2.2.2.2 v1.2.2.2.2 z4 (by have := lens.2; omega)
      have L0 : mAff el2 es2 0 (aP T n 0).2.2 := by
        have := q3' 0 (by omega)
        unfold rdL at this
        split at this <;> exact this
      have L1 : mAff el2 es2 1 (ptB T n 0).2.2 := by
        have := q3' 1 (by omega)
        unfold rdL at this
        split at this <;> exact this
      have shp5 := nuS_kept u2 hO0 (M_kept M) (if (decide (256 ∈ (aP T n 0).2.2) || decide (256 ∈ (ptB T n 0).2.2)) = true then 100 else 1) (bB (rdS T n))
      have pm : f_Model_apply M = some (-1, sM_kept (sM_there (mP (sM_kept (sM_elements (mP M (M_element M) (M_elements M) (M_kept M) a1 (fI none) o1 (bB false)) (clrE (M_elements M))) (clrK (M_kept M))) el2 es2 (upd (nuK3 T n (ptA T n 0) (clrK (M_kept M))) 6 (bB (rdS T n))) a2 (fI none) o2 (bB true)) 1) (upd (upd (nuK3 T n (ptA T n 0) (clrK (M_kept M))) 6 (bB (rdS T n))) 5 (if (decide (256 ∈ (aP T n 0).2.2) || decide (256 ∈ (ptB T n 0).2.2)) = true then 100 else 1))) := by
        have sz : M_size (mP M (M_element M) (M_elements M) (M_kept M) a1 (fI none) o1 (bB false)) = nI n := hM.1
        rw [e_Model_apply, g1', Option.bind_some, mP_wrong, if_pos (show fI none < 0 by decide), sz, if_pos (li_ge 40 40 rfl h40 (by decide)), show FU = 995 + 5 from rfl, clr31, show FU = 992 + 8 from rfl, clr51]
        unfold aft
        rw [show f_Model_go (sM_kept (sM_elements (mP M (M_element M) (M_elements M) (M_kept M) a1 (fI none) o1 (bB false)) (clrE (M_elements (mP M (M_element M) (M_elements M) (M_kept M) a1 (fI none) o1 (bB false))))) (clrK (M_kept (sM_elements (mP M (M_element M) (M_elements M) (M_kept M) a1 (fI none) o1 (bB false)) (clrE (M_elements (mP M (M_element M) (M_elements M) (M_kept M) a1 (fI none) o1 (bB false)))))))) (1 : Int32) = _ from q1, Option.bind_some]
        rw [m_hasPct (j := 0) (by omega) L0 v0.2.2.2.2 (0 : Int32) rfl, Option.bind_some]
        cases d0 : decide (256 ∈ (aP T n 0).2.2)
        · rw [if_pos b_f, m_hasPct (l := (ptB T n 0).2.2) (j := 1) (by omega) L1 v1.2.2.2.2 (1 : Int32) rfl, Option.bind_some]
          cases d1 : decide (256 ∈ (ptB T n 0).2.2)
          · rw [if_pos b_f]; rfl
          · rw [if_neg b_t]; rfl
        · rw [if_neg b_t]; rfl
      refine ⟨-1, ((D_typed X), (D_written X), pl, (D_patternWriter X), (D_numberWriter X), (D_numberReader X), PP, (D_pattern X), (1 : Int32), (D_roundingMode X), (D_readValue X), (D_readScale X)), _, ?_, pm, ⟨n, ht⟩, hw, hm, hr, hf, Or.inr ⟨rfl, rfl, ?_⟩⟩
      · rw [e_Deci_apply, r1, Option.bind_some]
        dsimp only
        rw [if_pos fI_none, zs, Option.bind_some, if_pos (li_ge 40 40 rfl h40 (by decide)), c1, Option.bind_some]
      · show iPat PP el2 es2 (upd (upd (nuK3 T n (ptA T n 0) (clrK (M_kept M))) 6 (bB (rdS T n))) 5 (if (decide (256 ∈ (aP T n 0).2.2) || decide (256 ∈ (ptB T n 0).2.2)) = true then 100 else 1))
        have hpc : (P_hasPercent PP = 1 ∧ upd (upd (nuK3 T n (ptA T n 0) (clrK (M_kept M))) 6 (bB (rdS T n))) 5 (if (decide (256 ∈ (aP T n 0).2.2) || decide (256 ∈ (ptB T n 0).2.2)) = true then 100 else 1) 5 = 100) ∨ (P_hasPercent PP = 0 ∧ upd (upd (nuK3 T n (ptA T n 0) (clrK (M_kept M))) 6 (bB (rdS T n))) 5 (if (decide (256 ∈ (aP T n 0).2.2) || decide (256 ∈ (ptB T n 0).2.2)) = true then 100 else 1) 5 = 1) := by
          rw [pk_us, c4]
          cases (decide (256 ∈ (aP T n 0).2.2) || decide (256 ∈ (ptB T n 0).2.2))
          · exact Or.inr ⟨rfl, rfl⟩
          · exact Or.inl ⟨rfl, rfl⟩
        have k6 : upd (upd (nuK3 T n (ptA T n 0) (clrK (M_kept M))) 6 (bB (rdS T n))) 5 (if (decide (256 ∈ (aP T n 0).2.2) || decide (256 ∈ (ptB T n 0).2.2)) = true then 100 else 1) 6 = bB (rdS T n) := by rw [pk_un (by omega), pk_us]
        have shp6 : iShape PP.1.2.1 (upd (upd (nuK3 T n (ptA T n 0) (clrK (M_kept M))) 6 (bB (rdS T n))) 5 (if (decide (256 ∈ (aP T n 0).2.2) || decide (256 ∈ (ptB T n 0).2.2)) = true then 100 else 1)) (nuZ T n (ptA T n 0)) (nuF T n (ptA T n 0)).2.1 (nuF T n (ptA T n 0)).2.2 (nuG T n (ptA T n 0)) (nuE T n (ptA T n 0)).2 := by
          rw [c2, z2]; exact shp5
        cases hS : rdS T n
        · obtain ⟨y1, y2⟩ := c6 hS
          refine ⟨(aP T n 0).2.2, (ptB T n 0).2.2, 45 :: (aP T n 0).2.2, (ptB T n 0).2.2, _, _, _, _, _, by rw [c2]; exact z1, by rw [c2]; exact z3, y1, y2, L0, L1, v0.2.2.2.2, v1.2.2.2.2, ?_, v1.2.2.2.2, Or.inr ⟨by rw [c3, hS]; rfl, by rw [hS] at k6; exact k6, rfl, rfl, lens.2⟩, by rw [hS] at hpc; exact hpc, by rw [hS] at shp6; exact shp6⟩
          intro e he
          rcases List.mem_cons.mp he with rfl | he
          · exact Or.inr (by omega)
          · exact v0.2.2.2.2 e he
        · obtain ⟨y1, y2⟩ := z5 hS
          obtain ⟨l1, l2, l3⟩ := lens.1 hS
          have L2 : mAff el2 es2 2 (aP T n (rdQ T n)).2.2 := by
            have := q3' 2 (by omega)
            unfold rdL at this
            rw [if_pos hS] at this
            exact this
          have L3 : mAff el2 es2 3 (ptB T n (rdQ T n)).2.2 := by
            have := q3' 3 (by omega)
            unfold rdL at this
            rw [if_pos hS] at this
            exact this
          exact ⟨(aP T n 0).2.2, (ptB T n 0).2.2, (aP T n (rdQ T n)).2.2, (ptB T n (rdQ T n)).2.2, _, _, _, _, _, by rw [c2]; exact z1, by rw [c2]; exact z3, by rw [c5 hS]; exact y1, by rw [c5 hS]; exact y2, L0, L1, v0.2.2.2.2, v1.2.2.2.2, l2, l3, Or.inl ⟨by rw [c3, hS]; rfl, by rw [hS] at k6; exact k6, L2, L3, l1⟩, by rw [hS] at hpc; exact hpc, by rw [hS] at shp6; exact shp6⟩
    · refine ⟨40, sD_spare (sD_patternReader X pl) P', mP M (M_element M) (M_elements M) (M_kept M) a1 (fI none) o1 (bB false), ?_, ?_, ⟨n, ht⟩, hw, hm, hr, hf, hp⟩
      · rw [e_Deci_apply, r1, Option.bind_some]
        dsimp only
        rw [if_pos fI_none, zs, Option.bind_some, if_neg (li_nge 40 40 rfl (by omega) (by omega))]
      · have sz : M_size (mP M (M_element M) (M_elements M) (M_kept M) a1 (fI none) o1 (bB false)) = nI n := hM.1
        rw [e_Model_apply, g1', Option.bind_some, mP_wrong, if_pos (show fI none < 0 by decide), sz, if_neg (li_nge 40 40 rfl (by omega) (by omega))]
