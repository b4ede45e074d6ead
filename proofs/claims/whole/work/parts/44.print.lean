-- the second part's usual form; print
theorem toM_inj {x y : Nat} (hx : x = 256 ∨ (32 ≤ x ∧ x ≤ 126)) (hy : y = 256 ∨ (32 ≤ y ∧ y ≤ 126)) : toM x = toM y ↔ x = y := by
  unfold toM
  split <;> split <;> omega
theorem toM_lt {x : Nat} (hx : x = 256 ∨ (32 ≤ x ∧ x ≤ 126)) : toM x < 1000 := by
  unfold toM
  split <;> omega
theorem c_ends17 {a1 a2 : T_Affix} {l1 l2 : List Nat} (h1 : cAff a1 l1) (h2 : cAff a2 l2) (o1 : okL l1) (o2 : okL l2) {d : Nat} (hd : l1.length = d + l2.length) : ∀ (m k : Nat), l2.length - k < m → k ≤ l2.length →
    f_Affix_endsAs_17 a1 a2 m (nI d) (nI k) = some (bB (decide (l1.drop (d + k) = l2.drop k))) := by
  have b1 := h1.2.1
  intro m
  induction m with
  | zero => intro k hm; omega
  | succ m ih =>
    intro k hm hk
    rw [e_Affix_endsAs_17, h2.1]
    by_cases q : k = l2.length
    · subst q
      rw [if_pos (Int32.le_refl _), decide_eq_true (show l1.drop (d + l2.length) = l2.drop l2.length by rw [List.drop_length, ← hd, List.drop_length])]
      rfl
    · have hk2 : k < l2.length := by omega
      have hk1 : d + k < l1.length := by omega
      have e1 : l1.drop (d + k) = l1[d + k] :: l1.drop (d + k + 1) := List.drop_eq_getElem_cons hk1
      have e2 : l2.drop k = l2[k] :: l2.drop (k + 1) := List.drop_eq_getElem_cons hk2
      have w1 := okL_lt o1 hk1
      have w2 := okL_lt o2 hk2
      rw [if_neg (nI_ge hk2 (by omega)), nI_add, aff_at h1 (d + k) hk1, Option.bind_some, aff_at h2 k hk2, Option.bind_some]
      by_cases c : l1[d + k] = l2[k]
      · rw [if_pos (congrArg nI c), nI_1, ih (k + 1) (by omega) (by omega)]
        have : (l1.drop (d + (k + 1)) = l2.drop (k + 1)) ↔ (l1.drop (d + k) = l2.drop k) := by
          rw [e1, e2, c]
          exact ⟨fun z => congrArg _ z, fun z => (List.cons.inj z).2⟩
        rw [decide_eq_decide.mpr this]
      · rw [if_neg (fun z => c ((nI_eq (by omega) (by omega)).mp z)), decide_eq_false (show ¬ l1.drop (d + k) = l2.drop k by rw [e1, e2]; exact fun z => c (List.cons.inj z).1)]
        rfl
theorem c_ends {a1 a2 : T_Affix} {l1 l2 : List Nat} (h1 : cAff a1 l1) (h2 : cAff a2 l2) (o1 : okL l1) (o2 : okL l2) (d : Nat) (hd : d ≤ l1.length) (x : Int32) (hx : x = nI d) : f_Affix_endsAs a1 a2 x = some (bB (decide (l1.drop d = l2))) := by
  subst hx
  have b1 := h1.2.1
  have b2 := h2.2.1
  rw [e_Affix_endsAs, h1.1, h2.1, pk_sub hd]
  by_cases q : l1.length - d = l2.length
  · rw [if_pos (congrArg nI q), show (0 : Int32) = nI 0 from rfl, c_ends17 h1 h2 o1 o2 (by omega) FU 0 (by rw [FU_val]; omega) (Nat.zero_le _)]
    rfl
  · rw [if_neg (fun z => q ((nI_eq (by omega) (by omega)).mp z)), decide_eq_false (fun z => q (by rw [← z, List.length_drop]))]
    rfl
theorem c_usual {P : T_Pattern} {p0 s0 p1 s1 : List Nat} (a0 : cAff P.1.1 p0) (a1 : cAff P.1.2.2 s0) (a2 : cAff P.2.1.1 p1) (a3 : cAff P.2.1.2.2 s1) (o0 : okL p0) (o1 : okL s0) (o2 : okL p1) (o3 : okL s1) :
    f_Pattern_secondIsUsual P = some (bB (decide (p1 = 45 :: p0) && decide (s1 = s0))) := by
  have q0 : cAff (Q_prefix (P_first P)) p0 := a0
  have q1 : cAff (Q_suffix (P_first P)) s0 := a1
  have q2 : cAff (Q_prefix (P_second P)) p1 := a2
  have q3 : cAff (Q_suffix (P_second P)) s1 := a3
  have neg : ¬ p1 = 45 :: p0 → (bB (decide (p1 = 45 :: p0) && decide (s1 = s0))) = 0 := by
    intro h
    rw [decide_eq_false h]; rfl
  rw [e_Pattern_secondIsUsual]
  cases hp : p1 with
  | nil =>
    rw [hp] at q2 neg
    rw [show f_Affix_at (Q_prefix (P_second P)) (0 : Int32) = some (-1) from aff_atN q2 0 (Nat.le_refl _) (by decide), Option.bind_some, if_neg (show ¬ (-1 : Int32) = 45 by decide)]
    rfl
  | cons c t =>
    rw [hp] at q2 o2 neg
    have w := o2 c List.mem_cons_self
    rw [show f_Affix_at (Q_prefix (P_second P)) (0 : Int32) = some (nI c) from aff_at q2 0 (by show 0 < t.length + 1; omega), Option.bind_some]
    by_cases e : c = 45
    · subst e
      rw [if_pos (show nI 45 = 45 from rfl), c_ends q2 q0 o2 o0 1 (by show 1 ≤ t.length + 1; omega) (1 : Int32) rfl, Option.bind_some, show (45 :: t).drop 1 = t from rfl]
      have : (45 :: t = 45 :: p0) ↔ t = p0 := ⟨fun z => (List.cons.inj z).2, fun z => congrArg _ z⟩
      rw [decide_eq_decide.mpr this]
      cases decide (t = p0)
      · rw [if_pos b_f]; rfl
      · rw [if_neg b_t, c_ends q3 q1 o3 o1 0 (Nat.zero_le _) (0 : Int32) rfl, Option.bind_some, show s1.drop 0 = s1 from rfl]
        cases decide (s1 = s0)
        · rw [if_pos b_f]; rfl
        · rw [if_neg b_t]; rfl
    · rw [if_neg (nI_nel 45 45 rfl (by omega) (by decide) e), neg (fun z => e (List.cons.inj z).1)]
      rfl
theorem like_0 {M : T_Model} {x1 x2 x3 x5 : Int32} (m : Nat) : f_Model_like_27 M (m + 1) x1 x2 x3 (0 : Int32) x5 = some 0 := by
  rw [e_Model_like_27, if_pos rfl]; rfl
theorem m_like27 {M : T_Model} {i j d : Nat} {l1 l2 : List Nat} (hi : i < 4) (hj : j < 4) (h1 : mAff (M_element M) (M_elements M) i l1) (h2 : mAff (M_element M) (M_elements M) j l2) (o1 : okL l1) (o2 : okL l2) (hd : l1.length = d + l2.length) : ∀ (m k : Nat), l1.length - k + 1 < m → k ≤ l1.length →
    f_Model_like_27 M m (nI i) (nI j) (nI d) (1 : Int32) (nI k) = some (bB (decide (l1.drop k = (List.replicate d 45 ++ l2).drop k))) := by
  obtain ⟨u1, u2, u3⟩ := h1
  obtain ⟨v1, v2, v3⟩ := h2
  intro m
  induction m with
  | zero => intro k hm; omega
  | succ m ih =>
    intro k hm hk
    have hL : (List.replicate d 45 ++ l2).length = l1.length := by rw [List.length_append, List.length_replicate]; omega
    rw [e_Model_like_27, if_neg (show ¬ (1 : Int32) = 0 by decide), if_pos (ixN hi (by decide)), nI_clamp (by omega), u1]
    by_cases q : k = l1.length
    · subst q
      have hh : l1.drop l1.length = (List.replicate d 45 ++ l2).drop l1.length := by rw [List.drop_length, ← hL, List.drop_length]
      rw [if_pos (Int32.le_refl _), decide_eq_true hh]
      rfl
    · have hk1 : k < l1.length := by omega
      have hk2 : k < (List.replicate d 45 ++ l2).length := by omega
      have e1 : l1.drop k = l1[k] :: l1.drop (k + 1) := List.drop_eq_getElem_cons hk1
      have e2 : (List.replicate d 45 ++ l2).drop k = (List.replicate d 45 ++ l2)[k] :: (List.replicate d 45 ++ l2).drop (k + 1) := List.drop_eq_getElem_cons hk2
      have w1 := okL_lt o1 hk1
      have q1 : (40 : Int32) * nI i + nI k = nI (40 * i + k) := by rw [show (40 : Int32) * nI i = nI (40 * i) from pk_mul 40 i, nI_add]
      rw [if_neg (nI_ge hk1 (by omega))]
      have fin : ∀ (x : Nat), (x = 256 ∨ (32 ≤ x ∧ x ≤ 126)) → (List.replicate d 45 ++ l2)[k] = x → f_Model_like_68 M (f_Model_like_27 M m) (nI i) (nI j) (nI d) (nI k) (nI (toM x)) = some (bB (decide (l1.drop k = (List.replicate d 45 ++ l2).drop k))) := by
        intro x hx hxe
        have l1k := toM_lt w1
        have l2k := toM_lt hx
        rw [e_Model_like_68, q1, if_pos (ixN (by omega) (by decide)), nI_clamp (by omega), u3 k hk1]
        by_cases c : l1[k] = x
        · rw [if_pos (show nI (toM l1[k]) = nI (toM x) by rw [c]), e_Model_like_92, nI_1, ih (k + 1) (by omega) (by omega)]
          have : (l1.drop (k + 1) = (List.replicate d 45 ++ l2).drop (k + 1)) ↔ (l1.drop k = (List.replicate d 45 ++ l2).drop k) := by
            rw [e1, e2, hxe, c]
            exact ⟨fun z => congrArg _ z, fun z => (List.cons.inj z).2⟩
          rw [decide_eq_decide.mpr this]
        · have hh : ¬ l1.drop k = (List.replicate d 45 ++ l2).drop k := by rw [e1, e2, hxe]; exact fun z => c (List.cons.inj z).1
          rw [if_neg (fun z => c ((toM_inj w1 hx).mp ((nI_eq (by omega) (by omega)).mp z))), e_Model_like_92, decide_eq_false hh, show m = (m - 1) + 1 by omega, like_0]
          rfl
      by_cases c : d ≤ k
      · have hk3 : k - d < l2.length := by omega
        have q2 : (40 : Int32) * nI j + nI k - nI d = nI (40 * j + (k - d)) := by rw [show (40 : Int32) * nI j = nI (40 * j) from pk_mul 40 j, nI_add, pk_sub (by omega), show 40 * j + k - d = 40 * j + (k - d) by omega]
        rw [if_pos (nI_le c (by omega)), q2, if_pos (ixN (by omega) (by decide)), nI_clamp (by omega), v3 (k - d) hk3]
        refine fin _ (okL_lt o2 hk3) ?_
        rw [List.getElem_append_right (by rw [List.length_replicate]; exact c)]
        simp only [List.length_replicate]
      · rw [if_neg (nI_ge (by omega) (by omega)), show (45 : Int32) = nI (toM 45) from rfl]
        refine fin 45 (Or.inr (by omega)) ?_
        rw [List.getElem_append_left (by rw [List.length_replicate]; omega)]
        exact List.getElem_replicate _
theorem m_like {M : T_Model} {i j d : Nat} {l1 l2 : List Nat} (hi : i < 4) (hj : j < 4) (hd : d ≤ 1) (h1 : mAff (M_element M) (M_elements M) i l1) (h2 : mAff (M_element M) (M_elements M) j l2) (o1 : okL l1) (o2 : okL l2) (x y w : Int32) (hx : x = nI i) (hy : y = nI j) (hw : w = nI d) :
    f_Model_like M x y w = some (bB (decide (l1 = List.replicate d 45 ++ l2))) := by
  subst hx hy hw
  have b1 := h1.2.1
  have b2 := h2.2.1
  rw [e_Model_like, if_pos (ixN hi (by decide)), if_pos (ixN hj (by decide)), nI_clamp (by omega), nI_clamp (by omega), h1.1, h2.1, nI_add]
  by_cases q : l1.length = l2.length + d
  · rw [if_pos (congrArg nI q), e_Model_like_22]
    exact m_like27 hi hj h1 h2 o1 o2 (by omega) FU 0 (by rw [FU_val]; omega) (Nat.zero_le _)
  · rw [if_neg (fun z => q ((nI_eq (by omega) (by omega)).mp z)), e_Model_like_22, FU_val, like_0, decide_eq_false (fun z => q (by rw [z, List.length_append, List.length_replicate]; omega))]
    rfl
theorem iTxt_of {v : T_Row} {wr : Nat → Int32} {O : List Nat} (h1 : cAff v O) (h2 : mo wr O) (h3 : okO O) : iTxt v wr (nI O.length) O.length := by
  refine ⟨h1.1, rfl, h1.2.1, fun i hi => ?_⟩
  have := h3 _ (List.getElem_mem hi)
  exact ⟨(h1.2.2 i hi).trans (h2 i hi).symm, O[i], this.1, this.2, h2 i hi⟩
theorem op_print : Op_print Inv := by
  intro X M hI
  obtain ⟨ht, hw, hm, hr, hf, hp⟩ := hI
  rcases hp with ⟨h0, h1⟩ | ⟨h0, h1, hpat⟩
  · refine ⟨-1, X, M, ?_, ?_, ht, hw, hm, hr, hf, Or.inl ⟨h0, h1⟩⟩
    · rw [e_Deci_print, if_pos h0]
    · rw [e_Model_print, if_pos h1]
  · have n0 : ¬ D_hasPattern X = 0 := by rw [h0]; decide
    have n1 : ¬ M_there M = 0 := by rw [h1]; decide
    obtain ⟨p0, s0, p1, s1, z, a, b, g, e, a0, a1, a2, a3, m0, m1, o0, o1, o2, o3, hsec, hpct, hS⟩ := id hpat
    have q0 : cAff (Q_prefix (P_first (D_pattern X))) p0 := a0
    have q1 : cAff (Q_suffix (P_first (D_pattern X))) s0 := a1
    have q2 : cAff (Q_prefix (P_second (D_pattern X))) p1 := a2
    have q3 : cAff (Q_suffix (P_second (D_pattern X))) s1 := a3
    have qS : iShape (Q_shape (P_first (D_pattern X))) (M_kept M) z a b g e := hS
    have bnd : p0.length + s0.length ≤ 39 := by rcases hsec with ⟨-, -, -, -, h⟩ | ⟨-, -, -, -, h⟩ <;> omega
    have zN : (pN z a b g e).length ≤ 28 := by
      obtain ⟨-, -, -, -, -, hz, hab, hb, hg, he, -⟩ := hS
      exact pN_len hz hab hb hg he
    have z0 := prA_len p0 false
    have z1 := prA_len s0 false
    have z2 := prA_len p1 false
    have z3 := prA_len s1 false
    -- the state that the reference prints from
    have hM0 : sM_formatted (sM_end M 0) 0 = mW (sM_formatted M 0) (M_written M) (nI ([] : List Nat).length) := rfl
    have hc0 : cAff ((D_written X).1, (0 : Int32)) [] := ⟨rfl, by decide, fun i hi => absurd hi (Nat.not_lt_zero i)⟩
    have hm0 : mo (M_written M) [] := fun i hi => absurd hi (Nat.not_lt_zero i)
    have mm0 : mAff (M_element (sM_formatted M 0)) (M_elements (sM_formatted M 0)) 0 p0 := m0
    have mm1 : mAff (M_element (sM_formatted M 0)) (M_elements (sM_formatted M 0)) 1 s0 := m1
    have mS : iShape (Q_shape (P_first (D_pattern X))) (M_kept (sM_formatted M 0)) z a b g e := qS
    have nl : ([] : List Nat).length = 0 := rfl
    obtain ⟨v1, c1, c2⟩ := c_prA (pw := D_patternWriter X) q0 o0 hc0 (by omega)
    obtain ⟨w1, d1, d2⟩ := m_prA (M := sM_formatted M 0) (j := 0) (by omega) mm0 o0 hm0 (by omega) (0 : Int32) rfl
    rw [List.nil_append] at c2 d2 d1
    obtain ⟨v2, c3, c4⟩ := c_pN (pw := D_patternWriter X) qS c2 (by omega)
    obtain ⟨w2, d3, d4⟩ := m_pN (M := sM_formatted M 0) mS d2 (by omega)
    have L2 : (prA p0 false ++ pN z a b g e).length ≤ 2 * p0.length + 29 := by rw [List.length_append]; omega
    obtain ⟨v3, c5, c6⟩ := c_prA (pw := D_patternWriter X) q1 o1 c4 (by omega)
    obtain ⟨w3, d5, d6⟩ := m_prA (M := sM_formatted M 0) (j := 1) (by omega) mm1 o1 d4 (by omega) (1 : Int32) rfl
    have L3 : (prA p0 false ++ pN z a b g e ++ prA s0 false).length ≤ 2 * (p0.length + s0.length) + 30 := by rw [List.length_append]; omega
    have K3 : okO (prA p0 false ++ pN z a b g e ++ prA s0 false) := okO_app (okO_app (prA_ok p0 false o0) (pN_ok z a b g e)) (prA_ok s0 false o1)
    have fin : ∀ (v : T_Row) (wr : Nat → Int32) (O : List Nat), cAff v O → mo wr O → okO O → f_PatternWriter_write (D_patternWriter X) (D_pattern X) (D_written X) = some v → f_Model_print M = some (nI O.length, mW (sM_formatted M 0) wr (nI O.length)) →
        ∃ (r : Int32) (X' : T_Deci) (M' : T_Model), f_Deci_print X = some (r, X') ∧ f_Model_print M = some (r, M') ∧ Inv X' M' := by
      intro v wr O hv hwr hO hc hmm
      refine ⟨nI O.length, sD_numberWriter (sD_written X v) (sW_hasFields (D_numberWriter X) 0), mW (sM_formatted M 0) wr (nI O.length), ?_, hmm, ht, ⟨O.length, iTxt_of hv hwr hO⟩, hm, hr, Or.inl ⟨rfl, rfl⟩, Or.inr ⟨h0, h1, hpat⟩⟩
      rw [e_Deci_print, if_neg n0, hc, Option.bind_some, e_NumberWriter_forgetFields, Option.bind_some, show f_Row_size v = some (nI O.length) from congrArg some hv.1, Option.bind_some]
    rcases hsec with ⟨y1, y2, y3, y4, y5⟩ | ⟨y1, y2, -, -, -⟩
    · have m2' : mAff (M_element (mW (sM_formatted M 0) w3 (nI (prA p0 false ++ pN z a b g e ++ prA s0 false).length))) (M_elements (mW (sM_formatted M 0) w3 (nI (prA p0 false ++ pN z a b g e ++ prA s0 false).length))) 2 p1 := y3
      have m3' : mAff (M_element (mW (sM_formatted M 0) w3 (nI (prA p0 false ++ pN z a b g e ++ prA s0 false).length))) (M_elements (mW (sM_formatted M 0) w3 (nI (prA p0 false ++ pN z a b g e ++ prA s0 false).length))) 3 s1 := y4
      have m0' : mAff (M_element (mW (sM_formatted M 0) w3 (nI (prA p0 false ++ pN z a b g e ++ prA s0 false).length))) (M_elements (mW (sM_formatted M 0) w3 (nI (prA p0 false ++ pN z a b g e ++ prA s0 false).length))) 0 p0 := m0
      have m1' : mAff (M_element (mW (sM_formatted M 0) w3 (nI (prA p0 false ++ pN z a b g e ++ prA s0 false).length))) (M_elements (mW (sM_formatted M 0) w3 (nI (prA p0 false ++ pN z a b g e ++ prA s0 false).length))) 1 s0 := m1
      have k6 : M_kept (mW (sM_formatted M 0) w3 (nI (prA p0 false ++ pN z a b g e ++ prA s0 false).length)) (6 : Int32).toNatClampNeg = 1 := y2
      have Lk2 := m_like (i := 2) (j := 0) (d := 1) (by omega) (by omega) (by omega) m2' m0' o2 o0 (2 : Int32) (0 : Int32) (1 : Int32) rfl rfl rfl
      have Lk3 := m_like (i := 3) (j := 1) (d := 0) (by omega) (by omega) (by omega) m3' m1' o3 o1 (3 : Int32) (1 : Int32) (0 : Int32) rfl rfl rfl
      rw [show List.replicate 1 45 ++ p0 = 45 :: p0 from rfl] at Lk2
      rw [show List.replicate 0 45 ++ s0 = s0 from rfl] at Lk3
      have U := c_usual a0 a1 a2 a3 o0 o1 o2 o3
      have m2'' : mAff (M_element (sM_formatted M 0)) (M_elements (sM_formatted M 0)) 2 p1 := y3
      have m3'' : mAff (M_element (sM_formatted M 0)) (M_elements (sM_formatted M 0)) 3 s1 := y4
      have pc : f_PatternWriter_write (D_patternWriter X) (D_pattern X) (D_written X) = (if bB (decide (p1 = 45 :: p0) && decide (s1 = s0)) = 0 then (f_Row_add v3 (59 : Int32)).bind (fun o57 => (f_PatternWriter_writeAffix (D_patternWriter X) (Q_prefix (P_second (D_pattern X))) o57.2).bind (fun o70 => (f_Row_add o70 (35 : Int32)).bind (fun o76 => (f_PatternWriter_writeAffix (D_patternWriter X) (Q_suffix (P_second (D_pattern X))) o76.2).bind (fun o89 => f_PatternWriter_write_92 (D_patternWriter X) (D_pattern X) o89)))) else f_PatternWriter_write_92 (D_patternWriter X) (D_pattern X) v3) := by
        rw [e_PatternWriter_write, e_Row_clear, Option.bind_some, c1, Option.bind_some, c3, Option.bind_some, c5, Option.bind_some, if_neg (show ¬ P_hasSecond (D_pattern X) = 0 by rw [y1]; decide), U, Option.bind_some]
      have pm : f_Model_print M = (if bB (decide (p1 = 45 :: p0) && decide (s1 = s0)) = 0 then f_Model_print_64 (mW (sM_formatted M 0) w3 (nI (prA p0 false ++ pN z a b g e ++ prA s0 false).length)) else f_Model_print_86 (mW (sM_formatted M 0) w3 (nI (prA p0 false ++ pN z a b g e ++ prA s0 false).length))) := by
        rw [e_Model_print, if_neg n1, hM0, d1, Option.bind_some, d3, Option.bind_some, d5, Option.bind_some, if_pos k6, Lk2, Option.bind_some]
        cases decide (p1 = 45 :: p0)
        · rw [if_pos b_f]; rfl
        · rw [if_neg b_t, Lk3, Option.bind_some]
          cases decide (s1 = s0)
          · rw [if_pos b_f]; rfl
          · rw [if_neg b_t]; rfl
      cases hb : (decide (p1 = 45 :: p0) && decide (s1 = s0))
      · rw [hb, if_pos b_f] at pc pm
        obtain ⟨v4, c7, c8⟩ := row_push c6 (by omega) (59 : Int32) 59 rfl (by decide)
        obtain ⟨w4, d7, d8⟩ := m_write (M := sM_formatted M 0) d6 (by omega) (59 : Int32) 59 rfl (by decide)
        have L4 := len1 (prA p0 false ++ pN z a b g e ++ prA s0 false) 59
        obtain ⟨v5, c9, c10⟩ := c_prA (pw := D_patternWriter X) q2 o2 c8 (by omega)
        obtain ⟨w5, d9, d10⟩ := m_prA (M := sM_formatted M 0) (j := 2) (by omega) m2'' o2 d8 (by omega) (2 : Int32) rfl
        have L5 : (prA p0 false ++ pN z a b g e ++ prA s0 false ++ [59] ++ prA p1 false).length ≤ 2 * (p0.length + s0.length + p1.length) + 32 := by rw [List.length_append]; omega
        obtain ⟨v6, c11, c12⟩ := row_push c10 (by omega) (35 : Int32) 35 rfl (by decide)
        obtain ⟨w6, d11, d12⟩ := m_write (M := sM_formatted M 0) d10 (by omega) (35 : Int32) 35 rfl (by decide)
        have L6 := len1 (prA p0 false ++ pN z a b g e ++ prA s0 false ++ [59] ++ prA p1 false) 35
        obtain ⟨v7, c13, c14⟩ := c_prA (pw := D_patternWriter X) q3 o3 c12 (by omega)
        obtain ⟨w7, d13, d14⟩ := m_prA (M := sM_formatted M 0) (j := 3) (by omega) m3'' o3 d12 (by omega) (3 : Int32) rfl
        refine fin v7 w7 _ c14 d14 (okO_app (okO_app (okO_app (okO_app K3 (okO_cons (by decide) (by decide) okO_nil)) (prA_ok p1 false o2)) (okO_cons (by decide) (by decide) okO_nil)) (prA_ok s1 false o3)) ?_ ?_
        · rw [pc, c7, Option.bind_some, c9, Option.bind_some, c11, Option.bind_some, c13, Option.bind_some]; rfl
        · rw [pm, e_Model_print_64, d7, Option.bind_some, d9, Option.bind_some, d11, Option.bind_some, d13, Option.bind_some]; rfl
      · rw [hb, if_neg b_t] at pc pm
        exact fin v3 w3 _ c6 d6 K3 pc pm
    · refine fin v3 w3 _ c6 d6 K3 ?_ ?_
      · rw [e_PatternWriter_write, e_Row_clear, Option.bind_some, c1, Option.bind_some, c3, Option.bind_some, c5, Option.bind_some, if_pos y1]; rfl
      · rw [e_Model_print, if_neg n1, hM0, d1, Option.bind_some, d3, Option.bind_some, d5, Option.bind_some, if_neg (show ¬ M_kept (mW (sM_formatted M 0) w3 (nI (prA p0 false ++ pN z a b g e ++ prA s0 false).length)) (6 : Int32).toNatClampNeg = 1 by rw [show M_kept (mW (sM_formatted M 0) w3 (nI (prA p0 false ++ pN z a b g e ++ prA s0 false).length)) (6 : Int32).toNatClampNeg = M_kept M 6 from rfl, y2]; decide)]; rfl
