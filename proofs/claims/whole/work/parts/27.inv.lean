-- what ties the two states
def okc (x : Int32) : Prop := ∃ c : Nat, 32 ≤ c ∧ c ≤ 126 ∧ x = nI c
def iTxt (v : T_Row) (t : Nat → Int32) (sz : Int32) (n : Nat) : Prop := v.2 = nI n ∧ sz = nI n ∧ n ≤ 120 ∧ ∀ i, i < n → v.1 i = t i ∧ okc (t i)
/-- elements of affixes: letters, and 256 for the percent sign; the reference has 200 for it -/
def toM (e : Nat) : Nat := if e = 256 then 200 else e
def okL (l : List Nat) : Prop := ∀ e ∈ l, e = 256 ∨ (32 ≤ e ∧ e ≤ 126)
def cAff (a : T_Affix) (l : List Nat) : Prop := a.2 = nI l.length ∧ l.length ≤ 120 ∧ ∀ (i : Nat) (h : i < l.length), a.1 i = nI l[i]
def mAff (el es : Nat → Int32) (j : Nat) (l : List Nat) : Prop := es j = nI l.length ∧ l.length ≤ 40 ∧ ∀ (i : Nat) (h : i < l.length), el (40 * j + i) = nI (toM l[i])
def iShape (S : T_Shape) (kept : Nat → Int32) (z a b g e : Nat) : Prop := (S_leastInteger S = nI z ∧ kept 0 = nI z) ∧ (S_leastFraction S = nI a ∧ kept 1 = nI a) ∧ (S_mostFraction S = nI b ∧ kept 2 = nI b) ∧ (S_group S = nI g ∧ kept 3 = nI g) ∧ (S_exponentZeros S = nI e ∧ kept 4 = nI e) ∧ z ≤ 12 ∧ a ≤ b ∧ b ≤ 9 ∧ g ≤ 12 ∧ e ≤ 3 ∧ (0 < e → 1 ≤ z ∧ g = 0)
def iPat (P : T_Pattern) (el es kept : Nat → Int32) : Prop := ∃ (p0 s0 p1 s1 : List Nat) (z a b g e : Nat),
  cAff P.1.1 p0 ∧ cAff P.1.2.2 s0 ∧ cAff P.2.1.1 p1 ∧ cAff P.2.1.2.2 s1 ∧ mAff el es 0 p0 ∧ mAff el es 1 s0 ∧ okL p0 ∧ okL s0 ∧ okL p1 ∧ okL s1 ∧
  ((P_hasSecond P = 1 ∧ kept 6 = 1 ∧ mAff el es 2 p1 ∧ mAff el es 3 s1 ∧ p0.length + s0.length + (p1.length + s1.length) ≤ 38) ∨ (P_hasSecond P = 0 ∧ kept 6 = 0 ∧ p1 = 45 :: p0 ∧ s1 = s0 ∧ p0.length + s0.length ≤ 39)) ∧
  ((P_hasPercent P = 1 ∧ kept 5 = 100) ∨ (P_hasPercent P = 0 ∧ kept 5 = 1)) ∧ iShape P.1.2.1 kept z a b g e
def Inv (X : T_Deci) (M : T_Model) : Prop :=
  (∃ n, iTxt (D_typed X) (M_text M) (M_size M) n) ∧ (∃ w, iTxt (D_written X) (M_written M) (M_end M) w) ∧ (∃ j : Nat, j ≤ 7 ∧ D_roundingMode X = nI j ∧ M_how M = nI j) ∧
  (D_readValue X = M_read M ∧ D_readScale X = M_readScale M) ∧
  ((W_hasFields (D_numberWriter X) = 0 ∧ M_formatted M = 0) ∨ (W_hasFields (D_numberWriter X) = 1 ∧ M_formatted M = 1 ∧ ∀ i, i < 6 → W_edges (D_numberWriter X) i = M_bounds M i)) ∧
  ((D_hasPattern X = 0 ∧ M_there M = 0) ∨ (D_hasPattern X = 1 ∧ M_there M = 1 ∧ iPat (D_pattern X) (M_element M) (M_elements M) (M_kept M)))
theorem inv0 : Inv i_Deci i_Model :=
  ⟨⟨0, rfl, rfl, by omega, fun i h => absurd h (Nat.not_lt_zero i)⟩, ⟨0, rfl, rfl, by omega, fun i h => absurd h (Nat.not_lt_zero i)⟩, ⟨6, by omega, rfl, rfl⟩, ⟨rfl, rfl⟩, Or.inl ⟨rfl, rfl⟩, Or.inl ⟨rfl, rfl⟩⟩
theorem okc_of {z : Int32} (h1 : ¬ z < 32) (h2 : z ≤ 126) : okc z := by
  rw [Int32.lt_iff_toInt_lt] at h1
  rw [Int32.le_iff_toInt_le] at h2
  have e1 : (32 : Int32).toInt = 32 := by decide
  have e2 : (126 : Int32).toInt = 126 := by decide
  rw [e1] at h1
  rw [e2] at h2
  refine ⟨z.toInt.toNat, by omega, by omega, ?_⟩
  apply Int32.toInt_inj.mp
  rw [nI_toInt (by omega)]
  omega
theorem nar_c {c : Nat} (h : c < 65536) : vp_nar .char (nI c) = nI c := by
  have h1 := (pk_charN h).1
  unfold vp_nar
  rw [h1]
theorem okc_nar {x : Int32} (h : okc x) : vp_nar .char x = x := by
  obtain ⟨c, h1, h2, rfl⟩ := h
  exact nar_c (by omega)
theorem ixN {n N : Nat} (h : n < N) (hN : N < 2 ^ 31) : ix (nI n) N := vp_in_nI h hN
theorem iTxt_push {v : T_Row} {t : Nat → Int32} {sz x : Int32} {n : Nat} (h : iTxt v t sz n) (hn : n < 120) (hx : okc x) : iTxt (upd v.1 n x, v.2 + 1) (upd t n x) (sz + 1) (n + 1) := by
  obtain ⟨h1, h2, h3, h4⟩ := h
  refine ⟨by show v.2 + 1 = _; rw [h1, nI_1], by rw [h2, nI_1], by omega, fun i hi => ?_⟩
  show upd v.1 n x i = upd t n x i ∧ okc (upd t n x i)
  by_cases e : i = n
  · subst e
    rw [pk_us, pk_us]
    exact ⟨rfl, hx⟩
  · rw [pk_un e, pk_un e]
    exact h4 i (by omega)
theorem op_wipe : Op_wipe Inv := by
  intro X M hI
  obtain ⟨-, hw, hm, hr, hf, hp⟩ := hI
  exact ⟨_, _, rfl, rfl, ⟨0, rfl, rfl, by omega, fun i h => absurd h (Nat.not_lt_zero i)⟩, hw, hm, hr, hf, hp⟩
theorem op_length : Op_length Inv := by
  intro X M hI
  obtain ⟨⟨n, h1, h2, -⟩, -⟩ := hI
  exact ⟨nI n, congrArg some h1, congrArg some h2⟩
theorem op_value : Op_value Inv := by
  intro X M hI
  obtain ⟨-, -, -, ⟨h1, -⟩, -⟩ := hI
  exact ⟨_, rfl, congrArg some h1.symm⟩
theorem op_scale : Op_scale Inv := by
  intro X M hI
  obtain ⟨-, -, -, ⟨-, h1⟩, -⟩ := hI
  exact ⟨_, rfl, congrArg some h1.symm⟩
theorem op_mode : Op_mode Inv := by
  intro X M z hI
  obtain ⟨ht, hw, hm, hr, hf, hp⟩ := hI
  by_cases h1 : z < 0
  · exact ⟨0, X, M, if_pos h1, if_pos h1, ht, hw, hm, hr, hf, hp⟩
  · by_cases h2 : z ≤ 7
    · obtain ⟨j, hj, e⟩ := nI_of2 (M := 7) (n := 7) (by decide) h1 h2
      exact ⟨1, _, _, (if_neg h1).trans (if_pos h2), (if_neg h1).trans (if_pos h2), ht, hw, ⟨j, hj, e, e⟩, hr, hf, hp⟩
    · exact ⟨0, X, M, (if_neg h1).trans (if_neg h2), (if_neg h1).trans (if_neg h2), ht, hw, hm, hr, hf, hp⟩
theorem op_type : Op_type Inv := by
  intro X M z hI
  obtain ⟨⟨n, ht⟩, hw, hm, hr, hf, hp⟩ := hI
  by_cases h1 : z < 32
  · exact ⟨0, X, M, if_pos h1, if_pos h1, ⟨n, ht⟩, hw, hm, hr, hf, hp⟩
  · by_cases h2 : z ≤ 126
    · have h2' : ¬ (126 : Int32) < z := Int32.not_lt.mpr h2
      have hz := okc_of h1 h2
      obtain ⟨e1, e2, hn, -⟩ := id ht
      have fa : f_Deci_type X z = (f_Row_add X.1 z).bind (fun o19 => if (o19.1 = 0 ∨ o19.1 = 1) then some (o19.1, (o19.2, X.2)) else none) := (if_neg h1).trans (if_pos h2)
      have fm : f_Model_type M z = (if M.2.1 = (120 : Int32) then f_Model_type_21 M else if ix M.2.1 120 then some ((1 : Int32), ((upd M.1 M.2.1.toNatClampNeg (vp_nar .char z)), (M.2.1 + (1 : Int32)), M.2.2)) else none) := (if_neg h1).trans (if_neg h2')
      rw [fa, fm]
      by_cases h3 : n = 120
      · subst h3
        have c1 : ¬ X.1.2 < (120 : Int32) := by
          show ¬ (D_typed X).2 < _
          rw [e1]; decide
        have c2 : M.2.1 = (120 : Int32) := e2
        refine ⟨0, X, M, ?_, ?_, ⟨120, ht⟩, hw, hm, hr, hf, hp⟩
        · rw [show f_Row_add X.1 z = some (0, X.1) from if_neg c1]
          rfl
        · exact if_pos c2
      · have hn' : n < 120 := by omega
        have c1 : X.1.2 < (120 : Int32) := by
          show (D_typed X).2 < _
          rw [e1]; exact nI_lt hn' (by decide)
        have c2 : ¬ M.2.1 = (120 : Int32) := by
          show ¬ M_size M = _
          rw [e2]
          intro q
          exact h3 ((nI_eq (b := 120) (by omega) (by decide)).mp q)
        have i1 : ix X.1.2 120 := by show ix (D_typed X).2 120; rw [e1]; exact ixN hn' (by decide)
        have i2 : ix M.2.1 120 := by show ix (M_size M) 120; rw [e2]; exact ixN hn' (by decide)
        have k1 : X.1.2.toNatClampNeg = n := by show (D_typed X).2.toNatClampNeg = n; rw [e1]; exact nI_clamp (by omega)
        have k2 : M.2.1.toNatClampNeg = n := by show (M_size M).toNatClampNeg = n; rw [e2]; exact nI_clamp (by omega)
        have ga : f_Row_add X.1 z = some (1, (upd X.1.1 n z, X.1.2 + 1)) := by
          rw [show f_Row_add X.1 z = some ((1 : Int32), ((upd X.1.1 X.1.2.toNatClampNeg (vp_nar .char z)), (X.1.2 + (1 : Int32)))) from (if_pos c1).trans (if_pos i1), k1, okc_nar hz]
        refine ⟨1, ((upd X.1.1 n z, X.1.2 + 1), X.2), (upd M.1 n z, M.2.1 + 1, M.2.2), ?_, ?_, ⟨n + 1, iTxt_push ht hn' hz⟩, hw, hm, hr, hf, hp⟩
        · rw [ga]
          rfl
        · rw [if_neg c2, if_pos i2, k2, okc_nar hz]
    · have h2' : (126 : Int32) < z := Int32.not_le.mp h2
      exact ⟨0, X, M, (if_neg h1).trans (if_neg h2), (if_neg h1).trans (if_pos h2'), ⟨n, ht⟩, hw, hm, hr, hf, hp⟩
theorem op_out : Op_out Inv := by
  intro X M z hI
  obtain ⟨-, ⟨w, e1, e2, hw, hc⟩, -⟩ := hI
  by_cases h1 : z < 0
  · refine ⟨-1, ?_, if_pos h1⟩
    show (f_Row_at X.2.1 z).bind _ = _
    rw [show f_Row_at X.2.1 z = some (-1) from if_pos h1]
    rfl
  · by_cases h2 : nI w ≤ z
    · have c1 : X.2.1.2 ≤ z := by show (D_written X).2 ≤ z; rw [e1]; exact h2
      have c2 : ¬ z < M.2.2.2.1 := by show ¬ z < M_end M; rw [e2]; exact Int32.not_lt.mpr h2
      refine ⟨-1, ?_, (if_neg h1).trans (if_neg c2)⟩
      show (f_Row_at X.2.1 z).bind _ = _
      rw [show f_Row_at X.2.1 z = some (-1) from (if_neg h1).trans (if_pos c1)]
      rfl
    · obtain ⟨j, hj, rfl, -⟩ := pk_mu h1 h2 (by omega)
      have c1 : ¬ X.2.1.2 ≤ nI j := by show ¬ (D_written X).2 ≤ _; rw [e1]; exact h2
      have c2 : nI j < M.2.2.2.1 := by show _ < M_end M; rw [e2]; exact nI_lt hj (by omega)
      have k : (nI j).toNatClampNeg = j := nI_clamp (by omega)
      refine ⟨M_written M j, ?_, ?_⟩
      · show (f_Row_at X.2.1 (nI j)).bind _ = _
        rw [show f_Row_at X.2.1 (nI j) = some (X.2.1.1 (nI j).toNatClampNeg) from (if_neg h1).trans ((if_neg c1).trans (if_pos (ixN (by omega) (by decide)))), k]
        exact congrArg some (hc j hj).1
      · rw [show f_Model_out M (nI j) = some (M.2.2.1 (nI j).toNatClampNeg) from (if_neg h1).trans ((if_pos c2).trans (if_pos (ixN (by omega) (by decide)))), k]
theorem op_field : Op_field Inv := by
  intro X M z y hI hy
  obtain ⟨-, -, -, -, hf, -⟩ := hI
  by_cases h1 : z < 0
  · refine ⟨-1, ?_, if_pos h1⟩
    show (f_NumberWriter_fieldEdge (D_numberWriter X) z y).bind _ = _
    by_cases h0 : (D_numberWriter X).2.2.2 = 0
    · rw [show f_NumberWriter_fieldEdge (D_numberWriter X) z y = some (-1) from if_pos h0]; rfl
    · rw [show f_NumberWriter_fieldEdge (D_numberWriter X) z y = some (-1) from (if_neg h0).trans (if_pos h1)]; rfl
  · by_cases h2 : z ≤ 2
    · have h2' : ¬ (2 : Int32) < z := Int32.not_lt.mpr h2
      obtain ⟨j, hj, rfl⟩ := nI_of2 (M := 2) (n := 2) (by decide) h1 h2
      rcases hf with ⟨a, b⟩ | ⟨a, b, hb⟩
      · refine ⟨-1, ?_, (if_neg h1).trans ((if_neg h2').trans (if_pos b))⟩
        show (f_NumberWriter_fieldEdge (D_numberWriter X) (nI j) y).bind _ = _
        rw [show f_NumberWriter_fieldEdge (D_numberWriter X) (nI j) y = some (-1) from if_pos a]; rfl
      · have a0 : ¬ (D_numberWriter X).2.2.2 = 0 := by
          show ¬ W_hasFields (D_numberWriter X) = 0
          rw [a]; decide
        have b0 : ¬ M_formatted M = 0 := by rw [b]; decide
        have q0 : (2 : Int32) * nI j = nI (2 * j) := pk_mul 2 j
        rcases hy with rfl | rfl
        · have ci : ix ((2 : Int32) * nI j) 6 := by rw [q0]; exact ixN (by omega) (by decide)
          have ci2 : ix ((2 : Int32) * nI j + 0) 6 := by
            rw [q0, show (0 : Int32) = nI 0 from rfl, nI_add]; exact ixN (by omega) (by decide)
          refine ⟨M_bounds M (2 * j), ?_, ?_⟩
          · show (f_NumberWriter_fieldEdge (D_numberWriter X) (nI j) 0).bind _ = _
            rw [show f_NumberWriter_fieldEdge (D_numberWriter X) (nI j) 0 = some ((D_numberWriter X).2.2.1 ((2 : Int32) * nI j).toNatClampNeg) from (if_neg a0).trans ((if_neg h1).trans ((if_pos h2).trans ((if_pos rfl).trans (if_pos ci)))), q0, nI_clamp (by omega)]
            exact congrArg some (hb (2 * j) (by omega))
          · rw [show f_Model_field M (nI j) 0 = some (M_bounds M ((2 : Int32) * nI j + 0).toNatClampNeg) from (if_neg h1).trans ((if_neg h2').trans ((if_neg b0).trans ((if_pos rfl).trans (if_pos ci2)))), q0, show (0 : Int32) = nI 0 from rfl, nI_add, nI_clamp (by omega)]
            rfl
        · have ci : ix ((2 : Int32) * nI j + 1) 6 := by rw [q0, nI_1]; exact ixN (by omega) (by decide)
          have y0 : ¬ (1 : Int32) = 0 := by decide
          refine ⟨M_bounds M (2 * j + 1), ?_, ?_⟩
          · show (f_NumberWriter_fieldEdge (D_numberWriter X) (nI j) 1).bind _ = _
            rw [show f_NumberWriter_fieldEdge (D_numberWriter X) (nI j) 1 = some ((D_numberWriter X).2.2.1 ((2 : Int32) * nI j + 1).toNatClampNeg) from (if_neg a0).trans ((if_neg h1).trans ((if_pos h2).trans ((if_neg y0).trans (if_pos ci)))), q0, nI_1, nI_clamp (by omega)]
            exact congrArg some (hb (2 * j + 1) (by omega))
          · rw [show f_Model_field M (nI j) 1 = some (M_bounds M ((2 : Int32) * nI j + 1).toNatClampNeg) from (if_neg h1).trans ((if_neg h2').trans ((if_neg b0).trans ((if_neg y0).trans (if_pos ci)))), q0, nI_1, nI_clamp (by omega)]
    · have h2' : (2 : Int32) < z := Int32.not_le.mp h2
      refine ⟨-1, ?_, (if_neg h1).trans (if_pos h2')⟩
      show (f_NumberWriter_fieldEdge (D_numberWriter X) z y).bind _ = _
      by_cases h0 : (D_numberWriter X).2.2.2 = 0
      · rw [show f_NumberWriter_fieldEdge (D_numberWriter X) z y = some (-1) from if_pos h0]; rfl
      · rw [show f_NumberWriter_fieldEdge (D_numberWriter X) z y = some (-1) from (if_neg h0).trans ((if_neg h1).trans (if_neg h2))]; rfl
theorem okc_fits {x : Int32} (h : okc x) : fits .char (.int x) = true := by
  obtain ⟨c, h1, h2, rfl⟩ := h
  exact (pk_charN (by omega)).2
/-- the reference's copy: place by place -/
theorem copy_loop {w : Nat} (hw : w ≤ 120) : ∀ (n k : Nat) (M : T_Model), w - k < n → k ≤ w → M_end M = nI w → (∀ i, i < w → okc (M_written M i)) → (∀ i, i < k → M_text M i = M_written M i) →
    ∃ t : Nat → Int32, f_Model_copy_7 n M (nI k) = some (t, nI w, M.2.2) ∧ ∀ i, i < w → t i = M_written M i := by
  intro n
  induction n with
  | zero => intro k M h; omega
  | succ n ih =>
    intro k M h hk he ho ht
    by_cases hkw : k = w
    · subst hkw
      have c : M.2.2.2.1 ≤ nI k := by show M_end M ≤ _; rw [he]; exact nI_le (Nat.le_refl k) (by omega)
      refine ⟨M_text M, ?_, ht⟩
      rw [show f_Model_copy_7 (n + 1) M (nI k) = some (M.1, M_end M, M.2.2) from if_pos c, he]
    · have hlt : k < w := by omega
      have c : ¬ M.2.2.2.1 ≤ nI k := by
        show ¬ M_end M ≤ _
        rw [he]; exact nI_ge hlt (by omega)
      have kk : (nI k).toNatClampNeg = k := nI_clamp (by omega)
      obtain ⟨t, h1, h2⟩ := ih (k + 1) (upd M.1 k (M_written M k), M.2) (by omega) (by omega) he ho (fun i hi => by
        show upd M.1 k (M_written M k) i = M_written M i
        by_cases e : i = k
        · subst e; exact pk_us
        · rw [pk_un e]; exact ht i (by omega))
      refine ⟨t, ?_, h2⟩
      have st : f_Model_copy_7 (n + 1) M (nI k) = f_Model_copy_7 n (upd M.1 (nI k).toNatClampNeg (vp_nar .char (M_written M (nI k).toNatClampNeg)), M.2) (nI k + 1) := (if_neg c).trans ((if_pos (ixN (by omega) (by decide))).trans (if_pos (ixN (by omega) (by decide))))
      rw [st, kk, okc_nar (ho k hlt), nI_1]
      exact h1
theorem op_copy : Op_copy Inv := by
  intro X M hI
  obtain ⟨-, ⟨w, e1, e2, hw, hc⟩, hm, hr, hf, hp⟩ := hI
  obtain ⟨t, h1, h2⟩ := copy_loop hw FU 0 (M.1, (0 : Int32), M.2.2) (by show w - 0 < 1000; omega) (Nat.zero_le w) e2 (fun i hi => (hc i hi).2) (fun i hi => absurd hi (Nat.not_lt_zero i))
  have k : X.2.1.2.toNatClampNeg = w := by show (D_written X).2.toNatClampNeg = w; rw [e1]; exact nI_clamp (by omega)
  have z0 : (0 : Int32).toNatClampNeg = 0 := rfl
  have cc : (¬ (0 : Int32) < 0 ∧ ¬ (0 : Int32) < 0 ∧ ¬ X.2.1.2 < 0 ∧ (0 : Int32).toNatClampNeg + X.2.1.2.toNatClampNeg ≤ 120 ∧ (0 : Int32).toNatClampNeg + X.2.1.2.toNatClampNeg ≤ 120 ∧ ∀ i, i < X.2.1.2.toNatClampNeg → fits .char (.int (X.2.1.1 ((0 : Int32).toNatClampNeg + i))) = true) := by
    rw [k, z0]
    refine ⟨by decide, by decide, ?_, by omega, by omega, fun i hi => ?_⟩
    · show ¬ (D_written X).2 < 0
      rw [e1]; exact nI_pos (by omega)
    · rw [Nat.zero_add]
      have := (hc i hi).2
      rw [← (hc i hi).1] at this
      exact okc_fits this
  have ga : f_Row_become X.1 X.2.1 = some (va_cpy X.2.1.1 X.1.1 0 0 w, nI w) := by
    rw [show f_Row_become X.1 X.2.1 = some ((va_cpy X.2.1.1 X.1.1 (0 : Int32).toNatClampNeg (0 : Int32).toNatClampNeg X.2.1.2.toNatClampNeg), X.2.1.2) from if_pos cc, k, z0]
    exact congrArg some (Prod.ext rfl e1)
  refine ⟨((va_cpy X.2.1.1 X.1.1 0 0 w, nI w), X.2), (t, nI w, M.2.2), ?_, h1, ⟨w, rfl, rfl, hw, fun i hi => ?_⟩, ⟨w, e1, e2, hw, hc⟩, hm, hr, hf, hp⟩
  · show (f_Row_become X.1 X.2.1).bind _ = _
    rw [ga]
    rfl
  · show va_cpy X.2.1.1 X.1.1 0 0 w i = t i ∧ okc (t i)
    rw [sb_cpy0 hi, h2 i hi]
    exact hc i hi
theorem op_setting : Op_setting Inv := by
  intro X M z hI
  obtain ⟨-, -, -, -, -, hp⟩ := hI
  rcases hp with ⟨a, b⟩ | ⟨a, b, p0, s0, p1, s1, zz, aa, bb, g, e, -, -, -, -, -, -, -, -, -, -, hsec, hpct, hsh⟩
  · exact ⟨-1, if_pos a, if_pos b⟩
  · have a0 : ¬ D_hasPattern X = 0 := by rw [a]; decide
    have b0 : ¬ M_there M = 0 := by rw [b]; decide
    obtain ⟨⟨x0, y0⟩, ⟨x1, y1⟩, ⟨x2, y2⟩, ⟨x3, y3⟩, ⟨x4, y4⟩, -⟩ := hsh
    by_cases h1 : z < 0
    · have n0 : ¬ z = 0 := by rintro rfl; exact absurd h1 (by decide)
      have n1 : ¬ z = 1 := by rintro rfl; exact absurd h1 (by decide)
      have n2 : ¬ z = 2 := by rintro rfl; exact absurd h1 (by decide)
      have n3 : ¬ z = 3 := by rintro rfl; exact absurd h1 (by decide)
      have n4 : ¬ z = 4 := by rintro rfl; exact absurd h1 (by decide)
      have n5 : ¬ z = 5 := by rintro rfl; exact absurd h1 (by decide)
      have n6 : ¬ z = 6 := by rintro rfl; exact absurd h1 (by decide)
      exact ⟨-1, (if_neg a0).trans ((if_neg n0).trans ((if_neg n1).trans ((if_neg n2).trans ((if_neg n3).trans ((if_neg n4).trans ((if_neg n5).trans (if_neg n6))))))), (if_neg b0).trans (if_pos h1)⟩
    · by_cases h2 : z ≤ 6
      · obtain ⟨j, hj, rfl⟩ := nI_of2 (M := 6) (n := 6) (by decide) h1 h2
        have fm : f_Model_setting M (nI j) = some (M_kept M j) := by
          rw [show f_Model_setting M (nI j) = some (M_kept M (nI j).toNatClampNeg) from (if_neg b0).trans ((if_neg h1).trans ((if_pos h2).trans (if_pos (ixN (by omega) (by decide))))), nI_clamp (by omega)]
        refine ⟨M_kept M j, ?_, fm⟩
        rcases (show j = 0 ∨ j = 1 ∨ j = 2 ∨ j = 3 ∨ j = 4 ∨ j = 5 ∨ j = 6 by omega) with rfl | rfl | rfl | rfl | rfl | rfl | rfl
        · refine ((if_neg a0).trans (if_pos rfl)).trans (congrArg some ?_)
          exact x0.trans y0.symm
        · refine ((if_neg a0).trans ((if_neg (by decide)).trans (if_pos rfl))).trans (congrArg some ?_)
          exact x1.trans y1.symm
        · refine ((if_neg a0).trans ((if_neg (by decide)).trans ((if_neg (by decide)).trans (if_pos rfl)))).trans (congrArg some ?_)
          exact x2.trans y2.symm
        · refine ((if_neg a0).trans ((if_neg (by decide)).trans ((if_neg (by decide)).trans ((if_neg (by decide)).trans (if_pos rfl))))).trans (congrArg some ?_)
          exact x3.trans y3.symm
        · refine ((if_neg a0).trans ((if_neg (by decide)).trans ((if_neg (by decide)).trans ((if_neg (by decide)).trans ((if_neg (by decide)).trans (if_pos rfl)))))).trans (congrArg some ?_)
          exact x4.trans y4.symm
        · refine ((if_neg a0).trans ((if_neg (by decide)).trans ((if_neg (by decide)).trans ((if_neg (by decide)).trans ((if_neg (by decide)).trans ((if_neg (by decide)).trans (if_pos rfl))))))).trans ?_
          rcases hpct with ⟨u, v⟩ | ⟨u, v⟩
          · have u0 : ¬ P_hasPercent (D_pattern X) = 0 := by rw [u]; decide
            exact (if_neg u0).trans (congrArg some v.symm)
          · exact (if_pos u).trans (congrArg some v.symm)
        · refine ((if_neg a0).trans ((if_neg (by decide)).trans ((if_neg (by decide)).trans ((if_neg (by decide)).trans ((if_neg (by decide)).trans ((if_neg (by decide)).trans ((if_neg (by decide)).trans (if_pos rfl)))))))).trans ?_
          rcases hsec with ⟨u, v, -⟩ | ⟨u, v, -⟩
          · have u0 : ¬ P_hasSecond (D_pattern X) = 0 := by rw [u]; decide
            exact (if_neg u0).trans (congrArg some v.symm)
          · exact (if_pos u).trans (congrArg some v.symm)
      · have n0 : ¬ z = 0 := by rintro rfl; exact absurd h2 (by decide)
        have n1 : ¬ z = 1 := by rintro rfl; exact absurd h2 (by decide)
        have n2 : ¬ z = 2 := by rintro rfl; exact absurd h2 (by decide)
        have n3 : ¬ z = 3 := by rintro rfl; exact absurd h2 (by decide)
        have n4 : ¬ z = 4 := by rintro rfl; exact absurd h2 (by decide)
        have n5 : ¬ z = 5 := by rintro rfl; exact absurd h2 (by decide)
        have n6 : ¬ z = 6 := by rintro rfl; exact absurd h2 (by decide)
        exact ⟨-1, (if_neg a0).trans ((if_neg n0).trans ((if_neg n1).trans ((if_neg n2).trans ((if_neg n3).trans ((if_neg n4).trans ((if_neg n5).trans (if_neg n6))))))), (if_neg b0).trans ((if_neg h1).trans (if_neg h2))⟩
