-- parse
def fit (T : Nat → Nat) (n : Nat) (p s : List Nat) : Bool := decide (p.length + s.length ≤ n) && (stn T 0 p && stn T (n - s.length) s)
theorem fit_l {T : Nat → Nat} {n : Nat} {p s : List Nat} (h : fit T n p s = true) : p.length + s.length ≤ n := by
  unfold fit at h
  rw [Bool.and_eq_true_iff, decide_eq_true_eq] at h
  exact h.1
theorem c_startB {v : T_Row} {T : Nat → Nat} {n : Nat} (hR : RowOf v T n) {Q : T_Part} {p s : List Nat} (hp : cAff (Q_prefix Q) p) (hs : cAff (Q_suffix Q) s) (op : okL p) (os : okL s) (nr : T_NumberReader) :
    ∃ nr', f_NumberReader_startBetween nr v Q = some (bB (fit T n p s), nr') ∧ N_percentPlaces nr' = N_percentPlaces nr ∧ (fit T n p s = true → nr' = nR p.length (n - s.length) p.length (N_negative nr) s00 0 (N_percentPlaces nr)) := by
  have hn := hR.2.1
  have l1 := hp.2.1
  have l2 := hs.2.1
  rw [e_NumberReader_startBetween, show f_Affix_size (Q_prefix Q) = some (nI p.length) from congrArg some hp.1, Option.bind_some, show f_Row_size v = some (nI n) from congrArg some hR.1, Option.bind_some, show f_Affix_size (Q_suffix Q) = some (nI s.length) from congrArg some hs.1, Option.bind_some, e_NumberReader_startBody, Option.bind_some]
  unfold fit
  by_cases c : p.length + s.length ≤ n
  · rw [pk_sub (by omega), if_neg (nI_nlt (by omega) (by omega)), c_stands hR hp op 0 (by omega) (0 : Int32) rfl, Option.bind_some, decide_eq_true c, Bool.true_and]
    cases stn T 0 p
    · rw [if_pos b_f]
      exact ⟨_, rfl, rfl, fun z => by cases z⟩
    · rw [if_neg b_t, c_stands hR hs os (n - s.length) (by omega) _ rfl, Option.bind_some, Bool.true_and]
      cases stn T (n - s.length) s
      · rw [if_pos b_f]
        exact ⟨_, rfl, rfl, fun z => by cases z⟩
      · rw [if_neg b_t]
        exact ⟨_, rfl, rfl, fun _ => rfl⟩
  · have hlt : nI n - nI s.length < nI p.length := by
      by_cases c2 : s.length ≤ n
      · rw [pk_sub c2]
        exact nI_lt (by omega) (by omega)
      · rw [Int32.lt_iff_toInt_lt, pk_sub_toInt (by omega) (by omega), nI_toInt (by omega)]
        omega
    rw [if_pos hlt, decide_eq_false c, Bool.false_and]
    exact ⟨_, rfl, rfl, fun z => by cases z⟩
theorem c_try {v : T_Row} {T : Nat → Nat} {n gg x : Nat} (hR : RowOf v T n) {Q : T_Part} {S : T_Shape} {p s : List Nat} (hp : cAff (Q_prefix Q) p) (hs : cAff (Q_suffix Q) s) (op : okL p) (os : okL s) (hG : S_group S = nI gg) (hg : gg ≤ 12) (hS : S_exponentZeros S = nI x) (hx : x ≤ 3) (nr : T_NumberReader) {O : Type} (F G : T_NumberReader → Option O) :
    ∃ nr', ((f_NumberReader_startBetween nr v Q).bind (fun o => if o.1 = 0 then F o.2 else (f_NumberReader_readBody o.2 v S).bind (fun o2 => if o2.1 = 0 then F o2.2 else G o2.2))) = (if (fit T n p s && okQ T (n - s.length) (scN T p.length (n - s.length) (decide (0 < gg))).1 (scN T p.length (n - s.length) (decide (0 < gg))).2 x) = true then G nr' else F nr') ∧ N_percentPlaces nr' = N_percentPlaces nr ∧
      ((fit T n p s && okQ T (n - s.length) (scN T p.length (n - s.length) (decide (0 < gg))).1 (scN T p.length (n - s.length) (decide (0 < gg))).2 x) = true → ∃ p', nr' = nR p.length (n - s.length) p' (N_negative nr) (scN T p.length (n - s.length) (decide (0 < gg))).1 (exQ T (n - s.length) (scN T p.length (n - s.length) (decide (0 < gg))).2 x) (N_percentPlaces nr)) := by
  obtain ⟨nr1, r1, r2, r3⟩ := c_startB hR hp hs op os nr
  rw [r1, Option.bind_some]
  cases hf : fit T n p s
  · dsimp only
    rw [if_pos b_f, Bool.false_and]
    exact ⟨nr1, rfl, r2, fun z => by cases z⟩
  · have r3' := r3 hf
    have hl := fit_l hf
    subst r3'
    obtain ⟨p', ex', q1, q2⟩ := c_rBody (neg := N_negative nr) (pp := N_percentPlaces nr) hR (b := p.length) (e := n - s.length) (by omega) (by omega) hG hg hS hx
    dsimp only
    rw [if_neg b_t, q1, Option.bind_some, Bool.true_and]
    dsimp only
    cases hk : okQ T (n - s.length) (scN T p.length (n - s.length) (decide (0 < gg))).1 (scN T p.length (n - s.length) (decide (0 < gg))).2 x
    · rw [if_pos b_f]
      exact ⟨_, rfl, rfl, fun z => by cases z⟩
    · rw [if_neg b_t]
      exact ⟨_, rfl, rfl, fun _ => ⟨p', by rw [q2 hk]⟩⟩
theorem m_stP {M : T_Model} {T : Nat → Nat} {n : Nat} (hM : ModOf M T n) {p0 s0 p1 s1 : List Nat} (h : mPat M p0 s0 p1 s1) (sg : Bool) {p s : List Nat} (hp : p = lst p0 s0 p1 s1 sg false) (op : okL p) (hl : p.length + s.length ≤ n) : ∀ (m i : Nat) (b : Bool), p.length - i < m → i ≤ p.length →
    f_Model_ofSign_32 m M (bB sg) (nI p.length) (nI s.length) (bB b) (nI i) = f_Model_ofSign_77 FU M (bB sg) (nI p.length) (nI s.length) (bB (b && stn T i (p.drop i))) (0 : Int32) := by
  have hn := hM.2.1
  intro m
  induction m with
  | zero => intro i b hm; omega
  | succ m ih =>
    intro i b hm hi
    rw [e_Model_ofSign_32]
    by_cases q : i = p.length
    · subst q
      rw [if_pos (Int32.le_refl _), List.drop_length, show stn T p.length [] = true from rfl, Bool.and_true]
    · have hi' : i < p.length := by omega
      have hd : p.drop i = p[i] :: p.drop (i + 1) := List.drop_eq_getElem_cons hi'
      have hv := hM.2.2 i (by omega)
      have hs' := sh_lt (okL_lt op hi')
      have step := fun b' => ih (i + 1) b' (by omega) (by omega)
      have step0 : f_Model_ofSign_32 m M (bB sg) (nI p.length) (nI s.length) (0 : Int32) (nI (i + 1)) = _ := step false
      have step1 : f_Model_ofSign_32 m M (bB sg) (nI p.length) (nI s.length) (1 : Int32) (nI (i + 1)) = _ := step true
      rw [if_neg (nI_ge hi' (by omega)), hd]
      show _ = f_Model_ofSign_77 FU M (bB sg) (nI p.length) (nI s.length) (bB (b && (decide (T i = sh p[i]) && stn T (i + 1) (p.drop (i + 1))))) (0 : Int32)
      cases b
      · rw [if_pos b_f, e_Model_ofSign_65, e_Model_ofSign_66, nI_1, step0]; rfl
      · have hsh : f_Model_shown M (bB sg) (0 : Int32) (nI i) = some (nI (sh p[i])) := by
          subst hp
          exact m_shown h sg false i hi'
        have hx : M_text M (nI i).toNatClampNeg = nI (T i) := by rw [nI_clamp (by omega)]; exact hv.1
        rw [if_neg b_t, if_pos (ixN (by omega) (by decide)), hsh, Option.bind_some, hx]
        by_cases c : T i = sh p[i]
        · rw [if_pos (congrArg nI c), e_Model_ofSign_66, nI_1, step1, decide_eq_true c, Bool.true_and, Bool.true_and]
        · rw [if_neg (fun z => c ((nI_eq (by omega) (by omega)).mp z)), e_Model_ofSign_65, e_Model_ofSign_66, nI_1, step0, decide_eq_false c]; rfl
theorem m_ofSign {M : T_Model} {T : Nat → Nat} {n : Nat} (hM : ModOf M T n) {p0 s0 p1 s1 : List Nat} (h : mPat M p0 s0 p1 s1) (sg : Bool) {p s : List Nat} (hp : p = lst p0 s0 p1 s1 sg false) (hs : s = lst p0 s0 p1 s1 sg true) (op : okL p) (os : okL s) (lp : p.length ≤ 41) (ls : s.length ≤ 41) :
    f_Model_ofSign M (bB sg) = if fit T n p s = true then (f_Model_body M (nI p.length) (nI (n - s.length))).bind (fun o139 => (if o139.1 = 0 then f_Model_ofSign_149 o139.2 else f_Model_ofSign_150 o139.2 (1 : Int32))) else some (0, M) := by
  have hn := hM.2.1
  have e1 : f_Model_shownLength M (bB sg) (0 : Int32) = some (nI p.length) := by subst hp; exact m_shownLen h sg false
  have e2 : f_Model_shownLength M (bB sg) (1 : Int32) = some (nI s.length) := by subst hs; exact m_shownLen h sg true
  rw [e_Model_ofSign, e1, Option.bind_some, e2, Option.bind_some, nI_add, hM.1]
  unfold fit
  by_cases c : p.length + s.length ≤ n
  · rw [if_pos (nI_le c (by omega)), decide_eq_true c, Bool.true_and, show (1 : Int32) = bB true from rfl, show (0 : Int32) = nI 0 from rfl, m_stP hM h sg hp op c FU 0 true (by rw [FU_val]; omega) (Nat.zero_le _), Bool.true_and, show p.drop 0 = p from rfl]
    have hz : ∀ (k : Nat) (b : Bool), f_Model_ofSign_77 (k + 1) M (bB sg) (nI p.length) (nI s.length) (bB b) (nI s.length) = if b = true then (f_Model_body M (nI p.length) (nI (n - s.length))).bind (fun o139 => (if o139.1 = 0 then f_Model_ofSign_149 o139.2 else f_Model_ofSign_150 o139.2 (1 : Int32))) else some (0, M) := by
      intro k b
      rw [e_Model_ofSign_77, if_pos (Int32.le_refl _), hM.1, pk_sub (by omega)]
      cases b
      · rw [if_pos b_f, ib_f]; rfl
      · rw [if_neg b_t, ib_t]
    have := m_stS hM h sg hp hs os c FU 0 (stn T 0 p) (by rw [FU_val]; omega) (Nat.zero_le _) (999 - s.length) (fun b' => by rw [hz, show (1 : Nat) = 0 + 1 from rfl, hz])
    rw [show 999 - s.length + 1 + (s.length - 0) = FU by rw [FU_val]; omega, show n - s.length + 0 = n - s.length from rfl, show s.drop 0 = s from rfl, show (1 : Nat) = 0 + 1 from rfl, hz] at this
    exact this
  · rw [if_neg (nI_ge (by omega) (by omega)), decide_eq_false c, Bool.false_and, ib_f]
theorem m_try {M : T_Model} {T : Nat → Nat} {n gg x : Nat} (hM : ModOf M T n) {p0 s0 p1 s1 : List Nat} (h : mPat M p0 s0 p1 s1) (sg : Bool) {p s : List Nat} (hp : p = lst p0 s0 p1 s1 sg false) (hs : s = lst p0 s0 p1 s1 sg true) (op : okL p) (os : okL s) (lp : p.length ≤ 41) (ls : s.length ≤ 41) (hk : M_kept M 3 = nI gg) (hg : gg ≤ 12) (hx4 : M_kept M 4 = nI x) (hx : x ≤ 3) {pp : Int32} (hpp : (pp = 2 ∧ M_kept M 5 = 100) ∨ (pp = 0 ∧ M_kept M 5 = 1)) (nr : Int64) (ns lg : Int32) (y : Int32) (hy : y = bB sg) :
    ∃ nr' ns' lg', f_Model_ofSign (mR M nr ns lg) y = some (bB (fit T n p s && okQ T (n - s.length) (scN T p.length (n - s.length) (decide (0 < gg))).1 (scN T p.length (n - s.length) (decide (0 < gg))).2 x), mR M nr' ns' lg') ∧
      ((fit T n p s && okQ T (n - s.length) (scN T p.length (n - s.length) (decide (0 < gg))).1 (scN T p.length (n - s.length) (decide (0 < gg))).2 x) = true → nr' = lN (scN T p.length (n - s.length) (decide (0 < gg))).1.1 ∧ lg' = bB (decide (17 < (scN T p.length (n - s.length) (decide (0 < gg))).1.2.1)) ∧ ns' = (if (scN T p.length (n - s.length) (decide (0 < gg))).1.1 = 0 then 0 else (nI (scN T p.length (n - s.length) (decide (0 < gg))).1.2.2.2.2.2 - nI (scN T p.length (n - s.length) (decide (0 < gg))).1.2.2.2.1) - exQ T (n - s.length) (scN T p.length (n - s.length) (decide (0 < gg))).2 x + pp)) := by
  subst hy
  rw [m_ofSign (M := mR M nr ns lg) hM h sg hp hs op os lp ls]
  cases hf : fit T n p s
  · rw [ib_f, Bool.false_and]
    exact ⟨nr, ns, lg, rfl, fun z => by cases z⟩
  · have hl := fit_l hf
    obtain ⟨ns', q1, q2⟩ := m_body (nr := nr) (ns := ns) (lg := lg) hM (b := p.length) (e := n - s.length) (by omega) (by omega) hk hg hx4 hx hpp
    rw [ib_t, q1, Option.bind_some, Bool.true_and]
    dsimp only
    refine ⟨_, ns', _, ?_, fun z => ⟨rfl, rfl, q2 z⟩⟩
    cases okQ T (n - s.length) (scN T p.length (n - s.length) (decide (0 < gg))).1 (scN T p.length (n - s.length) (decide (0 < gg))).2 x
    · rw [if_pos b_f]; rfl
    · rw [if_neg b_t]; rfl
def mRR (M : T_Model) (rd : Int64) (rs : Int32) (nr : Int64) (ns lg : Int32) : T_Model := (M_text M, M_size M, M_written M, M_end M, M_how M, M_there M, M_element M, M_elements M, M_kept M, M_at M, M_wrong M, M_open M, M_keeping M, M_digit M, M_digits M, M_point M, M_formatted M, M_bounds M, rd, rs, nr, ns, lg)
theorem c_fin {v : T_Row} {P : T_Pattern} {b e p : Nat} {neg ex pp : Int32} {s : St} (hc : s.2.1 < 1000) : f_NumberReader_read_78 v P (nR b e p neg s ex pp) = some (bB (!decide (17 < s.2.1)), nR b e p neg s ex pp) := by
  rw [e_NumberReader_read_78, show N_digitsCounted (nR b e p neg s ex pp) = nI s.2.1 from rfl]
  by_cases c : 17 < s.2.1
  · rw [if_pos (li_gt 17 17 rfl c (by omega)), decide_eq_true c]; rfl
  · rw [if_neg (li_ngt 17 17 rfl (by omega) (by decide)), decide_eq_false c]; rfl
theorem c_places {b e p K : Nat} {neg ex pp : Int32} {s : St} (h : gI s K) : f_NumberReader_places (nR b e p neg s ex pp) = some (if s.1 = 0 then 0 else (nI s.2.2.2.2.2 - nI s.2.2.2.1) - ex + pp) := by
  obtain ⟨h1, h2, h3, -⟩ := h
  have hD : s.1 < 2 ^ 63 := Nat.lt_of_lt_of_le h3 (by decide)
  rw [e_NumberReader_places, show N_digits (nR b e p neg s ex pp) = lN s.1 from rfl]
  by_cases c : s.1 = 0
  · rw [if_pos ((lc_0 hD 0 0 rfl (by decide)).mpr c), if_pos c]; rfl
  · have hc : 0 < s.2.1 := by
      rcases Nat.eq_zero_or_pos s.2.1 with z | z
      · exact absurd (h1 z).2 c
      · exact z
    rw [if_neg (fun z => c ((lc_0 hD 0 0 rfl (by decide)).mp z)), if_neg c, ← (h2 hc).1]; rfl
theorem op_parse : Op_parse Inv := by
  intro X M hI
  obtain ⟨ht, hw, hm, hr, hf, hp⟩ := hI
  obtain ⟨n, hR0⟩ := ht
  rcases hp with ⟨h0, h1⟩ | ⟨h0, h1, hpat⟩
  · refine ⟨0, X, M, ?_, ?_, ⟨n, hR0⟩, hw, hm, hr, hf, Or.inl ⟨h0, h1⟩⟩
    · rw [e_Deci_parse, if_pos h0]; rfl
    · rw [e_Model_parse, if_pos h1]
  · have n0 : ¬ D_hasPattern X = 0 := by rw [h0]; decide
    have n1 : ¬ M_there M = 0 := by rw [h1]; decide
    obtain ⟨T, hR, hM⟩ := inv_text hR0
    have hn := hR.2.1
    obtain ⟨p0, s0, p1, s1, z, a, b, g, e, a0, a1, a2, a3, m0, m1, o0, o1, o2, o3, hsec, hpct, hS⟩ := id hpat
    have q0 : cAff (Q_prefix (P_first (D_pattern X))) p0 := a0
    have q1 : cAff (Q_suffix (P_first (D_pattern X))) s0 := a1
    have q2 : cAff (Q_prefix (P_second (D_pattern X))) p1 := a2
    have q3 : cAff (Q_suffix (P_second (D_pattern X))) s1 := a3
    have len0 : p0.length ≤ 41 ∧ s0.length ≤ 41 ∧ p1.length ≤ 41 ∧ s1.length ≤ 41 := by
      rcases hsec with ⟨-, -, -, -, h⟩ | ⟨-, -, h, h', h''⟩
      · omega
      · rw [h, h', List.length_cons]; omega
    have hMP : mPat M p0 s0 p1 s1 := by
      refine ⟨m0, m1, o0, o1, o2, o3, ?_⟩
      rcases hsec with ⟨-, k, x2, x3, -⟩ | ⟨-, k, x2, x3, -⟩
      · exact Or.inl ⟨k, x2, x3⟩
      · exact Or.inr ⟨k, x2, x3⟩
    obtain ⟨-, -, -, ⟨g1, g2⟩, ⟨e1, e2⟩, -, -, -, hg, he, -⟩ := hS
    have G1 : S_group (Q_shape (P_first (D_pattern X))) = nI g := g1
    have E1 : S_exponentZeros (Q_shape (P_first (D_pattern X))) = nI e := e1
    obtain ⟨pp, hpp, cpp⟩ : ∃ pp : Int32, ((pp = 2 ∧ M_kept M 5 = 100) ∨ (pp = 0 ∧ M_kept M 5 = 1)) ∧ f_NumberReader_read (D_numberReader X) (D_typed X) (D_pattern X) = f_NumberReader_read_21 (D_typed X) (D_pattern X) (D_numberReader X) pp := by
      rcases hpct with ⟨k1, k2⟩ | ⟨k1, k2⟩
      · exact ⟨2, Or.inl ⟨rfl, k2⟩, by rw [e_NumberReader_read, if_neg (show ¬ P_hasPercent (D_pattern X) = 0 by rw [k1]; decide)]⟩
      · exact ⟨0, Or.inr ⟨rfl, k2⟩, by rw [e_NumberReader_read, if_pos k1]⟩
    obtain ⟨nr1, r1, r2, r3⟩ := c_try (gg := g) (x := e) hR q0 q1 o0 o1 G1 hg E1 he (sN_percentPlaces (sN_negative (D_numberReader X) (0 : Int32)) pp) (f_NumberReader_read_50 (D_typed X) (D_pattern X)) (f_NumberReader_read_78 (D_typed X) (D_pattern X))
    obtain ⟨nr2, r4, r5, r6⟩ := c_try (gg := g) (x := e) hR q2 q3 o2 o3 G1 hg E1 he (sN_negative nr1 (1 : Int32)) (f_NumberReader_read_76 (D_typed X) (D_pattern X)) (f_NumberReader_read_78 (D_typed X) (D_pattern X))
    obtain ⟨x1, y1, z1, u1, u2⟩ := m_try hM hMP false rfl rfl o0 o1 len0.1 len0.2.1 g2 hg e2 he hpp (M_newRead M) (M_newScale M) (M_large M) (0 : Int32) rfl
    obtain ⟨x2, y2, z2, u3, u4⟩ := m_try hM hMP true rfl rfl o2 o3 len0.2.2.1 len0.2.2.2 g2 hg e2 he hpp x1 y1 z1 (1 : Int32) rfl
    have pm1 : N_percentPlaces (sN_percentPlaces (sN_negative (D_numberReader X) (0 : Int32)) pp) = pp := rfl
    have pm2 : N_percentPlaces (sN_negative nr1 (1 : Int32)) = N_percentPlaces nr1 := rfl
    have pm3 : N_negative (sN_percentPlaces (sN_negative (D_numberReader X) (0 : Int32)) pp) = 0 := rfl
    have pm4 : N_negative (sN_negative nr1 (1 : Int32)) = 1 := rfl
    rw [pm1] at r2
    rw [pm2, r2] at r5
    have rr1 := (cpp.trans (e_NumberReader_read_21 (D_typed X) (D_pattern X) (D_numberReader X) pp)).trans r1
    have rr2 := (e_NumberReader_read_50 (D_typed X) (D_pattern X) nr1).trans r4
    -- what is shown where a body was found
    have done : ∀ (sg : Bool) (bb ee qq : Nat) (s : St) (x : Int32) (nrm : Int64) (nsm lgm : Int32), gI s qq → qq ≤ 120 → nrm = lN s.1 → lgm = bB (decide (17 < s.2.1)) → nsm = (if s.1 = 0 then 0 else (nI s.2.2.2.2.2 - nI s.2.2.2.1) - x + pp) → ∀ p', f_NumberReader_read (D_numberReader X) (D_typed X) (D_pattern X) = f_NumberReader_read_78 (D_typed X) (D_pattern X) (nR bb ee p' (bB sg) s x pp) → f_Model_parse M = f_Model_parse_41 (mR M nrm nsm lgm) (bB sg) →
        ∃ (r : Int32) (X' : T_Deci) (M' : T_Model), f_Deci_parse X = some (r, X') ∧ f_Model_parse M = some (r, M') ∧ Inv X' M' := by
      intro sg bb ee qq s x nrm nsm lgm hs hq hn1 hn2 hn3 p' hc hmm
      have hal := hs.2.2.2.2
      rw [c_fin (by omega)] at hc
      cases h17 : decide (17 < s.2.1)
      · rw [h17] at hc hn2
        have hsd : f_NumberReader_signedDigits (nR bb ee p' (bB sg) s x pp) = some (if sg = true then -(lN s.1) else lN s.1) := by
          rw [e_NumberReader_signedDigits, show N_negative (nR bb ee p' (bB sg) s x pp) = bB sg from rfl, show N_digits (nR bb ee p' (bB sg) s x pp) = lN s.1 from rfl]
          cases sg
          · rw [if_pos b_f]; rfl
          · rw [if_neg b_t]; rfl
        refine ⟨1, sD_readScale (sD_readValue (sD_numberReader X (nR bb ee p' (bB sg) s x pp)) (if sg = true then -(lN s.1) else lN s.1)) nsm, mRR M (if sg = true then -(lN s.1) else lN s.1) nsm nrm nsm lgm, ?_, ?_, ⟨n, hR0⟩, hw, hm, ⟨rfl, rfl⟩, hf, Or.inr ⟨h0, h1, hpat⟩⟩
        · rw [e_Deci_parse, if_neg n0, hc, Option.bind_some]
          dsimp only
          rw [show (!false) = true from rfl, if_neg b_t, hsd, Option.bind_some, c_places hs, Option.bind_some, ← hn3]
        · rw [hmm, e_Model_parse_41, mR_large, hn2, if_pos b_f, show M_newRead (mR M nrm nsm (bB false)) = nrm from rfl, hn1]
          cases sg
          · rw [if_pos b_f]; rfl
          · rw [if_neg b_t]; rfl
      · rw [h17] at hc hn2
        refine ⟨0, sD_numberReader X (nR bb ee p' (bB sg) s x pp), mR M nrm nsm lgm, ?_, ?_, ⟨n, hR0⟩, hw, hm, hr, hf, Or.inr ⟨h0, h1, hpat⟩⟩
        · rw [e_Deci_parse, if_neg n0, hc, Option.bind_some]
          dsimp only
          rw [show (!true) = false from rfl, if_pos b_f]; rfl
        · rw [hmm, e_Model_parse_41, mR_large, hn2, if_neg b_t]; rfl
    have hM0 : f_Model_ofSign M (0 : Int32) = _ := u1
    have pme := e_Model_parse M
    rw [if_neg n1, hM0, Option.bind_some] at pme
    dsimp only at pme
    cases hk0 : (fit T n p0 s0 && okQ T (n - s0.length) (scN T p0.length (n - s0.length) (decide (0 < g))).1 (scN T p0.length (n - s0.length) (decide (0 < g))).2 e)
    · rw [hk0, ib_f] at rr1
      have hk0' : (fit T n (lst p0 s0 p1 s1 false false) (lst p0 s0 p1 s1 false true) && okQ T (n - (lst p0 s0 p1 s1 false true).length) (scN T (lst p0 s0 p1 s1 false false).length (n - (lst p0 s0 p1 s1 false true).length) (decide (0 < g))).1 (scN T (lst p0 s0 p1 s1 false false).length (n - (lst p0 s0 p1 s1 false true).length) (decide (0 < g))).2 e) = false := hk0
      rw [hk0', if_pos b_f, u3, Option.bind_some] at pme
      dsimp only at pme
      cases hk1 : (fit T n p1 s1 && okQ T (n - s1.length) (scN T p1.length (n - s1.length) (decide (0 < g))).1 (scN T p1.length (n - s1.length) (decide (0 < g))).2 e)
      · have hk1' : (fit T n (lst p0 s0 p1 s1 true false) (lst p0 s0 p1 s1 true true) && okQ T (n - (lst p0 s0 p1 s1 true true).length) (scN T (lst p0 s0 p1 s1 true false).length (n - (lst p0 s0 p1 s1 true true).length) (decide (0 < g))).1 (scN T (lst p0 s0 p1 s1 true false).length (n - (lst p0 s0 p1 s1 true true).length) (decide (0 < g))).2 e) = false := hk1
        rw [hk1, ib_f] at rr2
        rw [hk1', if_pos b_f] at pme
        refine ⟨0, sD_numberReader X nr2, mR M x2 y2 z2, ?_, ?_, ⟨n, hR0⟩, hw, hm, hr, hf, Or.inr ⟨h0, h1, hpat⟩⟩
        · rw [e_Deci_parse, if_neg n0, rr1, rr2, e_NumberReader_read_76, Option.bind_some]; rfl
        · rw [pme]; rfl
      · have hk1' : (fit T n (lst p0 s0 p1 s1 true false) (lst p0 s0 p1 s1 true true) && okQ T (n - (lst p0 s0 p1 s1 true true).length) (scN T (lst p0 s0 p1 s1 true false).length (n - (lst p0 s0 p1 s1 true true).length) (decide (0 < g))).1 (scN T (lst p0 s0 p1 s1 true false).length (n - (lst p0 s0 p1 s1 true true).length) (decide (0 < g))).2 e) = true := hk1
        rw [hk1, ib_t] at rr2
        rw [hk1', if_neg b_t] at pme
        obtain ⟨p', hp'⟩ := r6 hk1
        obtain ⟨w1, w2, w3⟩ := u4 hk1'
        have hfl := fit_l (Bool.and_eq_true_iff.mp hk1).1
        have gg1 := scN_p (T := T) (b := p1.length) (e := n - s1.length) (g := decide (0 < g)) (by omega)
        rw [pm4, pm2, r2] at hp'
        refine done true p1.length (n - s1.length) (scN T p1.length (n - s1.length) (decide (0 < g))).2 _ _ x2 y2 z2 gg1.2.2 (by omega) w1 w2 w3 p' ?_ ?_
        · rw [rr1, rr2, hp']; rfl
        · rw [pme]; rfl
    · rw [hk0, ib_t] at rr1
      have hk0' : (fit T n (lst p0 s0 p1 s1 false false) (lst p0 s0 p1 s1 false true) && okQ T (n - (lst p0 s0 p1 s1 false true).length) (scN T (lst p0 s0 p1 s1 false false).length (n - (lst p0 s0 p1 s1 false true).length) (decide (0 < g))).1 (scN T (lst p0 s0 p1 s1 false false).length (n - (lst p0 s0 p1 s1 false true).length) (decide (0 < g))).2 e) = true := hk0
      rw [hk0', if_neg b_t] at pme
      obtain ⟨p', hp'⟩ := r3 hk0
      obtain ⟨w1, w2, w3⟩ := u2 hk0'
      have hfl := fit_l (Bool.and_eq_true_iff.mp hk0).1
      have gg1 := scN_p (T := T) (b := p0.length) (e := n - s0.length) (g := decide (0 < g)) (by omega)
      rw [pm1, pm3] at hp'
      refine done false p0.length (n - s0.length) (scN T p0.length (n - s0.length) (decide (0 < g))).2 _ _ x1 y1 z1 gg1.2.2 (by omega) w1 w2 w3 p' ?_ ?_
      · rw [rr1, hp']; rfl
      · rw [pme]; rfl
