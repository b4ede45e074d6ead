-- writing numbers: all of it
def wrC (v0 : T_NumberWriter) (S : T_Shape) (pa sa : T_Affix) (v2 : T_Row) : Option (T_NumberWriter × T_Row) := (f_Row_clear v2).bind (fun o32 => (f_Affix_show pa o32).bind (fun o40 => (f_NumberWriter_writeInteger v0 S o40).bind (fun o47 => (f_NumberWriter_writeFraction o47.1 S o47.2).bind (fun o54 => (f_NumberWriter_writeExponent o54.1 S o54.2).bind (fun o61 => (f_Affix_show sa o61.2).bind (fun o69 => some ((sW_hasFields o61.1 (1 : Int32)), o69)))))))
theorem wrC_21 (P : T_Pattern) (W : T_NumberWriter) (v : T_Row) : f_NumberWriter_write_21 P W v = wrC W (Q_shape (P_first P)) (Q_prefix (P_first P)) (Q_suffix (P_first P)) v := rfl
theorem wrC_211 (P : T_Pattern) (W : T_NumberWriter) (v : T_Row) : f_NumberWriter_write_21_1 P W v = wrC W (Q_shape (P_first P)) (Q_prefix (P_second P)) (Q_suffix (P_second P)) v := rfl
theorem c_below {E hf : Int32} {ed : Nat → Int32} {D pl : Nat} (neg : Bool) (hD : D < 2 ^ 63) : f_Decimal_isBelowZero (W_decimal (nW (bB neg) D pl E ed hf)) = some (bB (neg && !decide (D = 0))) := by
  rw [e_Decimal_isBelowZero, show C_negative (W_decimal (nW (bB neg) D pl E ed hf)) = bB neg from rfl, show C_digits (W_decimal (nW (bB neg) D pl E ed hf)) = lN D from rfl]
  cases neg
  · rw [if_pos b_f]; rfl
  · rw [if_neg b_t]
    by_cases c : D = 0
    · rw [if_pos ((lc_0 hD 0 0 rfl (by decide)).mpr c), decide_eq_true c]; rfl
    · rw [if_neg (fun z => c ((lc_0 hD 0 0 rfl (by decide)).mp z)), decide_eq_false c]; rfl
theorem pR_z {dgs : Nat → Int32} {N L D pl : Nat} {P : Int} (h : pR dgs N L P D pl) : (L = 0 → D = 0) ∧ (¬ L = 0 → 0 < N ∧ ¬ D = 0) := by
  obtain ⟨hr, -, -, -, -, -, hrel⟩ := h
  refine ⟨fun c => ?_, fun c => ?_⟩
  · subst c
    have := rep_z hr
    rcases hrel with ⟨-, h⟩ | ⟨h, -⟩
    · exact h
    · omega
  · have hN := rep_pos hr (by omega)
    refine ⟨hN, fun hD => ?_⟩
    rcases hrel with ⟨h, -⟩ | ⟨-, A, B, hE, -⟩
    · omega
    · rw [hD, Nat.zero_mul] at hE
      have := Nat.mul_pos hN (p0 B)
      omega
theorem m_181 {M : T_Model} {wr : Nat → Int32} {en fm x6 : Int32} {bd dgs : Nat → Int32} {N L D pl : Nat} {P : Int} (h : pR dgs N L P D pl) (neg : Bool) : f_Model_format_181 (mF M wr en dgs (nI L) (iI P) fm bd) (bB neg) x6 = f_Model_format_198 (mF M wr en dgs (nI L) (iI P) fm bd) x6 (bB (neg && !decide (D = 0))) := by
  have hz := pR_z h
  have hL := h.2.1
  rw [e_Model_format_181, mF_digits, e_Model_format_197]
  cases neg
  · rw [if_pos b_f]; rfl
  · rw [if_neg b_t]
    by_cases c : L = 0
    · rw [if_pos (show nI L ≤ 0 by rw [c]; decide), decide_eq_true (hz.1 c)]; rfl
    · rw [if_neg (nI_nle (by omega) (by omega)), decide_eq_false (hz.2 c).2]; rfl
theorem dot_len (n : Nat) : (dot n).length ≤ 1 := by
  unfold dot
  split <;> decide
theorem dot_ok (n : Nat) : okO (dot n) := by
  unfold dot
  split
  · exact okO_nil
  · exact okO_cons (by decide) (by decide) okO_nil
def up6 (f : Nat → Int32) (x0 x1 x2 x3 x4 x5 : Int32) : Nat → Int32 := upd (upd (upd (upd (upd (upd f 0 x0) 1 x1) 2 x2) 3 x3) 4 x4) 5 x5
theorem up6_eq (f g : Nat → Int32) (x0 x1 x2 x3 x4 x5 : Int32) (i : Nat) (hi : i < 6) : up6 f x0 x1 x2 x3 x4 x5 i = up6 g x0 x1 x2 x3 x4 x5 i := by
  rcases (by omega : i = 0 ∨ i = 1 ∨ i = 2 ∨ i = 3 ∨ i = 4 ∨ i = 5) with rfl | rfl | rfl | rfl | rfl | rfl <;> rfl
theorem wr_all {M : T_Model} {S : T_Shape} {p0 s0 p1 s1 : List Nat} {z a b g e : Nat} (hmp : mPat M p0 s0 p1 s1) (hS : iShape S (M_kept M) z a b g e) (sg : Bool) (pre suf : List Nat) (hpre : pre = lst p0 s0 p1 s1 sg false) (hsuf : suf = lst p0 s0 p1 s1 sg true) {pa sa : T_Affix} (hp : cAff pa pre) (hs : cAff sa suf) (op : okL pre) (os : okL suf) (hlen : pre.length + suf.length ≤ 40)
    {dgs : Nat → Int32} {N L D pl : Nat} {P : Int} (hR : pR dgs N L P D pl) {E : Int} (hE1 : -60 ≤ E) (hE2 : E ≤ 60) (ng hf : Int32) (ed : Nat → Int32) (v : T_Row) (wr : Nat → Int32) (en fm : Int32) (bd : Nat → Int32) :
    ∃ (v' : T_Row) (wr' : Nat → Int32) (O : List Nat) (x0 x1 x2 x3 x4 x5 : Int32), wrC (nW ng D pl (iI E) ed hf) S pa sa v = some (nW ng D pl (iI E) (up6 ed x0 x1 x2 x3 x4 x5) 1, v') ∧ f_Model_format_198 (mF M wr en dgs (nI L) (iI P) fm bd) (iI E) (bB sg) = some (nI O.length, mF M wr' (nI O.length) dgs (nI L) (iI P) 1 (up6 bd x0 x1 x2 x3 x4 x5)) ∧ cAff v' O ∧ mo wr' O ∧ okO O := by
  obtain ⟨⟨z1, z2⟩, ⟨a1, a2⟩, -, ⟨g1, g2⟩, ⟨e1, e2⟩, hz, hab, hb, hg, he, -⟩ := hS
  have hZ := pR_z hR
  have hR' := hR
  obtain ⟨hr, hL, hpl, hD17, hP1, hP2, -⟩ := hR'
  have ha9 : a ≤ 9 := by omega
  have hD : D < 2 ^ 63 := Nat.lt_of_le_of_lt hD17 (by decide)
  obtain ⟨n, hn⟩ : ∃ n, n = shF (fcM (fd D pl) pl) a := ⟨_, rfl⟩
  have hn9 : n ≤ 9 := by
    have := fcM_le (fd D pl) pl
    rw [hn]
    unfold shF
    split <;> omega
  obtain ⟨w0, hw0⟩ : ∃ w0, w0 = if L = 0 then 0 else P.toNat := ⟨_, rfl⟩
  have hnd : ndg (D / 10 ^ pl) w0 := by
    by_cases c : L = 0
    · rw [hw0, if_pos c, hZ.1 c, Nat.zero_div]
      exact ⟨by decide, fun h => absurd h (by decide)⟩
    · rw [hw0, if_neg c]
      exact pR_cnt hR (hZ.2 c).1
  have hw18 : w0 ≤ 18 := by
    rcases Nat.eq_zero_or_pos w0 with c | c
    · omega
    · have h1 := hnd.2 c
      have h2 : D / 10 ^ pl ≤ D := Nat.div_le_self _ _
      have h3 : 10 ^ (w0 - 1) < 10 ^ 18 := Nat.lt_of_le_of_lt (Nat.le_trans h1 (Nat.le_trans h2 hD17)) (by decide)
      have := plt h3
      omega
  have hdw : ∀ x : Nat, 1 ≤ x → (if L = 0 then 0 else pdg N L (P - x)) = D / 10 ^ pl / 10 ^ (x - 1) % 10 := by
    intro x hx
    by_cases c : L = 0
    · rw [if_pos c, hZ.1 c, Nat.zero_div, Nat.zero_div]
    · rw [if_neg c]
      exact pd_whole hR (hZ.2 c).1 x hx
  have hdf : ∀ i : Nat, (if L = 0 then 0 else pdg N L (P + i)) = fd D pl i := by
    intro i
    by_cases c : L = 0
    · rw [if_pos c, hZ.1 c]
      unfold fd
      split
      · rfl
      · rw [Nat.zero_div]
    · rw [if_neg c]
      exact pd_frac hR (hZ.2 c).1 i
  have hfc : fcM (fd D pl) 9 = fcM (fd D pl) pl := by
    have := fcM_ext (D := D) (pl := pl) (9 - pl)
    rw [show pl + (9 - pl) = 9 by omega] at this
    exact this
  have hcn : cntI w0 z n ≤ 18 := cntI_le hw18 (by omega) (by omega)
  have lG := gW_len (D / 10 ^ pl) (cntI w0 z n) g (cntI w0 z n)
  have kG := gW_ok (D / 10 ^ pl) (cntI w0 z n) g (cntI w0 z n)
  have lF := gF_len (fd D pl) n n
  have kF := gF_ok (d := fd D pl) (fd_9 D pl) n n
  have lD := dot_len n
  have lH := exH_len e
  have lS := exS_len he E
  have nl : ([] : List Nat).length = 0 := rfl
  have hc0 : cAff (v.1, (0 : Int32)) [] := ⟨rfl, by decide, fun i hi => absurd hi (Nat.not_lt_zero i)⟩
  have hm0 : mo wr [] := fun i hi => absurd hi (Nat.not_lt_zero i)
  obtain ⟨v1, c1, c2⟩ := c_show hp op hc0 (by omega)
  obtain ⟨w1, d1, d2⟩ := m_wAff hmp sg false pre hpre op (dgs := dgs) (ds := nI L) (pt := iI P) (fm := 1) (bd := bd) hm0 (by omega)
  rw [List.nil_append] at c2 d1 d2
  have l1 : (pre.map sh).length = pre.length := List.length_map _
  obtain ⟨v2, c3, c4⟩ := c_wInt (ng := ng) (E := iI E) (hf := hf) (ed := ed) (S := S) hD (by omega) z1 hz a1 ha9 g1 hg hnd hw18 hn c2 (by omega)
  obtain ⟨w2, d3, d4⟩ := m_wInt (M := M) (fm := 1) (bd := bd) (n := n) hR z2 hz g2 hg (by omega) hw0 hw18 hdw d2 (by omega)
  have l2 : (pre.map sh ++ gW (D / 10 ^ pl) (cntI w0 z n) g (cntI w0 z n)).length ≤ pre.length + 36 := by rw [List.length_append]; omega
  have k2 : okO (pre.map sh ++ gW (D / 10 ^ pl) (cntI w0 z n) g (cntI w0 z n)) := okO_app (map_ok op) kG
  generalize pre.map sh ++ gW (D / 10 ^ pl) (cntI w0 z n) g (cntI w0 z n) = O2 at c3 c4 d3 d4 l2 k2
  obtain ⟨v3, c5, c6⟩ := c_wFr (ng := ng) (E := iI E) (hf := hf) (ed := upd (upd ed 0 (nI (pre.map sh).length)) 1 (nI O2.length)) (S := S) hD hpl a1 ha9 hn c4 (by omega)
  obtain ⟨w3, d5, d6⟩ := m_wFr (M := M) (fm := 1) (bd := upd (upd bd 0 (nI (pre.map sh).length)) 1 (nI O2.length)) (n := n) hr hL P hP1 hP2 hn9 (fd_9 D pl) hdf d4 (by omega)
  have l3 : (O2 ++ dot n ++ gF (fd D pl) n n).length ≤ pre.length + 46 := by rw [List.length_append, List.length_append]; omega
  have k3 : okO (O2 ++ dot n ++ gF (fd D pl) n n) := okO_app (okO_app k2 (dot_ok n)) kF
  generalize O2 ++ dot n ++ gF (fd D pl) n n = O3 at c5 c6 d5 d6 l3 k3
  obtain ⟨v4, c7, c8⟩ := c_wE (ng := ng) (hf := hf) (ed := upd (upd (upd (upd ed 0 (nI (pre.map sh).length)) 1 (nI O2.length)) 2 (nI (O2 ++ dot n).length)) 3 (nI O3.length)) (D := D) (pl := pl) (S := S) e1 he hE1 hE2 c6 (by omega)
  obtain ⟨w4, d7, d8⟩ := m_wE (M := M) (fm := 1) (bd := upd (upd (upd (upd bd 0 (nI (pre.map sh).length)) 1 (nI O2.length)) 2 (nI (O2 ++ dot n).length)) 3 (nI O3.length)) (dgs := dgs) (ds := nI L) (pt := iI P) e2 he hE1 hE2 d6 (by omega)
  have l4 : (O3 ++ exH e ++ exS e E).length ≤ pre.length + 54 := by rw [List.length_append, List.length_append]; omega
  have k4 : okO (O3 ++ exH e ++ exS e E) := okO_app (okO_app k3 (exH_ok e)) (exS_ok e E)
  generalize O3 ++ exH e ++ exS e E = O4 at c7 c8 d7 d8 l4 k4
  obtain ⟨v5, c9, c10⟩ := c_show hs os c8 (by omega)
  obtain ⟨w5, d9, d10⟩ := m_wAff hmp sg true suf hsuf os (dgs := dgs) (ds := nI L) (pt := iI P) (fm := 1) (bd := upd (upd (upd (upd (upd (upd bd 0 (nI (pre.map sh).length)) 1 (nI O2.length)) 2 (nI (O2 ++ dot n).length)) 3 (nI O3.length)) 4 (nI (O3 ++ exH e).length)) 5 (nI O4.length)) d8 (by omega)
  refine ⟨v5, w5, O4 ++ suf.map sh, nI (pre.map sh).length, nI O2.length, nI (O2 ++ dot n).length, nI O3.length, nI (O3 ++ exH e).length, nI O4.length, ?_, ?_, c10, d10, okO_app k4 (map_ok os)⟩
  · unfold wrC
    rw [e_Row_clear, Option.bind_some, c1, Option.bind_some, c3, Option.bind_some]
    dsimp only
    rw [c5, Option.bind_some]
    dsimp only
    rw [c7, Option.bind_some]
    dsimp only
    rw [c9, Option.bind_some]
    rfl
  · have hM0 : sM_formatted (sM_end (mF M wr en dgs (nI L) (iI P) fm bd) (0 : Int32)) (1 : Int32) = mF M wr (nI ([] : List Nat).length) dgs (nI L) (iI P) 1 bd := rfl
    have d1' : f_Model_writeAffix (mF M wr (nI ([] : List Nat).length) dgs (nI L) (iI P) 1 bd) (bB sg) (0 : Int32) = some (mF M w1 (nI (pre.map sh).length) dgs (nI L) (iI P) 1 bd) := d1
    have d9' : f_Model_writeAffix (mF M w4 (nI O4.length) dgs (nI L) (iI P) 1 (upd (upd (upd (upd (upd (upd bd 0 (nI (pre.map sh).length)) 1 (nI O2.length)) 2 (nI (O2 ++ dot n).length)) 3 (nI O3.length)) 4 (nI (O3 ++ exH e).length)) 5 (nI O4.length))) (bB sg) (1 : Int32) = some (mF M w5 (nI (O4 ++ suf.map sh).length) dgs (nI L) (iI P) 1 (upd (upd (upd (upd (upd (upd bd 0 (nI (pre.map sh).length)) 1 (nI O2.length)) 2 (nI (O2 ++ dot n).length)) 3 (nI O3.length)) 4 (nI (O3 ++ exH e).length)) 5 (nI O4.length))) := d9
    rw [e_Model_format_198, hM0, d1', Option.bind_some, m_sf hr hL P hP1 hP2 a2 ha9 (fd D pl) hdf, hfc, ← hn, Option.bind_some, d3, Option.bind_some, d5, Option.bind_some, d7, Option.bind_some, d9', Option.bind_some]
    rfl
theorem op_format : Op_format Inv := by
  intro X M v x hI
  obtain ⟨ht, hw, hm, hr, hf, hp⟩ := hI
  rcases hp with ⟨h0, h1⟩ | ⟨h0, h1, hpat⟩
  · refine ⟨-1, X, M, ?_, ?_, ht, hw, hm, hr, hf, Or.inl ⟨h0, h1⟩⟩
    · rw [e_Deci_format, if_pos h0]
    · rw [e_Model_format, if_pos h1]
  have n0 : ¬ D_hasPattern X = 0 := by rw [h0]; decide
  have n1 : ¬ M_there M = 0 := by rw [h1]; decide
  rw [e_Deci_format, if_neg n0, e_Model_format, if_neg n1]
  by_cases r1 : lg_cmp v (-999999999999999 : Int64) < 0
  · rw [if_pos r1, if_pos r1]
    exact ⟨-2, X, M, rfl, rfl, ht, hw, hm, hr, hf, Or.inr ⟨h0, h1, hpat⟩⟩
  rw [if_neg r1, if_neg r1]
  by_cases r2 : 0 < lg_cmp v (999999999999999 : Int64)
  · rw [if_pos r2, if_pos r2]
    exact ⟨-2, X, M, rfl, rfl, ht, hw, hm, hr, hf, Or.inr ⟨h0, h1, hpat⟩⟩
  rw [if_neg r2, if_neg r2]
  by_cases r3 : x < 0
  · rw [if_pos r3, if_pos r3]
    exact ⟨-2, X, M, rfl, rfl, ht, hw, hm, hr, hf, Or.inr ⟨h0, h1, hpat⟩⟩
  rw [if_neg r3, if_neg r3]
  by_cases r4 : x ≤ 9
  case neg =>
    rw [if_neg r4, if_neg r4]
    exact ⟨-2, X, M, rfl, rfl, ht, hw, hm, hr, hf, Or.inr ⟨h0, h1, hpat⟩⟩
  rw [if_pos r4, if_pos r4]
  obtain ⟨sc, hsc, rfl⟩ := nI_of2 (M := 9) (n := 9) (by decide) r3 r4
  rw [lg_cmp_lt, Int64.lt_iff_toInt_lt, show (-999999999999999 : Int64).toInt = -999999999999999 by decide] at r1
  rw [lg_cmp_gt, Int64.lt_iff_toInt_lt, show (999999999999999 : Int64).toInt = 999999999999999 by decide] at r2
  -- the number's sign and its digits
  have hsplit : ∃ (neg : Bool) (n : Nat), (neg = true → 0 < n) ∧ n ≤ 999999999999999 ∧ v = (if neg = true then -(lN n) else lN n) ∧ (if 0 ≤ lg_cmp v (0 : Int64) then f_Model_format_49 M v (nI sc) (0 : Int32) else f_Model_format_49 M v (nI sc) (1 : Int32)) = f_Model_format_63 M (nI sc) (bB neg) (lN n) := by
    by_cases c : 0 ≤ lg_cmp v (0 : Int64)
    · have c' := c
      rw [lg_cmp_ge, Int64.le_iff_toInt_le, show (0 : Int64).toInt = 0 from rfl] at c'
      have hv : v = lN v.toInt.toNat := by
        apply Int64.toInt_inj.mp
        rw [lN_I (by omega)]
        omega
      refine ⟨false, v.toInt.toNat, (fun h => by cases h), by omega, by rw [ib_f]; exact hv, ?_⟩
      rw [if_pos c, e_Model_format_49, if_pos (show (0 : Int32) = 0 from rfl), ← hv]; rfl
    · have c' := c
      rw [lg_cmp_ge, Int64.le_iff_toInt_le, show (0 : Int64).toInt = 0 from rfl] at c'
      have hv : v = -(lN (-v.toInt).toNat) := by
        apply Int64.toInt_inj.mp
        rw [Int64.toInt_neg, lN_I (by omega)]
        refine Eq.trans ?_ (Int.bmod_eq_of_le (by omega) (by omega)).symm
        omega
      have hv2 : -v = lN (-v.toInt).toNat := (congrArg (fun q => -q) hv).trans Int64.neg_neg
      refine ⟨true, (-v.toInt).toNat, (fun _ => by omega), by omega, by rw [ib_t]; exact hv, ?_⟩
      rw [if_neg c, e_Model_format_49, if_neg (show ¬ (1 : Int32) = 0 by decide), hv2]; rfl
  obtain ⟨neg, n, hn0, hn, hv, href⟩ := hsplit
  rw [href]
  clear href r1 r2 r3 r4
  obtain ⟨j, hj7, hj1, hj2⟩ := id hm
  obtain ⟨p0, s0, p1, s1, z, a, b, g, e, a0, a1, a2, a3, m0, m1, o0, o1, o2, o3, hsec, hpct, hS⟩ := id hpat
  have q0 : cAff (Q_prefix (P_first (D_pattern X))) p0 := a0
  have q1 : cAff (Q_suffix (P_first (D_pattern X))) s0 := a1
  have q2 : cAff (Q_prefix (P_second (D_pattern X))) p1 := a2
  have q3 : cAff (Q_suffix (P_second (D_pattern X))) s1 := a3
  have qS : iShape (Q_shape (P_first (D_pattern X))) (M_kept M) z a b g e := hS
  have hmp : mPat M p0 s0 p1 s1 := by
    refine ⟨m0, m1, o0, o1, o2, o3, ?_⟩
    rcases hsec with ⟨-, y2, y3, y4, -⟩ | ⟨-, y2, y3, y4, -⟩
    · exact Or.inl ⟨y2, y3, y4⟩
    · exact Or.inr ⟨y2, y3, y4⟩
  have len0 : p0.length + s0.length ≤ 40 := by rcases hsec with ⟨-, -, -, -, h⟩ | ⟨-, -, -, -, h⟩ <;> omega
  have len1' : p1.length + s1.length ≤ 40 := by
    rcases hsec with ⟨-, -, -, -, h⟩ | ⟨-, -, y3, y4, h⟩
    · omega
    · rw [y3, y4, List.length_cons]; omega
  -- percent
  have hper : ∃ N : Nat, N < 10 ^ 17 ∧ (neg = true → 0 < N) ∧ lN n * (M_kept M 5).toInt64 = lN N ∧ (if P_hasPercent (D_pattern X) = 0 then f_Deci_format_57 X (nI sc) v else f_Deci_format_57 X (nI sc) (v * (100 : Int64))) = f_Deci_format_57 X (nI sc) (if neg = true then -(lN N) else lN N) := by
    rcases hpct with ⟨u1, u2⟩ | ⟨u1, u2⟩
    · refine ⟨n * 100, Nat.lt_of_le_of_lt (Nat.mul_le_mul_right 100 hn) (by decide), fun h => Nat.mul_pos (hn0 h) (by decide), ?_, ?_⟩
      · rw [u2, show (100 : Int32).toInt64 = lN 100 by decide]; exact lN_mul n 100
      · rw [if_neg (show ¬ P_hasPercent (D_pattern X) = 0 by rw [u1]; decide), ← lN_mul, hv]
        cases neg
        · rw [ib_f, ib_f]; rfl
        · rw [ib_t, ib_t, Int64.neg_mul]; rfl
    · refine ⟨n, Nat.lt_of_le_of_lt hn (by decide), hn0, ?_, ?_⟩
      · rw [u2, show (1 : Int32).toInt64 = lN 1 by decide, lN_mul, Nat.mul_one]
      · rw [if_pos u1, ← hv]
  obtain ⟨N, hN, hneg, hs1, hcl⟩ := hper
  rw [hcl]
  clear hcl
  have hprep := prep (W := D_numberWriter X) qS hj2 hj7 hN neg hneg hsc _ rfl (lN n) hs1
  rw [e_Deci_format_57, hj1]
  rcases hprep with ⟨W', c1, c2, c3, dgs', ds', pt', c4⟩ | ⟨D, pl, Ez, dgs', N', L', P', c1, c2, hR, hE1, hE2⟩
  · rw [c1, Option.bind_some]
    dsimp only
    rw [if_pos (show (0 : Int32) = 0 from rfl)]
    have hf' : (W_hasFields W' = 0 ∧ M_formatted M = 0) ∨ (W_hasFields W' = 1 ∧ M_formatted M = 1 ∧ ∀ i, i < 6 → W_edges W' i = M_bounds M i) := by
      rw [c2, c3]; exact hf
    exact ⟨-3, sD_numberWriter X W', _, rfl, c4, ht, hw, hm, hr, hf', Or.inr ⟨h0, h1, hpat⟩⟩
  · have hD : D < 2 ^ 63 := Nat.lt_of_le_of_lt hR.2.2.2.1 (by decide)
    rw [c1, Option.bind_some]
    dsimp only
    rw [if_neg (show ¬ (1 : Int32) = 0 by decide), e_NumberWriter_write, c_below neg hD, Option.bind_some, c2, m_181 hR neg]
    have fin : ∀ (W2 : T_NumberWriter) (v' : T_Row) (wr' : Nat → Int32) (O : List Nat) (x0 x1 x2 x3 x4 x5 : Int32), W2 = nW (bB neg) D pl (iI Ez) (up6 (W_edges (D_numberWriter X)) x0 x1 x2 x3 x4 x5) 1 → cAff v' O → mo wr' O → okO O → Inv (sD_numberWriter (sD_written X v') W2) (mF M wr' (nI O.length) dgs' (nI L') (iI P') 1 (up6 (M_bounds M) x0 x1 x2 x3 x4 x5)) := by
      intro W2 v' wr' O x0 x1 x2 x3 x4 x5 hW hv' hwr hO
      subst hW
      exact ⟨ht, ⟨O.length, iTxt_of hv' hwr hO⟩, hm, hr, Or.inr ⟨rfl, rfl, fun i hi => up6_eq _ _ x0 x1 x2 x3 x4 x5 i hi⟩, Or.inr ⟨h0, h1, hpat⟩⟩
    cases hsg : (neg && !decide (D = 0))
    · obtain ⟨v', wr', O, x0, x1, x2, x3, x4, x5, k1, k2, k3, k4, k5⟩ := wr_all hmp qS false p0 s0 rfl rfl q0 q1 o0 o1 len0 hR hE1 hE2 (bB neg) (W_hasFields (D_numberWriter X)) (W_edges (D_numberWriter X)) (D_written X) (M_written M) (M_end M) (M_formatted M) (M_bounds M)
      rw [if_pos b_f, wrC_21, k1, Option.bind_some]
      dsimp only
      rw [show f_Row_size v' = some (nI O.length) from congrArg some k3.1, Option.bind_some]
      exact ⟨_, _, _, rfl, k2, fin _ v' wr' O x0 x1 x2 x3 x4 x5 rfl k3 k4 k5⟩
    · obtain ⟨v', wr', O, x0, x1, x2, x3, x4, x5, k1, k2, k3, k4, k5⟩ := wr_all hmp qS true p1 s1 rfl rfl q2 q3 o2 o3 len1' hR hE1 hE2 (bB neg) (W_hasFields (D_numberWriter X)) (W_edges (D_numberWriter X)) (D_written X) (M_written M) (M_end M) (M_formatted M) (M_bounds M)
      rw [if_neg b_t, wrC_211, k1, Option.bind_some]
      dsimp only
      rw [show f_Row_size v' = some (nI O.length) from congrArg some k3.1, Option.bind_some]
      exact ⟨_, _, _, rfl, k2, fin _ v' wr' O x0 x1 x2 x3 x4 x5 rfl k3 k4 k5⟩
