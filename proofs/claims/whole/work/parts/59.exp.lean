-- writing numbers: the exponent, and the affixes
def wd (m : Nat) : Nat := if m = 0 then 0 else if m ≤ 9 then 1 else 2
def eC (m e : Nat) : Nat := if wd m < e then e else wd m
def exH (e : Nat) : List Nat := if e = 0 then [] else [69]
def exD (m e : Nat) : List Nat := gW m (eC m e) 0 (eC m e)
def exS (e : Nat) (E : Int) : List Nat := if e = 0 then [] else if 0 ≤ E then exD E.natAbs e else 45 :: exD E.natAbs e
theorem wd_le (m : Nat) : wd m ≤ 2 := by
  unfold wd
  split
  · omega
  · split <;> omega
theorem eC_le {m e : Nat} (he : e ≤ 3) : eC m e ≤ 3 := by
  have := wd_le m
  unfold eC
  split <;> omega
theorem wd_ndg {m : Nat} (h : m ≤ 60) : ndg m (wd m) := by
  by_cases c0 : m = 0
  · subst c0
    exact ⟨by decide, fun h => absurd h (by decide)⟩
  · by_cases c1 : m ≤ 9
    · rw [show wd m = 1 from (if_neg c0).trans (if_pos c1)]
      exact ⟨Nat.lt_of_lt_of_le (show m < 10 by omega) (by decide), fun _ => Nat.le_trans (show 10 ^ (1 - 1) ≤ 1 by decide) (by omega)⟩
    · rw [show wd m = 2 from (if_neg c0).trans (if_neg c1)]
      exact ⟨Nat.lt_of_lt_of_le (show m < 100 by omega) (by decide), fun _ => Nat.le_trans (show 10 ^ (2 - 1) ≤ 10 by decide) (by omega)⟩
theorem exH_ok (e : Nat) : okO (exH e) := by
  unfold exH
  split
  · exact okO_nil
  · exact okO_cons (by decide) (by decide) okO_nil
theorem exH_len (e : Nat) : (exH e).length ≤ 1 := by
  unfold exH
  split <;> decide
theorem exD_ok (m e : Nat) : okO (exD m e) := gW_ok _ _ _ _
theorem exD_len {m e : Nat} (he : e ≤ 3) : (exD m e).length ≤ 6 := by
  have h1 := gW_len m (eC m e) 0 (eC m e)
  have h2 := eC_le (m := m) he
  unfold exD
  omega
theorem exS_ok (e : Nat) (E : Int) : okO (exS e E) := by
  unfold exS
  split
  · exact okO_nil
  · split
    · exact exD_ok _ _
    · exact okO_cons (by decide) (by decide) (exD_ok _ _)
theorem exS_len {e : Nat} (he : e ≤ 3) (E : Int) : (exS e E).length ≤ 7 := by
  have := exD_len (m := E.natAbs) he
  unfold exS
  split
  · exact Nat.zero_le _
  · split
    · omega
    · rw [List.length_cons]; omega
theorem abs_c {E : Int} (h1 : -60 ≤ E) (h2 : E ≤ 60) : (if 0 ≤ iI E then iI E else 0 - iI E).toInt64 = lN E.natAbs := by
  by_cases c : 0 ≤ E
  · rw [if_pos ((iI_0le (by omega) (by omega)).mpr c), iI_nat c, show E.toNat = E.natAbs by omega, nI_l (by omega)]
  · rw [if_neg (fun z => c ((iI_0le (by omega) (by omega)).mp z)), show (0 : Int32) = iI 0 from rfl, iI_sub, iI_nat (show 0 ≤ 0 - E by omega), show (0 - E).toNat = E.natAbs by omega, nI_l (by omega)]
theorem c_wE {ng hf : Int32} {ed : Nat → Int32} {D pl e : Nat} {E : Int} {S : T_Shape} (he : S_exponentZeros S = nI e) (he3 : e ≤ 3) (hE1 : -60 ≤ E) (hE2 : E ≤ 60) {v : T_Row} {O : List Nat} (hv : cAff v O) (hO : O.length + 10 ≤ 120) :
    ∃ v', f_NumberWriter_writeExponent (nW ng D pl (iI E) ed hf) S v = some (nW ng D pl (iI E) (upd (upd ed 4 (nI (O ++ exH e).length)) 5 (nI (O ++ exH e ++ exS e E).length)) hf, v') ∧ cAff v' (O ++ exH e ++ exS e E) := by
  have e71 : ∀ (ed : Nat → Int32) (v : T_Row) (O : List Nat), cAff v O → f_NumberWriter_writeExponent_71 S (nW ng D pl (iI E) ed hf) v = some (nW ng D pl (iI E) (upd ed 5 (nI O.length)) hf, v) := by
    intro ed v O hv
    rw [e_NumberWriter_writeExponent_71, show f_Row_size v = _ from congrArg some hv.1, Option.bind_some]; rfl
  have wE : ∀ ed, W_exponent (nW ng D pl (iI E) ed hf) = iI E := fun _ => rfl
  have hn : E.natAbs ≤ 60 := by omega
  have hw2 := wd_le E.natAbs
  have hc3 := eC_le (m := E.natAbs) he3
  have hl6 := exD_len (m := E.natAbs) he3
  have hif : (if nI (wd E.natAbs) < nI e then nI e else nI (wd E.natAbs)) = nI (eC E.natAbs e) := by
    unfold eC
    by_cases c : wd E.natAbs < e
    · rw [if_pos (nI_lt c (by omega)), if_pos c]
    · rw [if_neg (nI_nlt (by omega) (by omega)), if_neg c]
  have e45 : ∀ (ed : Nat → Int32) (v : T_Row) (O : List Nat), cAff v O → O.length + 6 ≤ 120 → ∃ v', f_NumberWriter_writeExponent_45 S (nW ng D pl (iI E) ed hf) v = some (nW ng D pl (iI E) (upd ed 5 (nI (O ++ exD E.natAbs e).length)) hf, v') ∧ cAff v' (O ++ exD E.natAbs e) := by
    intro ed v O hv hO
    obtain ⟨v', q1, q2⟩ := c_wD (V := E.natAbs) (c := eC E.natAbs e) (g := 0) (by omega) (by omega) (by omega) (eC E.natAbs e) FU v O (by rw [FU_val]; omega) (by omega) hv (by unfold exD at hl6; omega)
    refine ⟨v', ?_, q2⟩
    rw [e_NumberWriter_writeExponent_45, wE, abs_c hE1 hE2, c_count (wd_ndg hn) (by omega), Option.bind_some, he, hif, show f_NumberWriter_writeDigits (lN E.natAbs) (nI (eC E.natAbs e)) (0 : Int32) v = some v' from q1, Option.bind_some]
    exact e71 ed v' _ q2
  rw [e_NumberWriter_writeExponent, he]
  by_cases c : e = 0
  · subst c
    rw [if_pos (show nI 0 ≤ 0 by decide), e_NumberWriter_writeExponent_14, show f_Row_size v = _ from congrArg some hv.1, Option.bind_some, he, if_pos (show nI 0 ≤ 0 by decide), show exH 0 = [] from rfl, show exS 0 E = [] from rfl, List.append_nil, List.append_nil]
    exact ⟨v, e71 (upd ed 4 (nI O.length)) v O hv, hv⟩
  · have e14 : ∀ (v : T_Row) (O : List Nat), cAff v O → O.length + 9 ≤ 120 → ∃ v', f_NumberWriter_writeExponent_14 S (nW ng D pl (iI E) ed hf) v = some (nW ng D pl (iI E) (upd (upd ed 4 (nI O.length)) 5 (nI (O ++ exS e E).length)) hf, v') ∧ cAff v' (O ++ exS e E) := by
      intro v O hv hO
      rw [e_NumberWriter_writeExponent_14, show f_Row_size v = _ from congrArg some hv.1, Option.bind_some, he, if_neg (nI_nle (by omega) (by omega)), wE]
      by_cases c1 : 0 ≤ E
      · rw [if_pos ((iI_0le (by omega) (by omega)).mpr c1), show exS e E = exD E.natAbs e from (if_neg c).trans (if_pos c1)]
        exact e45 (upd ed 4 (nI O.length)) v O hv (by omega)
      · obtain ⟨v1, p1, p2⟩ := row_push hv (by omega) (45 : Int32) 45 rfl (by decide)
        obtain ⟨v2, p3, p4⟩ := e45 (upd ed 4 (nI O.length)) v1 _ p2 (by rw [len1]; omega)
        rw [List.append_assoc] at p3 p4
        rw [if_neg (fun z => c1 ((iI_0le (by omega) (by omega)).mp z)), p1, Option.bind_some, show exS e E = 45 :: exD E.natAbs e from (if_neg c).trans (if_neg c1)]
        exact ⟨v2, p3, p4⟩
    obtain ⟨v1, p1, p2⟩ := row_push hv (by omega) (69 : Int32) 69 rfl (by decide)
    rw [if_neg (nI_nle (by omega) (by omega)), p1, Option.bind_some, show exH e = [69] from if_neg c]
    exact e14 v1 _ p2 (by rw [len1]; omega)
-- the reference's digits
def tl (e m : Nat) : List Nat := if e ≤ 1 ∧ m ≤ 9 then [48 + m % 10] else [48 + m / 10 % 10, 48 + m % 10]
theorem gW_0 (V c x : Nat) : gW V c 0 (x + 1) = (48 + V / 10 ^ x % 10) :: gW V c 0 x := by
  show (if 0 < 0 ∧ x + 1 < c ∧ (x + 1) % 0 = 0 then [44] else []) ++ _ = _
  rw [if_neg (fun h => absurd h.1 (by decide)), List.nil_append]
theorem gW_00 (V c : Nat) : gW V c 0 0 = [] := rfl
theorem exD_eq {m e : Nat} (h : m ≤ 60) (h1 : 1 ≤ e) (h3 : e ≤ 3) : exD m e = (if e = 3 then [48 + m / 100] else []) ++ tl e m := by
  have q0 : m / 10 ^ 0 = m := by rw [Nat.pow_zero, Nat.div_one]
  have q1 : m / 10 ^ 1 = m / 10 := rfl
  have q2 : m / 10 ^ 2 % 10 = m / 100 := by
    show m / 100 % 10 = m / 100
    omega
  have hw := wd_le m
  unfold exD
  rcases (by omega : e = 1 ∨ e = 2 ∨ e = 3) with rfl | rfl | rfl
  · rw [if_neg (by decide), List.nil_append]
    by_cases c : m ≤ 9
    · have hC : eC m 1 = 1 := by
        unfold eC wd
        by_cases c0 : m = 0
        · rw [if_pos c0]; rfl
        · rw [if_neg c0, if_pos c]; rfl
      rw [hC, gW_0, gW_00, q0]
      exact (if_pos ⟨by decide, c⟩).symm
    · have hC : eC m 1 = 2 := by
        unfold eC wd
        rw [if_neg (show ¬ m = 0 by omega), if_neg c]; rfl
      rw [hC, gW_0, gW_0, gW_00, q0, q1]
      exact (if_neg (fun z => c z.2)).symm
  · have hC : eC m 2 = 2 := by
      unfold eC
      split <;> omega
    rw [if_neg (by decide), List.nil_append, hC, gW_0, gW_0, gW_00, q0, q1]
    exact (if_neg (fun z => absurd z.1 (by decide))).symm
  · have hC : eC m 3 = 3 := by
      unfold eC
      rw [if_pos (by omega)]
    rw [if_pos rfl, hC, gW_0, gW_0, gW_0, gW_00, q0, q1, q2]
    show _ = (48 + m / 100) :: tl 3 m
    rw [show tl 3 m = [48 + m / 10 % 10, 48 + m % 10] from if_neg (fun z => absurd z.1 (by decide))]
theorem m_wE {M : T_Model} {fm : Int32} {bd dgs : Nat → Int32} {ds pt : Int32} {e : Nat} {E : Int} (hk : M_kept M 4 = nI e) (he3 : e ≤ 3) (hE1 : -60 ≤ E) (hE2 : E ≤ 60) {wr : Nat → Int32} {O : List Nat} (hw : mo wr O) (hO : O.length + 10 ≤ 120) :
    ∃ wr', f_Model_writeExponent (mF M wr (nI O.length) dgs ds pt fm bd) (iI E) = some (mF M wr' (nI (O ++ exH e ++ exS e E).length) dgs ds pt fm (upd (upd bd 4 (nI (O ++ exH e).length)) 5 (nI (O ++ exH e ++ exS e E).length))) ∧ mo wr' (O ++ exH e ++ exS e E) := by
  have k4 : ∀ (wr : Nat → Int32) (en : Int32) (bd : Nat → Int32), M_kept (mF M wr en dgs ds pt fm bd) (4 : Int32).toNatClampNeg = nI e := fun _ _ _ => hk
  have e123 : ∀ (wr : Nat → Int32) (en : Int32) (bd : Nat → Int32), f_Model_writeExponent_123 (mF M wr en dgs ds pt fm bd) = some (mF M wr en dgs ds pt fm (upd bd 5 en)) := fun _ _ _ => rfl
  have hn : E.natAbs ≤ 60 := by omega
  generalize hm : E.natAbs = m at hn
  have r10 : nI m - nI m / 10 * 10 = nI (m % 10) := pk_rem (d := 10) (by omega) (by decide) (by decide)
  have d10 : nI m / 10 = nI (m / 10) := pk_div (d := 10) (by omega) (by decide) (by decide)
  have d100 : nI m / 100 = nI (m / 100) := pk_div (d := 100) (by omega) (by decide) (by decide)
  have r10' : nI (m / 10) - nI (m / 10) / 10 * 10 = nI (m / 10 % 10) := pk_rem (d := 10) (by omega) (by decide) (by decide)
  have e112 : ∀ (bd : Nat → Int32) (wr : Nat → Int32) (O : List Nat), mo wr O → O.length + 1 ≤ 120 → ∃ wr', f_Model_writeExponent_112 (mF M wr (nI O.length) dgs ds pt fm bd) (nI m) = some (mF M wr' (nI (O ++ [48 + m % 10]).length) dgs ds pt fm (upd bd 5 (nI (O ++ [48 + m % 10]).length))) ∧ mo wr' (O ++ [48 + m % 10]) := by
    intro bd wr O hw hO
    obtain ⟨w1, p1, p2⟩ := mF_write (M := M) (dgs := dgs) (ds := ds) (pt := pt) (fm := fm) (bd := bd) hw (by omega) (nI (48 + m % 10)) (48 + m % 10) rfl (by omega)
    refine ⟨w1, ?_, p2⟩
    rw [e_Model_writeExponent_112, r10, show (48 : Int32) + nI (m % 10) = nI (48 + m % 10) from nI_add 48 _, p1, Option.bind_some]
    exact e123 _ _ _
  have e98 : ∀ (bd : Nat → Int32) (wr : Nat → Int32) (O : List Nat), mo wr O → O.length + 2 ≤ 120 → ∃ wr', f_Model_writeExponent_98 (mF M wr (nI O.length) dgs ds pt fm bd) (nI m) = some (mF M wr' (nI (O ++ [48 + m / 10 % 10, 48 + m % 10]).length) dgs ds pt fm (upd bd 5 (nI (O ++ [48 + m / 10 % 10, 48 + m % 10]).length))) ∧ mo wr' (O ++ [48 + m / 10 % 10, 48 + m % 10]) := by
    intro bd wr O hw hO
    obtain ⟨w1, p1, p2⟩ := mF_write (M := M) (dgs := dgs) (ds := ds) (pt := pt) (fm := fm) (bd := bd) hw (by omega) (nI (48 + m / 10 % 10)) (48 + m / 10 % 10) rfl (by omega)
    obtain ⟨w2, p3, p4⟩ := e112 bd w1 _ p2 (by rw [len1]; omega)
    rw [List.append_assoc] at p3 p4
    refine ⟨w2, ?_, p4⟩
    rw [e_Model_writeExponent_98, d10, r10', show (48 : Int32) + nI (m / 10 % 10) = nI (48 + m / 10 % 10) from nI_add 48 _, p1, Option.bind_some]
    exact p3
  by_cases c : e = 0
  · subst c
    rw [e_Model_writeExponent, k4, if_pos (show nI 0 ≤ 0 by decide), e_Model_writeExponent_15, k4, if_pos (show nI 0 ≤ 0 by decide), show exH 0 = [] from rfl, show exS 0 E = [] from rfl, List.append_nil, List.append_nil]
    exact ⟨wr, rfl, hw⟩
  · have e82 : ∀ (bd : Nat → Int32) (wr : Nat → Int32) (O : List Nat), mo wr O → O.length + 2 ≤ 120 → ∃ wr', f_Model_writeExponent_82 (mF M wr (nI O.length) dgs ds pt fm bd) (nI m) = some (mF M wr' (nI (O ++ tl e m).length) dgs ds pt fm (upd bd 5 (nI (O ++ tl e m).length))) ∧ mo wr' (O ++ tl e m) := by
      intro bd wr O hw hO
      rw [e_Model_writeExponent_82, k4]
      by_cases c1 : e ≤ 1
      · rw [if_neg (li_ngt 1 1 rfl c1 (by decide))]
        by_cases c9 : m ≤ 9
        · rw [if_pos (li_ge 9 9 rfl c9 (by decide)), show tl e m = [48 + m % 10] from if_pos ⟨c1, c9⟩]
          exact e112 bd wr O hw (by omega)
        · rw [if_neg (li_nge 9 9 rfl (by omega) (by omega)), show tl e m = [48 + m / 10 % 10, 48 + m % 10] from if_neg (fun z => c9 z.2)]
          exact e98 bd wr O hw hO
      · rw [if_pos (li_gt 1 1 rfl (by omega) (by omega)), show tl e m = [48 + m / 10 % 10, 48 + m % 10] from if_neg (fun z => c1 z.1)]
        exact e98 bd wr O hw hO
    have e55 : ∀ (bd : Nat → Int32) (wr : Nat → Int32) (O : List Nat), mo wr O → O.length + 3 ≤ 120 → ∃ wr', f_Model_writeExponent_55 (mF M wr (nI O.length) dgs ds pt fm bd) (nI m) = some (mF M wr' (nI (O ++ exD m e).length) dgs ds pt fm (upd bd 5 (nI (O ++ exD m e).length))) ∧ mo wr' (O ++ exD m e) := by
      intro bd wr O hw hO
      rw [e_Model_writeExponent_55, k4, exD_eq hn (by omega) he3]
      by_cases c3 : e = 3
      · obtain ⟨w1, p1, p2⟩ := mF_write (M := M) (dgs := dgs) (ds := ds) (pt := pt) (fm := fm) (bd := bd) hw (by omega) (nI (48 + m / 100)) (48 + m / 100) rfl (by omega)
        obtain ⟨w2, p3, p4⟩ := e82 bd w1 _ p2 (by rw [len1]; omega)
        rw [List.append_assoc] at p3 p4
        rw [if_pos (li_gt 2 2 rfl (by omega) (by omega)), e_Model_writeExponent_71, d100, show (48 : Int32) + nI (m / 100) = nI (48 + m / 100) from nI_add 48 _, p1, Option.bind_some, if_pos c3]
        exact ⟨w2, p3, p4⟩
      · rw [if_neg (li_ngt 2 2 rfl (by omega) (by decide)), if_pos (li_ge 99 99 rfl (by omega) (by decide)), if_neg c3, List.nil_append]
        exact e82 bd wr O hw (by omega)
    have e15 : ∀ (wr : Nat → Int32) (O : List Nat), mo wr O → O.length + 4 ≤ 120 → ∃ wr', f_Model_writeExponent_15 (mF M wr (nI O.length) dgs ds pt fm bd) (iI E) = some (mF M wr' (nI (O ++ exS e E).length) dgs ds pt fm (upd (upd bd 4 (nI O.length)) 5 (nI (O ++ exS e E).length))) ∧ mo wr' (O ++ exS e E) := by
      intro wr O hw hO
      rw [e_Model_writeExponent_15, k4, if_neg (nI_nle (by omega) (by omega)), mF_bounds, mF_end, mF_sbounds]
      by_cases c1 : 0 ≤ E
      · have c1' := (iI_0le (a := E) (by omega) (by omega)).mpr c1
        have hi : iI E = nI m := by rw [iI_nat c1, show E.toNat = m by omega]
        rw [if_pos c1', e_Model_writeExponent_44, if_pos c1', show exS e E = exD E.natAbs e from (if_neg c).trans (if_pos c1), hm, hi]
        exact e55 (upd bd 4 (nI O.length)) wr O hw (by omega)
      · have c1' : ¬ 0 ≤ iI E := fun z => c1 ((iI_0le (by omega) (by omega)).mp z)
        have hi : -(iI E) = nI m := by rw [iI_neg, iI_nat (show 0 ≤ -E by omega), show (-E).toNat = m by omega]
        obtain ⟨w1, p1, p2⟩ := mF_write (M := M) (dgs := dgs) (ds := ds) (pt := pt) (fm := fm) (bd := upd bd 4 (nI O.length)) hw (by omega) (45 : Int32) 45 rfl (by decide)
        obtain ⟨w2, p3, p4⟩ := e55 (upd bd 4 (nI O.length)) w1 _ p2 (by rw [len1]; omega)
        rw [List.append_assoc] at p3 p4
        rw [if_neg c1', e_Model_writeExponent_44, if_neg c1', show (4 : Int32).toNatClampNeg = 4 from rfl, p1, Option.bind_some, hi, show exS e E = 45 :: exD E.natAbs e from (if_neg c).trans (if_neg c1), hm]
        exact ⟨w2, p3, p4⟩
    obtain ⟨w1, p1, p2⟩ := mF_write (M := M) (dgs := dgs) (ds := ds) (pt := pt) (fm := fm) (bd := bd) hw (by omega) (69 : Int32) 69 rfl (by decide)
    rw [e_Model_writeExponent, k4, if_neg (nI_nle (by omega) (by omega)), p1, Option.bind_some, show exH e = [69] from if_neg c]
    exact e15 w1 _ p2 (by rw [len1]; omega)
-- affixes
theorem map_ok {l : List Nat} (h : okL l) : okO (l.map sh) := by
  intro c hc
  obtain ⟨x, hx, rfl⟩ := List.mem_map.mp hc
  exact sh_lt (h x hx)
theorem c_show {a : T_Affix} {l : List Nat} (ha : cAff a l) (ho : okL l) {v : T_Row} {O : List Nat} (hv : cAff v O) (hO : O.length + l.length ≤ 120) :
    ∃ v', f_Affix_show a v = some v' ∧ cAff v' (O ++ l.map sh) := by
  have hl := ha.2.1
  have key : ∀ (r m : Nat) (v : T_Row) (O : List Nat), r ≤ l.length → r < m → cAff v O → O.length + r ≤ 120 → ∃ v', f_Affix_show_2 a m v (nI (l.length - r)) = some v' ∧ cAff v' (O ++ (l.drop (l.length - r)).map sh) := by
    intro r
    induction r with
    | zero =>
      intro m v O _ hm hv _
      rw [Nat.sub_zero, List.drop_length, List.map_nil, List.append_nil, show m = (m - 1) + 1 by omega, e_Affix_show_2, ha.1, if_pos (Int32.le_refl _)]
      exact ⟨v, rfl, hv⟩
    | succ r ih =>
      intro m v O hr hm hv hO
      have hi : l.length - (r + 1) < l.length := by omega
      have hd : l.drop (l.length - (r + 1)) = l[l.length - (r + 1)] :: l.drop (l.length - r) := by
        rw [List.drop_eq_getElem_cons hi, show l.length - (r + 1) + 1 = l.length - r by omega]
      have hs := sh_lt (okL_lt ho hi)
      obtain ⟨v1, p1, p2⟩ := row_push hv (by omega) (i2c (nI (sh l[l.length - (r + 1)]))) (sh l[l.length - (r + 1)]) (i2c_n (by omega)) (by omega)
      obtain ⟨v2, p3, p4⟩ := ih (m - 1) v1 (O ++ [sh l[l.length - (r + 1)]]) (by omega) (by omega) p2 (by rw [len1]; omega)
      rw [List.append_assoc] at p4
      rw [show m = (m - 1) + 1 by omega, e_Affix_show_2, ha.1, if_neg (nI_ge hi (by omega)), c_shown ha ho _ hi, Option.bind_some, p1, Option.bind_some, nI_1, show l.length - (r + 1) + 1 = l.length - r by omega, hd]
      exact ⟨v2, p3, p4⟩
  have := key l.length FU v O (Nat.le_refl _) (by rw [FU_val]; omega) hv hO
  rw [Nat.sub_self, List.drop_zero] at this
  exact this
theorem m_wAff {M : T_Model} {p0 s0 p1 s1 : List Nat} (h : mPat M p0 s0 p1 s1) (sg wh : Bool) (l : List Nat) (hl : l = lst p0 s0 p1 s1 sg wh) (ho : okL l) {dgs : Nat → Int32} {ds pt fm : Int32} {bd : Nat → Int32} {wr : Nat → Int32} {O : List Nat} (hw : mo wr O) (hO : O.length + l.length ≤ 120) :
    ∃ wr', f_Model_writeAffix (mF M wr (nI O.length) dgs ds pt fm bd) (bB sg) (bB wh) = some (mF M wr' (nI (O ++ l.map sh).length) dgs ds pt fm bd) ∧ mo wr' (O ++ l.map sh) := by
  have key : ∀ (r m : Nat) (wr : Nat → Int32) (O : List Nat), r ≤ l.length → r < m → mo wr O → O.length + r ≤ 120 → ∃ wr', f_Model_writeAffix_10 m (mF M wr (nI O.length) dgs ds pt fm bd) (bB sg) (bB wh) (nI l.length) (nI (l.length - r)) = some (mF M wr' (nI (O ++ (l.drop (l.length - r)).map sh).length) dgs ds pt fm bd) ∧ mo wr' (O ++ (l.drop (l.length - r)).map sh) := by
    intro r
    induction r with
    | zero =>
      intro m wr O _ hm hw _
      rw [Nat.sub_zero, List.drop_length, List.map_nil, List.append_nil, show m = (m - 1) + 1 by omega, e_Model_writeAffix_10, if_pos (Int32.le_refl _)]
      exact ⟨wr, rfl, hw⟩
    | succ r ih =>
      intro m wr O hr hm hw hO
      have hi : l.length - (r + 1) < l.length := by omega
      have hd : l.drop (l.length - (r + 1)) = l[l.length - (r + 1)] :: l.drop (l.length - r) := by
        rw [List.drop_eq_getElem_cons hi, show l.length - (r + 1) + 1 = l.length - r by omega]
      have hs := sh_lt (okL_lt ho hi)
      have hsh : f_Model_shown (mF M wr (nI O.length) dgs ds pt fm bd) (bB sg) (bB wh) (nI (l.length - (r + 1))) = some (nI (sh l[l.length - (r + 1)])) := by
        subst hl
        exact m_shown (M := mF M wr (nI O.length) dgs ds pt fm bd) h sg wh _ hi
      obtain ⟨v1, p1, p2⟩ := mF_write (M := M) (dgs := dgs) (ds := ds) (pt := pt) (fm := fm) (bd := bd) hw (by omega) (nI (sh l[l.length - (r + 1)])) (sh l[l.length - (r + 1)]) rfl (by omega)
      obtain ⟨v2, p3, p4⟩ := ih (m - 1) v1 (O ++ [sh l[l.length - (r + 1)]]) (by omega) (by omega) p2 (by rw [len1]; omega)
      rw [List.append_assoc] at p3 p4
      rw [show m = (m - 1) + 1 by omega, e_Model_writeAffix_10, if_neg (nI_ge hi (by omega)), hsh, Option.bind_some, p1, Option.bind_some, nI_1, show l.length - (r + 1) + 1 = l.length - r by omega, hd]
      exact ⟨v2, p3, p4⟩
  have hlen : f_Model_shownLength (mF M wr (nI O.length) dgs ds pt fm bd) (bB sg) (bB wh) = some (nI l.length) := by
    subst hl
    exact m_shownLen (M := mF M wr (nI O.length) dgs ds pt fm bd) h sg wh
  have := key l.length FU wr O (Nat.le_refl _) (by rw [FU_val]; omega) hw hO
  rw [Nat.sub_self, List.drop_zero] at this
  rw [e_Model_writeAffix, hlen, Option.bind_some]
  exact this
