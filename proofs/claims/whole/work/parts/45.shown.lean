-- affixes as they are shown, on both sides
def mPat (M : T_Model) (p0 s0 p1 s1 : List Nat) : Prop := mAff (M_element M) (M_elements M) 0 p0 ∧ mAff (M_element M) (M_elements M) 1 s0 ∧ okL p0 ∧ okL s0 ∧ okL p1 ∧ okL s1 ∧
  ((M_kept M 6 = 1 ∧ mAff (M_element M) (M_elements M) 2 p1 ∧ mAff (M_element M) (M_elements M) 3 s1) ∨ (M_kept M 6 = 0 ∧ p1 = 45 :: p0 ∧ s1 = s0))
def lst (p0 s0 p1 s1 : List Nat) (sg wh : Bool) : List Nat := match sg, wh with
  | false, false => p0
  | false, true => s0
  | true, false => p1
  | true, true => s1
theorem m_s40 {M : T_Model} {j : Nat} {l : List Nat} (hj : j < 4) (h : mAff (M_element M) (M_elements M) j l) (ho : okL l) (x : Int32) (hx : x = nI j) (i : Nat) (hi : i < l.length) : f_Model_shown_40 M x (nI i) = some (nI (sh l[i])) := by
  subst hx
  obtain ⟨h1, h2, h3⟩ := h
  have o1 := okL_lt ho hi
  have q : (40 : Int32) * nI j + nI i = nI (40 * j + i) := by rw [show (40 : Int32) * nI j = nI (40 * j) from pk_mul 40 j, nI_add]
  rw [e_Model_shown_40, if_pos (nI_pos' (by omega)), q, if_pos (ixN (by omega) (by decide)), nI_clamp (by omega), h3 i hi]
  unfold sh
  by_cases c : l[i] = 256
  · rw [if_pos (show nI (toM l[i]) = 200 by rw [c]; rfl), if_pos c]; rfl
  · rw [show toM l[i] = l[i] from if_neg c, if_neg (nI_nel 200 200 rfl (by omega) (by decide) (by omega)), if_neg c]; rfl
theorem m_bor0 {M : T_Model} : f_Model_borrowed M (bB false) = some (bB false) := by
  rw [e_Model_borrowed, if_pos b_f]; rfl
theorem m_bor1 {M : T_Model} (h : M_kept M 6 = 1) : f_Model_borrowed M (bB true) = some (bB false) := by
  rw [e_Model_borrowed, if_neg b_t, if_neg (show ¬ M_kept M (6 : Int32).toNatClampNeg = 0 by rw [show (6 : Int32).toNatClampNeg = 6 from rfl, h]; decide)]; rfl
theorem m_bor2 {M : T_Model} (h : M_kept M 6 = 0) : f_Model_borrowed M (bB true) = some (bB true) := by
  rw [e_Model_borrowed, if_neg b_t, if_pos (show M_kept M (6 : Int32).toNatClampNeg = 0 from h)]; rfl
theorem m_sl40 {M : T_Model} {j : Nat} {l : List Nat} (hj : j < 4) (h : mAff (M_element M) (M_elements M) j l) (x : Int32) (hx : x = nI j) : f_Model_shownLength_40 M x = some (nI l.length) := by
  subst hx
  rw [e_Model_shownLength_40, if_pos (ixN hj (by decide)), nI_clamp (by omega), h.1]
theorem m_shownLen {M : T_Model} {p0 s0 p1 s1 : List Nat} (h : mPat M p0 s0 p1 s1) (sg wh : Bool) : f_Model_shownLength M (bB sg) (bB wh) = some (nI (lst p0 s0 p1 s1 sg wh).length) := by
  obtain ⟨h0, h1, -, -, -, -, h2⟩ := h
  rw [e_Model_shownLength]
  cases sg
  · rw [m_bor0, Option.bind_some, if_pos b_f, if_pos b_f]
    cases wh
    · exact m_sl40 (by omega) h0 _ rfl
    · exact m_sl40 (by omega) h1 _ rfl
  · rcases h2 with ⟨k, h2, h3⟩ | ⟨k, rfl, rfl⟩
    · rw [m_bor1 k, Option.bind_some, if_pos b_f, if_neg b_t]
      cases wh
      · exact m_sl40 (by omega) h2 _ rfl
      · exact m_sl40 (by omega) h3 _ rfl
    · rw [m_bor2 k, Option.bind_some, if_neg b_t]
      cases wh
      · rw [if_pos (show ix (bB false) 4 from ixN (n := 0) (by omega) (by decide)), if_pos b_f, e_Model_shownLength_23, show M_elements M (bB false).toNatClampNeg = nI p0.length from h0.1, nI_1]
        rfl
      · rw [if_pos (show ix (bB true) 4 from ixN (n := 1) (by omega) (by decide)), if_neg b_t, e_Model_shownLength_23, show M_elements M (bB true).toNatClampNeg = nI s1.length from h1.1, Int32.add_zero]
        rfl
theorem m_shown {M : T_Model} {p0 s0 p1 s1 : List Nat} (h : mPat M p0 s0 p1 s1) (sg wh : Bool) (i : Nat) (hi : i < (lst p0 s0 p1 s1 sg wh).length) : f_Model_shown M (bB sg) (bB wh) (nI i) = some (nI (sh (lst p0 s0 p1 s1 sg wh)[i])) := by
  obtain ⟨h0, h1, o0, o1, o2, o3, h2⟩ := h
  rw [e_Model_shown]
  cases sg
  · rw [if_pos b_f, e_Model_shown_18, e_Model_shown_19, m_bor0, Option.bind_some, if_pos b_f, e_Model_shown_39]
    cases wh
    · exact m_s40 (j := 0) (by omega) h0 o0 _ rfl i hi
    · exact m_s40 (j := 1) (by omega) h1 o1 _ rfl i hi
  · rw [if_neg b_t]
    rcases h2 with ⟨k, h2, h3⟩ | ⟨k, rfl, rfl⟩
    · rw [m_bor1 k, Option.bind_some, if_pos b_f, e_Model_shown_19, m_bor1 k, Option.bind_some, if_pos b_f, e_Model_shown_39]
      cases wh
      · exact m_s40 (j := 2) (by omega) h2 o2 _ rfl i hi
      · exact m_s40 (j := 3) (by omega) h3 o3 _ rfl i hi
    · rw [m_bor2 k, Option.bind_some, if_neg b_t, e_Model_shown_18, e_Model_shown_19, m_bor2 k, Option.bind_some, if_neg b_t]
      cases wh
      · rw [if_pos b_f]
        cases i with
        | zero =>
          rw [e_Model_shown_40, if_neg (show ¬ 0 ≤ nI 0 - 1 by decide)]; rfl
        | succ i =>
          have hi' : i < p0.length := by have : i + 1 < p0.length + 1 := hi; omega
          rw [nI_pred]
          exact m_s40 (j := 0) (by omega) h0 o0 _ rfl i hi'
      · rw [if_neg b_t, e_Model_shown_39]
        exact m_s40 (j := 1) (by omega) h1 o1 _ rfl i hi
theorem c_shown {a : T_Affix} {l : List Nat} (ha : cAff a l) (ho : okL l) (k : Nat) (hk : k < l.length) : f_Affix_shownAt a (nI k) = some (nI (sh l[k])) := by
  have o1 := okL_lt ho hk
  rw [e_Affix_shownAt, aff_at ha k hk, Option.bind_some]
  unfold sh
  by_cases e : l[k] = 256
  · rw [if_pos (show nI l[k] = 256 by rw [e]; rfl), if_pos e]; rfl
  · rw [if_neg (nI_nel 256 256 rfl (by omega) (by decide) e), if_neg e]; rfl
-- standing in a text
def stn (T : Nat → Nat) : Nat → List Nat → Bool
  | _, [] => true
  | k, e :: l => decide (T k = sh e) && stn T (k + 1) l
theorem c_stn {v : T_Row} {T : Nat → Nat} {n : Nat} (hR : RowOf v T n) {a : T_Affix} {l : List Nat} (ha : cAff a l) (ho : okL l) {k : Nat} (hk : k + l.length ≤ n) : ∀ (m i : Nat), l.length - i < m → i ≤ l.length → f_Affix_standsIn_2 a v m (nI k) (nI i) = some (bB (stn T (k + i) (l.drop i))) := by
  have hn := hR.2.1
  intro m
  induction m with
  | zero => intro i hm; omega
  | succ m ih =>
    intro i hm hi
    rw [e_Affix_standsIn_2, ha.1]
    by_cases q : i = l.length
    · subst q
      rw [if_pos (Int32.le_refl _), List.drop_length]; rfl
    · have hi' : i < l.length := by omega
      have hd : l.drop i = l[i] :: l.drop (i + 1) := List.drop_eq_getElem_cons hi'
      have hv := hR.2.2 (k + i) (by omega)
      have hs := sh_lt (okL_lt ho hi')
      rw [if_neg (nI_ge hi' (by omega)), nI_add, row_at hR (k + i) (by omega), Option.bind_some, c_shown ha ho i hi', Option.bind_some, show chA T n (k + i) = nI (T (k + i)) from if_pos (by omega), hd]
      show _ = some (bB (decide (T (k + i) = sh l[i]) && stn T (k + i + 1) (l.drop (i + 1))))
      by_cases c : T (k + i) = sh l[i]
      · rw [if_pos (congrArg nI c), nI_1, ih (i + 1) (by omega) (by omega), decide_eq_true c, Bool.true_and]; rfl
      · rw [if_neg (fun z => c ((nI_eq (by omega) (by omega)).mp z)), decide_eq_false c]; rfl
theorem c_stands {v : T_Row} {T : Nat → Nat} {n : Nat} (hR : RowOf v T n) {a : T_Affix} {l : List Nat} (ha : cAff a l) (ho : okL l) (k : Nat) (hk : k + l.length ≤ n) (x : Int32) (hx : x = nI k) : f_Affix_standsIn a v x = some (bB (stn T k l)) := by
  subst hx
  have := ha.2.1
  exact c_stn hR ha ho hk FU 0 (by rw [FU_val]; omega) (Nat.zero_le _)
theorem m_stS {M : T_Model} {T : Nat → Nat} {n : Nat} (hM : ModOf M T n) {p0 s0 p1 s1 : List Nat} (h : mPat M p0 s0 p1 s1) (sg : Bool) {p s : List Nat} (hp : p = lst p0 s0 p1 s1 sg false) (hs : s = lst p0 s0 p1 s1 sg true) (os : okL s) (hl : p.length + s.length ≤ n) : ∀ (m i : Nat) (b : Bool), s.length - i < m → i ≤ s.length →
    ∀ m', (∀ b', f_Model_ofSign_77 (m' + 1) M (bB sg) (nI p.length) (nI s.length) (bB b') (nI s.length) = f_Model_ofSign_77 1 M (bB sg) (nI p.length) (nI s.length) (bB b') (nI s.length)) → f_Model_ofSign_77 (m' + 1 + (s.length - i)) M (bB sg) (nI p.length) (nI s.length) (bB b) (nI i) = f_Model_ofSign_77 1 M (bB sg) (nI p.length) (nI s.length) (bB (b && stn T (n - s.length + i) (s.drop i))) (nI s.length) := by
  have hn := hM.2.1
  intro m
  induction m with
  | zero => intro i b hm; omega
  | succ m ih =>
    intro i b hm hi m' hm'
    by_cases q : i = s.length
    · subst q
      rw [Nat.sub_self, Nat.add_zero, hm', List.drop_length, show stn T (n - s.length + s.length) [] = true from rfl, Bool.and_true]
    · have hi' : i < s.length := by omega
      have hd : s.drop i = s[i] :: s.drop (i + 1) := List.drop_eq_getElem_cons hi'
      have hv := hM.2.2 (n - s.length + i) (by omega)
      have hs' := sh_lt (okL_lt os hi')
      have step := fun b' => ih (i + 1) b' (by omega) (by omega) m' hm'
      rw [show m' + 1 + (s.length - i) = (m' + 1 + (s.length - (i + 1))) + 1 by omega, e_Model_ofSign_77, if_neg (nI_ge hi' (by omega)), hM.1, pk_sub (by omega), nI_add, hd]
      show _ = f_Model_ofSign_77 1 M (bB sg) (nI p.length) (nI s.length) (bB (b && (decide (T (n - s.length + i) = sh s[i]) && stn T (n - s.length + i + 1) (s.drop (i + 1))))) (nI s.length)
      cases b
      · rw [if_pos b_f, e_Model_ofSign_117, e_Model_ofSign_118, nI_1, show (0 : Int32) = bB false from rfl, step false]; rfl
      · have hsh : f_Model_shown M (bB sg) (1 : Int32) (nI i) = some (nI (sh s[i])) := by
          subst hs
          exact m_shown h sg true i hi'
        rw [if_neg b_t, if_pos (ixN (by omega) (by decide)), hsh, Option.bind_some, nI_clamp (by omega), hv.1]
        by_cases c : T (n - s.length + i) = sh s[i]
        · rw [if_pos (congrArg nI c), e_Model_ofSign_118, nI_1, show (1 : Int32) = bB true from rfl, step true, decide_eq_true c, Bool.true_and, Bool.true_and, Bool.true_and]; rfl
        · rw [if_neg (fun z => c ((nI_eq (by omega) (by omega)).mp z)), e_Model_ofSign_117, e_Model_ofSign_118, nI_1, show (0 : Int32) = bB false from rfl, step false, decide_eq_false c]; rfl
