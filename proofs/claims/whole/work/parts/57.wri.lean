-- digits of numbers made ready
theorem dgt {D N A B : Nat} (h : D * 10 ^ A = N * 10 ^ B) (i : Nat) : D / 10 ^ i % 10 = if B ≤ A + i then N / 10 ^ (A + i - B) % 10 else 0 := by
  rw [← dv1 D A i, h]
  by_cases c : B ≤ A + i
  · have e := dv1 N B (A + i - B)
    rw [show B + (A + i - B) = A + i by omega] at e
    rw [if_pos c, e]
  · rw [if_neg c, dv2 _ (by omega), dv3 _ (by omega)]
def pdg (N L : Nat) (J : Int) : Nat := if J < 0 then 0 else if J < L then N / 10 ^ (L - 1 - J.toNat) % 10 else 0
def fd (D pl i : Nat) : Nat := if pl ≤ i then 0 else D / 10 ^ (pl - 1 - i) % 10
theorem pdg_9 (N L : Nat) (J : Int) : pdg N L J ≤ 9 := by
  unfold pdg
  split
  · omega
  · split <;> omega
theorem fd_9 (D pl i : Nat) : fd D pl i ≤ 9 := by
  unfold fd
  split <;> omega
theorem pd_eq {dgs : Nat → Int32} {N L D pl : Nat} {P : Int} (h : pR dgs N L P D pl) (hN : 0 < N) (i : Nat) : D / 10 ^ i % 10 = pdg N L (P + pl - 1 - i) := by
  obtain ⟨hr, -, -, -, -, -, hrel⟩ := h
  rcases hrel with ⟨h0, -⟩ | ⟨-, A, B, hE, hAB⟩
  · omega
  · rw [dgt hE i]
    unfold pdg
    by_cases c1 : P + pl - 1 - i < 0
    · rw [if_pos c1, if_pos (by omega), Nat.div_eq_of_lt]
      exact Nat.lt_of_lt_of_le hr.1 (Nat.pow_le_pow_right (by decide) (by omega))
    · rw [if_neg c1]
      by_cases c2 : P + pl - 1 - i < L
      · rw [if_pos c2, if_pos (by omega), show A + i - B = L - 1 - (P + pl - 1 - i).toNat by omega]
      · rw [if_neg c2, if_neg (by omega)]
theorem pd_whole {dgs : Nat → Int32} {N L D pl : Nat} {P : Int} (h : pR dgs N L P D pl) (hN : 0 < N) (x : Nat) (hx : 1 ≤ x) : pdg N L (P - x) = D / 10 ^ pl / 10 ^ (x - 1) % 10 := by
  rw [Nat.div_div_eq_div_mul, ← Nat.pow_add, pd_eq h hN, show P + pl - 1 - ((pl + (x - 1) : Nat) : Int) = P - x by omega]
theorem pd_frac {dgs : Nat → Int32} {N L D pl : Nat} {P : Int} (h : pR dgs N L P D pl) (hN : 0 < N) (i : Nat) : pdg N L (P + i) = fd D pl i := by
  unfold fd
  by_cases c : pl ≤ i
  · rw [if_pos c]
    obtain ⟨hr, -, -, -, -, -, hrel⟩ := h
    rcases hrel with ⟨h0, -⟩ | ⟨-, A, B, hE, hAB⟩
    · omega
    · unfold pdg
      split
      · rfl
      · split
        · rw [dgt hE.symm, if_neg (by omega)]
        · rfl
  · rw [if_neg c, pd_eq h hN, show P + pl - 1 - ((pl - 1 - i : Nat) : Int) = P + i by omega]
theorem m_placed {M : T_Model} {wr : Nat → Int32} {en fm : Int32} {bd dgs : Nat → Int32} {N L : Nat} (hr : rep dgs N L) (hL : L ≤ 19) (P : Int) (hP1 : -60 ≤ P) (hP2 : P ≤ 60) (I : Int) (hI1 : -60 ≤ I) (hI2 : I ≤ 60) (x : Int32) (hx : x = iI I) : f_Model_placed (mF M wr en dgs (nI L) (iI P) fm bd) x = some (nI (pdg N L (P + I))) := by
  subst hx
  rw [e_Model_placed, mF_point, mF_digits, mF_digit, iI_add]
  unfold pdg
  by_cases c1 : P + I < 0
  · rw [if_pos ((iI_lt0 (by omega) (by omega)).mpr c1), if_pos c1]; rfl
  · rw [if_neg (fun z => c1 ((iI_lt0 (by omega) (by omega)).mp z)), if_neg c1, iI_n L]
    by_cases c2 : P + I < L
    · rw [if_pos ((iI_lt (by omega) (by omega) (by omega) (by omega)).mpr c2), if_pos c2, iI_nat (show 0 ≤ P + I by omega), if_pos (ixN (by omega) (by decide)), nI_clamp (by omega), hr.2.2 _ (by omega)]; rfl
    · rw [if_neg (fun z => c2 ((iI_lt (by omega) (by omega) (by omega) (by omega)).mp z)), if_neg c2]; rfl
-- writing digits in groups
def gW (V c g : Nat) : Nat → List Nat
  | 0 => []
  | x + 1 => (if 0 < g ∧ x + 1 < c ∧ (x + 1) % g = 0 then [44] else []) ++ ((48 + V / 10 ^ x % 10) :: gW V c g x)
theorem gW_len (V c g : Nat) : ∀ x, (gW V c g x).length ≤ 2 * x := by
  intro x
  induction x with
  | zero => exact Nat.le_refl _
  | succ x ih =>
    show ((if 0 < g ∧ x + 1 < c ∧ (x + 1) % g = 0 then [44] else []) ++ ((48 + V / 10 ^ x % 10) :: gW V c g x)).length ≤ _
    rw [List.length_append, List.length_cons]
    have : ((if 0 < g ∧ x + 1 < c ∧ (x + 1) % g = 0 then [44] else []) : List Nat).length ≤ 1 := by split <;> decide
    omega
theorem gW_ok (V c g : Nat) : ∀ x, okO (gW V c g x) := by
  intro x
  induction x with
  | zero => exact okO_nil
  | succ x ih =>
    refine okO_app ?_ (okO_cons (by omega) (by omega) ih)
    split
    · exact okO_cons (by decide) (by decide) okO_nil
    · exact okO_nil
theorem c_wD {V c g : Nat} (hV : V < 2 ^ 63) (hc : c < 1000) (hg : g ≤ 12) : ∀ (x m : Nat) (v : T_Row) (O : List Nat), x < m → x ≤ 19 → cAff v O → O.length + (gW V c g x).length ≤ 120 →
    ∃ v', f_NumberWriter_writeDigits_3 m v (lN V) (nI c) (nI g) (nI x) = some v' ∧ cAff v' (O ++ gW V c g x) := by
  intro x
  induction x with
  | zero =>
    intro m v O hm _ hv _
    rw [show m = (m - 1) + 1 by omega, e_NumberWriter_writeDigits_3, if_pos (show nI 0 ≤ 0 by decide)]
    exact ⟨v, rfl, by rw [show gW V c g 0 = [] from rfl, List.append_nil]; exact hv⟩
  | succ x ih =>
    intro m v O hm hx hv hO
    have hVx : V / 10 ^ x < 2 ^ 63 := Nat.lt_of_le_of_lt (Nat.div_le_self _ _) hV
    have e33 : ∀ (v : T_Row) (O : List Nat), cAff v O → O.length + (gW V c g x).length + 1 ≤ 120 → ∃ v', f_NumberWriter_writeDigits_33 (f_NumberWriter_writeDigits_3 (m - 1)) v (lN V) (nI c) (nI g) (nI (x + 1)) = some v' ∧ cAff v' (O ++ ((48 + V / 10 ^ x % 10) :: gW V c g x)) := by
      intro v O hv hO
      obtain ⟨v1, p1, p2⟩ := row_push hv (by omega) (i2c (nI (48 + V / 10 ^ x % 10))) (48 + V / 10 ^ x % 10) (i2c_n (by omega)) (by omega)
      obtain ⟨v2, p3, p4⟩ := ih (m - 1) v1 (O ++ [48 + V / 10 ^ x % 10]) (by omega) (by omega) p2 (by rw [len1]; omega)
      rw [e_NumberWriter_writeDigits_33, nI_pred, c_ten (k := x) (by omega) _ rfl, Option.bind_some, pw_lN, if_pos (show ¬ lN (10 ^ x) = 0 from pw_ne (by omega)), lN_div hV (p0 x) (p18 (by omega)), show (10 : Int64) = lN 10 from rfl, lN_rem hVx (by decide) (by decide), lN_i, show (48 : Int32) + nI (V / 10 ^ x % 10) = nI (48 + V / 10 ^ x % 10) from nI_add 48 _, p1, Option.bind_some, pk_m1]
      exact ⟨v2, p3, by rw [List.append_assoc] at p4; exact p4⟩
    have hP : gW V c g (x + 1) = (if 0 < g ∧ x + 1 < c ∧ (x + 1) % g = 0 then [44] else []) ++ ((48 + V / 10 ^ x % 10) :: gW V c g x) := rfl
    rw [hP] at hO ⊢
    rw [List.length_append, List.length_cons] at hO
    rw [show m = (m - 1) + 1 by omega, e_NumberWriter_writeDigits_3, if_neg (nI_nle (by omega) (by omega))]
    by_cases q1 : g = 0
    · subst q1
      rw [if_pos (show nI 0 ≤ 0 by decide)]
      rw [if_neg (fun z => absurd z.1 (Nat.lt_irrefl 0))] at hO ⊢
      rw [List.nil_append]
      have : ([] : List Nat).length = 0 := rfl
      exact e33 v O hv (by omega)
    · rw [if_neg (nI_nle (by omega) (by omega))]
      by_cases q2 : c ≤ x + 1
      · rw [if_pos (nI_le q2 (by omega))]
        rw [if_neg (fun z => absurd z.2.1 (by omega))] at hO ⊢
        rw [List.nil_append]
        have : ([] : List Nat).length = 0 := rfl
        exact e33 v O hv (by omega)
      · rw [if_neg (nI_ge (by omega) (by omega)), if_pos (nI_ne0 (by omega) (by omega)), pk_rem (by omega) (by omega) (by omega)]
        have hml : (x + 1) % g < 1000 := Nat.lt_of_lt_of_le (Nat.mod_lt _ (by omega)) (by omega)
        by_cases q3 : (x + 1) % g = 0
        · rw [if_pos (show nI ((x + 1) % g) = 0 by rw [q3]; rfl)]
          rw [if_pos ⟨by omega, by omega, q3⟩] at hO ⊢
          have : ([44] : List Nat).length = 1 := rfl
          obtain ⟨v1, p1, p2⟩ := row_push hv (by omega) (44 : Int32) 44 rfl (by decide)
          rw [p1, Option.bind_some, ← List.append_assoc]
          exact e33 v1 _ p2 (by rw [len1]; omega)
        · rw [if_neg (nI_ne0 (by omega) (by omega))]
          rw [if_neg (fun z => q3 z.2.2)] at hO ⊢
          rw [List.nil_append]
          have : ([] : List Nat).length = 0 := rfl
          exact e33 v O hv (by omega)
theorem mF_write {M : T_Model} {wr : Nat → Int32} {dgs : Nat → Int32} {ds pt fm : Int32} {bd : Nat → Int32} {O : List Nat} (h : mo wr O) (hO : O.length < 200) (x : Int32) (c : Nat) (hx : x = nI c) (hc : c < 65536) : ∃ wr', f_Model_write (mF M wr (nI O.length) dgs ds pt fm bd) x = some (mF M wr' (nI (O ++ [c]).length) dgs ds pt fm bd) ∧ mo wr' (O ++ [c]) :=
  m_write (M := mF M wr (nI O.length) dgs ds pt fm bd) h hO x c hx hc
theorem m_wW {M : T_Model} {fm : Int32} {bd dgs : Nat → Int32} {N L V c g : Nat} (hr : rep dgs N L) (hL : L ≤ 19) (P : Int) (hP1 : -60 ≤ P) (hP2 : P ≤ 60) (hk : M_kept M 3 = nI g) (hc : c < 1000) (hg : g ≤ 12) (hd : ∀ x : Nat, 1 ≤ x → (if L = 0 then 0 else pdg N L (P - x)) = V / 10 ^ (x - 1) % 10) : ∀ (x m : Nat) (wr : Nat → Int32) (O : List Nat), x < m → x ≤ 19 → mo wr O → O.length + (gW V c g x).length ≤ 120 →
    ∃ wr', f_Model_writeWhole_71 m (mF M wr (nI O.length) dgs (nI L) (iI P) fm bd) (nI c) (nI x) = some (mF M wr' (nI (O ++ gW V c g x).length) dgs (nI L) (iI P) fm (upd bd 1 (nI (O ++ gW V c g x).length))) ∧ mo wr' (O ++ gW V c g x) := by
  have k3 : ∀ (wr : Nat → Int32) (en : Int32), M_kept (mF M wr en dgs (nI L) (iI P) fm bd) (3 : Int32).toNatClampNeg = nI g := fun _ _ => hk
  intro x
  induction x with
  | zero =>
    intro m wr O hm _ hw _
    rw [show m = (m - 1) + 1 by omega, e_Model_writeWhole_71, if_pos (show nI 0 ≤ 0 by decide), show gW V c g 0 = [] from rfl, List.append_nil]
    exact ⟨wr, rfl, hw⟩
  | succ x ih =>
    intro m wr O hm hx hw hO
    have e109 : ∀ (wr : Nat → Int32) (O : List Nat), mo wr O → O.length + (gW V c g x).length + 1 ≤ 120 → ∃ wr', f_Model_writeWhole_109 (f_Model_writeWhole_71 (m - 1)) (mF M wr (nI O.length) dgs (nI L) (iI P) fm bd) (nI c) (nI (x + 1)) = some (mF M wr' (nI (O ++ ((48 + V / 10 ^ x % 10) :: gW V c g x)).length) dgs (nI L) (iI P) fm (upd bd 1 (nI (O ++ ((48 + V / 10 ^ x % 10) :: gW V c g x)).length))) ∧ mo wr' (O ++ ((48 + V / 10 ^ x % 10) :: gW V c g x)) := by
      intro wr O hw hO
      have hdx := hd (x + 1) (by omega)
      rw [show x + 1 - 1 = x from rfl] at hdx
      have e127 : ∃ wr', f_Model_writeWhole_127 (f_Model_writeWhole_71 (m - 1)) (mF M wr (nI O.length) dgs (nI L) (iI P) fm bd) (nI c) (nI (x + 1)) (nI (V / 10 ^ x % 10)) = some (mF M wr' (nI (O ++ ((48 + V / 10 ^ x % 10) :: gW V c g x)).length) dgs (nI L) (iI P) fm (upd bd 1 (nI (O ++ ((48 + V / 10 ^ x % 10) :: gW V c g x)).length))) ∧ mo wr' (O ++ ((48 + V / 10 ^ x % 10) :: gW V c g x)) := by
        obtain ⟨w1, p1, p2⟩ := mF_write (M := M) (dgs := dgs) (ds := nI L) (pt := iI P) (fm := fm) (bd := bd) hw (by omega) (nI (48 + V / 10 ^ x % 10)) (48 + V / 10 ^ x % 10) rfl (by omega)
        obtain ⟨w2, p3, p4⟩ := ih (m - 1) w1 (O ++ [48 + V / 10 ^ x % 10]) (by omega) (by omega) p2 (by rw [len1]; omega)
        rw [e_Model_writeWhole_127, show (48 : Int32) + nI (V / 10 ^ x % 10) = nI (48 + V / 10 ^ x % 10) from nI_add 48 _, p1, Option.bind_some, pk_m1]
        rw [List.append_assoc] at p3 p4
        exact ⟨w2, p3, p4⟩
      rw [e_Model_writeWhole_109, mF_digits]
      by_cases q : L = 0
      · rw [if_pos q] at hdx
        rw [if_pos (show nI L ≤ 0 by rw [q]; decide), show (0 : Int32) = nI 0 from rfl, hdx]
        exact e127
      · rw [if_neg q] at hdx
        have hx' : -(nI (x + 1)) = iI (-((x + 1 : Nat) : Int)) := by rw [iI_n, iI_neg]
        rw [if_neg (nI_nle (by omega) (by omega)), m_placed hr hL P hP1 hP2 (-((x + 1 : Nat) : Int)) (by omega) (by omega) _ hx', Option.bind_some, show P + -((x + 1 : Nat) : Int) = P - ((x + 1 : Nat) : Int) from rfl, hdx]
        exact e127
    have hP : gW V c g (x + 1) = (if 0 < g ∧ x + 1 < c ∧ (x + 1) % g = 0 then [44] else []) ++ ((48 + V / 10 ^ x % 10) :: gW V c g x) := rfl
    rw [hP] at hO ⊢
    rw [List.length_append, List.length_cons] at hO
    rw [show m = (m - 1) + 1 by omega, e_Model_writeWhole_71, if_neg (nI_nle (by omega) (by omega)), k3]
    by_cases q1 : g = 0
    · subst q1
      rw [if_pos (show nI 0 ≤ 0 by decide)]
      rw [if_neg (fun z => absurd z.1 (Nat.lt_irrefl 0))] at hO ⊢
      rw [List.nil_append]
      have : ([] : List Nat).length = 0 := rfl
      exact e109 wr O hw (by omega)
    · rw [if_neg (nI_nle (by omega) (by omega))]
      by_cases q2 : c ≤ x + 1
      · rw [if_pos (nI_le q2 (by omega))]
        rw [if_neg (fun z => absurd z.2.1 (by omega))] at hO ⊢
        rw [List.nil_append]
        have : ([] : List Nat).length = 0 := rfl
        exact e109 wr O hw (by omega)
      · rw [if_neg (nI_ge (by omega) (by omega)), if_pos (nI_ne0 (by omega) (by omega)), pk_rem (by omega) (by omega) (by omega)]
        have hml : (x + 1) % g < 1000 := Nat.lt_of_lt_of_le (Nat.mod_lt _ (by omega)) (by omega)
        by_cases q3 : (x + 1) % g = 0
        · rw [if_pos (show nI ((x + 1) % g) = 0 by rw [q3]; rfl)]
          rw [if_pos ⟨by omega, by omega, q3⟩] at hO ⊢
          have : ([44] : List Nat).length = 1 := rfl
          obtain ⟨w1, p1, p2⟩ := mF_write (M := M) (dgs := dgs) (ds := nI L) (pt := iI P) (fm := fm) (bd := bd) hw (by omega) (44 : Int32) 44 rfl (by decide)
          rw [p1, Option.bind_some, ← List.append_assoc]
          exact e109 w1 _ p2 (by rw [len1]; omega)
        · rw [if_neg (nI_ne0 (by omega) (by omega))]
          rw [if_neg (fun z => q3 z.2.2)] at hO ⊢
          rw [List.nil_append]
          have : ([] : List Nat).length = 0 := rfl
          exact e109 wr O hw (by omega)
-- how many digits of a fraction are shown
def fcM (d : Nat → Nat) : Nat → Nat
  | 0 => 0
  | k + 1 => if d k = 0 then fcM d k else k + 1
theorem fcM_le (d : Nat → Nat) : ∀ k, fcM d k ≤ k := by
  intro k
  induction k with
  | zero => exact Nat.le_refl _
  | succ k ih =>
    unfold fcM
    split <;> omega
theorem fcM_ext {D pl : Nat} : ∀ r, fcM (fd D pl) (pl + r) = fcM (fd D pl) pl := by
  intro r
  induction r with
  | zero => rfl
  | succ r ih =>
    show (if fd D pl (pl + r) = 0 then fcM (fd D pl) (pl + r) else pl + r + 1) = _
    rw [if_pos (show fd D pl (pl + r) = 0 from if_pos (by omega)), ih]
theorem md_dig (D : Nat) {pl k : Nat} (h : k < pl) : D % 10 ^ pl / 10 ^ k % 10 = D / 10 ^ k % 10 := by
  have hq := Nat.div_add_mod D (10 ^ pl)
  have e : D / 10 ^ k = D % 10 ^ pl / 10 ^ k + D / 10 ^ pl * 10 ^ (pl - k) := by
    have e1 : D = D % 10 ^ pl + D / 10 ^ pl * 10 ^ (pl - k) * 10 ^ k := by
      rw [Nat.mul_assoc, ← Nat.pow_add, show pl - k + k = pl by omega, Nat.mul_comm]
      omega
    rw [← Nat.add_mul_div_right _ _ (p0 k), ← e1]
  have h3 := dv3 (D / 10 ^ pl) (show 0 < pl - k by omega)
  rw [e]
  omega
theorem c_fc {ng : Int32} {D pl : Nat} (hD : D < 2 ^ 63) (hpl : pl ≤ 18) : f_Decimal_fractionCount (dC ng D pl) = some (nI (fcM (fd D pl) pl)) := by
  have hF : D % 10 ^ pl < 2 ^ 63 := Nat.lt_of_le_of_lt (Nat.mod_le _ _) hD
  have key : ∀ (c m : Nat), c ≤ pl → c < m → f_Decimal_fractionCount_18 (dC ng D pl) m (nI c) (lN (D % 10 ^ pl / 10 ^ (pl - c))) = some (nI (fcM (fd D pl) c)) := by
    intro c
    induction c with
    | zero =>
      intro m _ hm
      rw [show m = (m - 1) + 1 by omega, e_Decimal_fractionCount_18, if_pos (show nI 0 ≤ 0 by decide)]; rfl
    | succ c ih =>
      intro m hc hm
      have hx : D % 10 ^ pl / 10 ^ (pl - (c + 1)) < 2 ^ 63 := Nat.lt_of_le_of_lt (Nat.div_le_self _ _) hF
      have hdig : D % 10 ^ pl / 10 ^ (pl - (c + 1)) % 10 = fd D pl c := by
        unfold fd
        rw [md_dig D (by omega), if_neg (by omega), show pl - (c + 1) = pl - 1 - c by omega]
      have hnx : D % 10 ^ pl / 10 ^ (pl - (c + 1)) / 10 = D % 10 ^ pl / 10 ^ (pl - c) := by
        rw [Nat.div_div_eq_div_mul, show 10 ^ (pl - (c + 1)) * 10 = 10 ^ (pl - c) by rw [← Nat.pow_succ, show (pl - (c + 1)).succ = pl - c by omega]]
      rw [show m = (m - 1) + 1 by omega, e_Decimal_fractionCount_18, if_neg (nI_nle (by omega) (by omega)), show (10 : Int64) = lN 10 from rfl, lN_rem hx (by decide) (by decide), lN_div hx (by decide) (by decide), hdig, hnx, pk_m1]
      have h9 := fd_9 D pl c
      show _ = some (nI (if fd D pl c = 0 then fcM (fd D pl) c else c + 1))
      by_cases q : fd D pl c = 0
      · rw [if_pos ((lc_0 (by omega) 0 0 rfl (by decide)).mpr q), if_pos q]
        exact ih (m - 1) (by omega) (by omega)
      · rw [if_neg (fun z => q ((lc_0 (by omega) 0 0 rfl (by decide)).mp z)), if_neg q]; rfl
  have := key pl FU (Nat.le_refl _) (by rw [FU_val]; omega)
  rw [Nat.sub_self, Nat.pow_zero, Nat.div_one] at this
  rw [e_Decimal_fractionCount, c_ten (k := pl) hpl (C_places (dC ng D pl)) rfl, Option.bind_some, pw_lN, if_pos (show ¬ lN (10 ^ pl) = 0 from pw_ne hpl), show C_digits (dC ng D pl) = lN D from rfl, lN_rem hD (p0 pl) (p18 hpl)]
  exact this
def shF (fc a : Nat) : Nat := if fc < a then a else fc
theorem c_sf {ng E hf : Int32} {ed : Nat → Int32} {D pl a : Nat} {S : T_Shape} (hD : D < 2 ^ 63) (hpl : pl ≤ 18) (ha : S_leastFraction S = nI a) (ha9 : a ≤ 9) : f_NumberWriter_shownFraction (nW ng D pl E ed hf) S = some (nI (shF (fcM (fd D pl) pl) a)) := by
  have := fcM_le (fd D pl) pl
  rw [e_NumberWriter_shownFraction, show f_Decimal_fractionCount (W_decimal (nW ng D pl E ed hf)) = _ from c_fc hD hpl, Option.bind_some, ha]
  unfold shF
  by_cases c : fcM (fd D pl) pl < a
  · rw [if_pos (nI_lt c (by omega)), if_pos c]
  · rw [if_neg (nI_nlt (by omega) (by omega)), if_neg c]
theorem m_sf {M : T_Model} {wr : Nat → Int32} {en fm : Int32} {bd dgs : Nat → Int32} {N L a : Nat} (hr : rep dgs N L) (hL : L ≤ 19) (P : Int) (hP1 : -60 ≤ P) (hP2 : P ≤ 60) (ha : M_kept M 1 = nI a) (ha9 : a ≤ 9) (d : Nat → Nat) (hd : ∀ i : Nat, (if L = 0 then 0 else pdg N L (P + i)) = d i) : f_Model_fractions (mF M wr en dgs (nI L) (iI P) fm bd) = some (nI (shF (fcM d 9) a)) := by
  have k1 : M_kept (mF M wr en dgs (nI L) (iI P) fm bd) (1 : Int32).toNatClampNeg = nI a := ha
  have key : ∀ (r m : Nat), r ≤ 9 → r < m → f_Model_fractions_4 (mF M wr en dgs (nI L) (iI P) fm bd) m (nI (fcM d (9 - r))) (nI (9 - r)) = some (nI (shF (fcM d 9) a)) := by
    intro r
    induction r with
    | zero =>
      intro m _ hm
      have := fcM_le d 9
      rw [show 9 - 0 = 9 from rfl, show m = (m - 1) + 1 by omega, e_Model_fractions_4, if_pos (show (9 : Int32) ≤ nI 9 by decide), k1]
      unfold shF
      by_cases c : fcM d 9 < a
      · rw [if_neg (nI_ge c (by omega)), if_pos c]; rfl
      · rw [if_pos (nI_le (by omega) (by omega)), if_neg c]; rfl
    | succ r ih =>
      intro m hr' hm
      have st := ih (m - 1) (by omega) (by omega)
      rw [show 9 - r = 9 - (r + 1) + 1 by omega] at st
      have hfc : fcM d (9 - (r + 1) + 1) = if d (9 - (r + 1)) = 0 then fcM d (9 - (r + 1)) else 9 - (r + 1) + 1 := rfl
      rw [hfc] at st
      have hdi := hd (9 - (r + 1))
      have e31 : d (9 - (r + 1)) = 0 → f_Model_fractions_31 (mF M wr en dgs (nI L) (iI P) fm bd) (f_Model_fractions_4 (mF M wr en dgs (nI L) (iI P) fm bd) (m - 1)) (nI (fcM d (9 - (r + 1)))) (nI (9 - (r + 1))) = some (nI (shF (fcM d 9) a)) := by
        intro h0
        rw [if_pos h0] at st
        rw [e_Model_fractions_31, e_Model_fractions_32, nI_1]
        exact st
      rw [show m = (m - 1) + 1 by omega, e_Model_fractions_4, if_neg (li_nle 9 9 rfl (by omega) (by decide)), mF_digits]
      by_cases q : L = 0
      · rw [if_pos q] at hdi
        rw [if_pos (show nI L ≤ 0 by rw [q]; decide)]
        exact e31 hdi.symm
      · rw [if_neg q] at hdi
        have h9 := pdg_9 N L (P + ((9 - (r + 1) : Nat) : Int))
        rw [if_neg (nI_nle (by omega) (by omega)), m_placed hr hL P hP1 hP2 ((9 - (r + 1) : Nat) : Int) (by omega) (by omega) _ (iI_n _), Option.bind_some, hdi]
        rw [hdi] at h9
        by_cases q2 : d (9 - (r + 1)) = 0
        · rw [if_pos (show nI (d (9 - (r + 1))) ≤ 0 by rw [q2]; decide)]
          exact e31 q2
        · rw [if_neg q2] at st
          rw [if_neg (nI_nle (by omega) (by omega)), e_Model_fractions_32, nI_1]
          exact st
  have := key 9 FU (Nat.le_refl _) (by rw [FU_val]; omega)
  exact this
