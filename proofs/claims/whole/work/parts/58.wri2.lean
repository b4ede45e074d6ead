-- writing numbers: the three fields
def cntI (w0 z n : Nat) : Nat := if (if w0 < z then z else w0) = 0 ∧ n = 0 then 1 else (if w0 < z then z else w0)
theorem cntI_le {w0 z n k : Nat} (h1 : w0 ≤ k) (h2 : z ≤ k) (h3 : 1 ≤ k) : cntI w0 z n ≤ k := by
  have hb : (if w0 < z then z else w0) ≤ k := by split <;> omega
  unfold cntI
  by_cases c : (if w0 < z then z else w0) = 0 ∧ n = 0
  · rw [if_pos c]; exact h3
  · rw [if_neg c]; exact hb
theorem c_wInt {ng E hf : Int32} {ed : Nat → Int32} {D pl a z g w0 n : Nat} {S : T_Shape} (hD : D < 2 ^ 63) (hpl : pl ≤ 18) (hz : S_leastInteger S = nI z) (hz12 : z ≤ 12) (ha : S_leastFraction S = nI a) (ha9 : a ≤ 9) (hg : S_group S = nI g) (hg12 : g ≤ 12) (hw : ndg (D / 10 ^ pl) w0) (hw18 : w0 ≤ 18) (hn : n = shF (fcM (fd D pl) pl) a) {v : T_Row} {O : List Nat} (hv : cAff v O) (hO : O.length + 36 ≤ 120) :
    ∃ v', f_NumberWriter_writeInteger (nW ng D pl E ed hf) S v = some (nW ng D pl E (upd (upd ed 0 (nI O.length)) 1 (nI (O ++ gW (D / 10 ^ pl) (cntI w0 z n) g (cntI w0 z n)).length)) hf, v') ∧ cAff v' (O ++ gW (D / 10 ^ pl) (cntI w0 z n) g (cntI w0 z n)) := by
  have hn9 : n ≤ 18 := by
    have := fcM_le (fd D pl) pl
    subst hn
    unfold shF
    split <;> omega
  have hV : D / 10 ^ pl < 2 ^ 63 := Nat.lt_of_le_of_lt (Nat.div_le_self _ _) hD
  have hc18 : cntI w0 z n ≤ 18 := cntI_le hw18 (by omega) (by omega)
  have hlen := gW_len (D / 10 ^ pl) (cntI w0 z n) g (cntI w0 z n)
  obtain ⟨v', q1, q2⟩ := c_wD (c := cntI w0 z n) (g := g) hV (by omega) hg12 (cntI w0 z n) FU v O (by rw [FU_val]; omega) (by omega) hv (by omega)
  have whole : ∀ ed, f_Decimal_whole (W_decimal (nW ng D pl E ed hf)) = some (lN (D / 10 ^ pl)) := fun _ => c_whole hD hpl
  have e42 : ∀ ed, f_NumberWriter_writeInteger_42 S (nW ng D pl E ed hf) v (nI (cntI w0 z n)) = some (nW ng D pl E (upd ed 1 (nI (O ++ gW (D / 10 ^ pl) (cntI w0 z n) g (cntI w0 z n)).length)) hf, v') := by
    intro ed
    rw [e_NumberWriter_writeInteger_42, whole, Option.bind_some, hg, show f_NumberWriter_writeDigits (lN (D / 10 ^ pl)) (nI (cntI w0 z n)) (nI g) v = some v' from q1, Option.bind_some, show f_Row_size v' = _ from congrArg some q2.1, Option.bind_some]; rfl
  refine ⟨v', ?_, q2⟩
  have hed : sW_edges (nW ng D pl E ed hf) (upd (W_edges (nW ng D pl E ed hf)) (0 : Int32).toNatClampNeg (nI O.length)) = nW ng D pl E (upd ed 0 (nI O.length)) hf := rfl
  rw [e_NumberWriter_writeInteger, show f_Row_size v = some (nI O.length) from congrArg some hv.1, Option.bind_some, whole, Option.bind_some, c_count hw hw18, Option.bind_some, hz, hed, c_sf hD hpl ha ha9, ← hn, Option.bind_some]
  have hif : (if nI w0 < nI z then nI z else nI w0) = nI (if w0 < z then z else w0) := by
    by_cases c : w0 < z
    · rw [if_pos (nI_lt c (by omega)), if_pos c]
    · rw [if_neg (nI_nlt (by omega) (by omega)), if_neg c]
  have hb : (if w0 < z then z else w0) ≤ 18 := by split <;> omega
  rw [hif]
  by_cases c0 : (if w0 < z then z else w0) = 0
  · rw [if_pos (show nI (if w0 < z then z else w0) = 0 by rw [c0]; rfl)]
    by_cases c1 : n = 0
    · have hci : cntI w0 z n = 1 := if_pos ⟨c0, c1⟩
      rw [if_pos (show nI n = 0 by rw [c1]; rfl)]
      have := e42 (upd ed 0 (nI O.length))
      rw [hci] at this ⊢
      exact this
    · have hci : cntI w0 z n = (if w0 < z then z else w0) := if_neg (fun q => c1 q.2)
      rw [if_neg (nI_ne0 (by omega) (by omega)), ← hci]
      exact e42 _
  · have hci : cntI w0 z n = (if w0 < z then z else w0) := if_neg (fun q => c0 q.1)
    rw [if_neg (nI_ne0 (by omega) (by omega)), ← hci]
    exact e42 _
theorem m_wInt {M : T_Model} {fm : Int32} {bd dgs : Nat → Int32} {N L D pl z g n w0 : Nat} {P : Int} (hp : pR dgs N L P D pl) (hz : M_kept M 0 = nI z) (hz12 : z ≤ 12) (hg : M_kept M 3 = nI g) (hg12 : g ≤ 12) (hn : n ≤ 18) (hw0 : w0 = if L = 0 then 0 else P.toNat) (hw18 : w0 ≤ 18) (hd : ∀ x : Nat, 1 ≤ x → (if L = 0 then 0 else pdg N L (P - x)) = D / 10 ^ pl / 10 ^ (x - 1) % 10) {wr : Nat → Int32} {O : List Nat} (hw : mo wr O) (hO : O.length + 36 ≤ 120) :
    ∃ wr', f_Model_writeWhole (mF M wr (nI O.length) dgs (nI L) (iI P) fm bd) (nI n) = some (mF M wr' (nI (O ++ gW (D / 10 ^ pl) (cntI w0 z n) g (cntI w0 z n)).length) dgs (nI L) (iI P) fm (upd (upd bd 0 (nI O.length)) 1 (nI (O ++ gW (D / 10 ^ pl) (cntI w0 z n) g (cntI w0 z n)).length))) ∧ mo wr' (O ++ gW (D / 10 ^ pl) (cntI w0 z n) g (cntI w0 z n)) := by
  obtain ⟨hr, hL, -, -, hP1, hP2, -⟩ := hp
  have hc18 : cntI w0 z n ≤ 18 := cntI_le hw18 (by omega) (by omega)
  have hlen := gW_len (D / 10 ^ pl) (cntI w0 z n) g (cntI w0 z n)
  obtain ⟨wr', q1, q2⟩ := m_wW (M := M) (fm := fm) (bd := upd bd 0 (nI O.length)) (c := cntI w0 z n) hr hL P hP1 hP2 hg (by omega) hg12 hd (cntI w0 z n) FU wr O (by rw [FU_val]; omega) (by omega) hw (by omega)
  have k0 : M_kept (mF M wr (nI O.length) dgs (nI L) (iI P) fm bd) (0 : Int32).toNatClampNeg = nI z := hz
  have e57 : f_Model_writeWhole_57 (mF M wr (nI O.length) dgs (nI L) (iI P) fm bd) (nI (cntI w0 z n)) = some (mF M wr' (nI (O ++ gW (D / 10 ^ pl) (cntI w0 z n) g (cntI w0 z n)).length) dgs (nI L) (iI P) fm (upd (upd bd 0 (nI O.length)) 1 (nI (O ++ gW (D / 10 ^ pl) (cntI w0 z n) g (cntI w0 z n)).length))) := by
    rw [e_Model_writeWhole_57, mF_bounds, mF_end, mF_sbounds]
    exact q1
  refine ⟨wr', ?_, q2⟩
  have e22 : f_Model_writeWhole_22 (mF M wr (nI O.length) dgs (nI L) (iI P) fm bd) (nI n) (nI w0) = some (mF M wr' (nI (O ++ gW (D / 10 ^ pl) (cntI w0 z n) g (cntI w0 z n)).length) dgs (nI L) (iI P) fm (upd (upd bd 0 (nI O.length)) 1 (nI (O ++ gW (D / 10 ^ pl) (cntI w0 z n) g (cntI w0 z n)).length))) := by
    have h43 : f_Model_writeWhole_22 (mF M wr (nI O.length) dgs (nI L) (iI P) fm bd) (nI n) (nI w0) = f_Model_writeWhole_43 (mF M wr (nI O.length) dgs (nI L) (iI P) fm bd) (nI n) (nI (if w0 < z then z else w0)) := by
      rw [e_Model_writeWhole_22, k0]
      by_cases c : w0 < z
      · rw [if_neg (nI_ge c (by omega)), if_pos c]
      · rw [if_pos (nI_le (by omega) (by omega)), if_neg c]
    have hb : (if w0 < z then z else w0) ≤ 18 := by split <;> omega
    rw [h43, e_Model_writeWhole_43, e_Model_writeWhole_56]
    by_cases c0 : (if w0 < z then z else w0) = 0
    · rw [if_pos (show nI (if w0 < z then z else w0) = 0 by rw [c0]; rfl)]
      by_cases c1 : n = 0
      · have hci : cntI w0 z n = 1 := if_pos ⟨c0, c1⟩
        rw [if_pos (show nI n = 0 by rw [c1]; rfl)]
        rw [hci] at e57 ⊢
        exact e57
      · have hci : cntI w0 z n = (if w0 < z then z else w0) := if_neg (fun q => c1 q.2)
        rw [if_neg (nI_ne0 (by omega) (by omega)), ← hci]
        exact e57
    · have hci : cntI w0 z n = (if w0 < z then z else w0) := if_neg (fun q => c0 q.1)
      rw [if_neg (nI_ne0 (by omega) (by omega)), ← hci]
      exact e57
  rw [e_Model_writeWhole, mF_digits, mF_point, e_Model_writeWhole_21]
  by_cases c : L = 0
  · rw [if_pos c] at hw0
    rw [if_pos (show nI L ≤ 0 by rw [c]; decide)]
    rw [show nI w0 = (0 : Int32) by rw [hw0]; rfl] at e22
    exact e22
  · rw [if_neg c] at hw0
    rw [if_neg (nI_nle (by omega) (by omega))]
    by_cases c2 : P ≤ 0
    · rw [if_pos ((iI_le0 (by omega) (by omega)).mpr c2)]
      rw [show nI w0 = (0 : Int32) by rw [hw0, show P.toNat = 0 by omega]; rfl] at e22
      exact e22
    · rw [if_neg (fun q => c2 ((iI_le0 (by omega) (by omega)).mp q))]
      rw [show nI w0 = iI P by rw [hw0, iI_nat (show 0 ≤ P by omega)]] at e22
      exact e22
-- fractions
def gF (d : Nat → Nat) (n : Nat) : Nat → List Nat
  | 0 => []
  | r + 1 => (48 + d (n - (r + 1))) :: gF d n r
theorem gF_len (d : Nat → Nat) (n : Nat) : ∀ r, (gF d n r).length = r := by
  intro r
  induction r with
  | zero => rfl
  | succ r ih => show (gF d n r).length + 1 = r + 1; rw [ih]
theorem gF_ok {d : Nat → Nat} (h9 : ∀ i, d i ≤ 9) (n : Nat) : ∀ r, okO (gF d n r) := by
  intro r
  induction r with
  | zero => exact okO_nil
  | succ r ih => exact okO_cons (by omega) (by have := h9 (n - (r + 1)); omega) ih
def dot (n : Nat) : List Nat := if n = 0 then [] else [46]
theorem c_fdig {ng : Int32} {D pl i : Nat} (hD : D < 2 ^ 63) (hpl : pl ≤ 18) (hi : i < 1000) : f_Decimal_fractionDigit (dC ng D pl) (nI i) = some (nI (fd D pl i)) := by
  rw [e_Decimal_fractionDigit, show C_places (dC ng D pl) = nI pl from rfl, show C_digits (dC ng D pl) = lN D from rfl]
  unfold fd
  by_cases c : pl ≤ i
  · rw [if_pos (nI_le c (by omega)), if_pos c]; rfl
  · have hx : D / 10 ^ (pl - 1 - i) < 2 ^ 63 := Nat.lt_of_le_of_lt (Nat.div_le_self _ _) hD
    rw [if_neg (nI_ge (by omega) (by omega)), if_neg c, show (1 : Int32) = nI 1 from rfl, pk_sub (by omega), pk_sub (by omega), c_ten (k := pl - 1 - i) (by omega) _ rfl, Option.bind_some, pw_lN, if_pos (show ¬ lN (10 ^ (pl - 1 - i)) = 0 from pw_ne (by omega)), lN_div hD (p0 _) (p18 (by omega)), show (10 : Int64) = lN 10 from rfl, lN_rem hx (by decide) (by decide), lN_i]; rfl
theorem c_wFr30 {ng E hf : Int32} {ed : Nat → Int32} {S : T_Shape} {D pl n : Nat} (hD : D < 2 ^ 63) (hpl : pl ≤ 18) (hn : n ≤ 18) : ∀ (r m : Nat) (v : T_Row) (O : List Nat), r < m → r ≤ n → cAff v O → O.length + r ≤ 120 →
    ∃ v', f_NumberWriter_writeFraction_30 S m (nW ng D pl E ed hf) v (nI n) (nI (n - r)) = some (nW ng D pl E (upd ed 3 (nI (O ++ gF (fd D pl) n r).length)) hf, v') ∧ cAff v' (O ++ gF (fd D pl) n r) := by
  intro r
  induction r with
  | zero =>
    intro m v O hm _ hv _
    rw [show m = (m - 1) + 1 by omega, e_NumberWriter_writeFraction_30, if_pos (nI_le (by omega) (by omega)), show gF (fd D pl) n 0 = [] from rfl, List.append_nil, show f_Row_size v = _ from congrArg some hv.1, Option.bind_some]
    exact ⟨v, rfl, hv⟩
  | succ r ih =>
    intro m v O hm hr hv hO
    have h9 := fd_9 D pl (n - (r + 1))
    obtain ⟨v1, p1, p2⟩ := row_push hv (by omega) (i2c (nI (48 + fd D pl (n - (r + 1))))) (48 + fd D pl (n - (r + 1))) (i2c_n (by omega)) (by omega)
    obtain ⟨v2, p3, p4⟩ := ih (m - 1) v1 (O ++ [48 + fd D pl (n - (r + 1))]) (by omega) (by omega) p2 (by rw [len1]; omega)
    rw [show m = (m - 1) + 1 by omega, e_NumberWriter_writeFraction_30, if_neg (nI_ge (by omega) (by omega)), show f_Decimal_fractionDigit (W_decimal (nW ng D pl E ed hf)) (nI (n - (r + 1))) = _ from c_fdig hD hpl (by omega), Option.bind_some, show (48 : Int32) + nI (fd D pl (n - (r + 1))) = nI (48 + fd D pl (n - (r + 1))) from nI_add 48 _, p1, Option.bind_some, nI_1, show n - (r + 1) + 1 = n - r by omega]
    rw [List.append_assoc] at p3 p4
    exact ⟨v2, p3, p4⟩
theorem c_wFr {ng E hf : Int32} {ed : Nat → Int32} {S : T_Shape} {D pl a n : Nat} (hD : D < 2 ^ 63) (hpl : pl ≤ 9) (ha : S_leastFraction S = nI a) (ha9 : a ≤ 9) (hn : n = shF (fcM (fd D pl) pl) a) {v : T_Row} {O : List Nat} (hv : cAff v O) (hO : O.length + 10 ≤ 120) :
    ∃ v', f_NumberWriter_writeFraction (nW ng D pl E ed hf) S v = some (nW ng D pl E (upd (upd ed 2 (nI (O ++ dot n).length)) 3 (nI (O ++ dot n ++ gF (fd D pl) n n).length)) hf, v') ∧ cAff v' (O ++ dot n ++ gF (fd D pl) n n) := by
  have hn9 : n ≤ 9 := by
    have := fcM_le (fd D pl) pl
    subst hn
    unfold shF
    split <;> omega
  have e17 : ∀ (v : T_Row) (O : List Nat), cAff v O → O.length + n ≤ 120 → ∃ v', f_NumberWriter_writeFraction_17 S (nW ng D pl E ed hf) v (nI n) = some (nW ng D pl E (upd (upd ed 2 (nI O.length)) 3 (nI (O ++ gF (fd D pl) n n).length)) hf, v') ∧ cAff v' (O ++ gF (fd D pl) n n) := by
    intro v O hv hO
    obtain ⟨v', q1, q2⟩ := c_wFr30 (ng := ng) (E := E) (hf := hf) (ed := upd ed 2 (nI O.length)) (S := S) (D := D) (pl := pl) (n := n) hD (show pl ≤ 18 by omega) (show n ≤ 18 by omega) n FU v O (by rw [FU_val]; omega) (Nat.le_refl _) hv hO
    rw [Nat.sub_self] at q1
    refine ⟨v', ?_, q2⟩
    rw [e_NumberWriter_writeFraction_17, show f_Row_size v = _ from congrArg some hv.1, Option.bind_some]
    exact q1
  rw [e_NumberWriter_writeFraction, c_sf hD (by omega) ha ha9, ← hn, Option.bind_some]
  unfold dot
  by_cases c : n = 0
  · rw [if_pos (show nI n ≤ 0 by rw [c]; decide), if_pos c, List.append_nil]
    exact e17 v O hv (by omega)
  · obtain ⟨v1, p1, p2⟩ := row_push hv (by omega) (46 : Int32) 46 rfl (by decide)
    rw [if_neg (nI_nle (by omega) (by omega)), if_neg c, p1, Option.bind_some]
    exact e17 v1 _ p2 (by rw [len1]; omega)
theorem m_wFr22 {M : T_Model} {fm : Int32} {bd dgs : Nat → Int32} {N L n : Nat} (hr : rep dgs N L) (hL : L ≤ 19) (P : Int) (hP1 : -60 ≤ P) (hP2 : P ≤ 60) (hn : n ≤ 18) {d : Nat → Nat} (h9 : ∀ i, d i ≤ 9) (hd : ∀ i : Nat, (if L = 0 then 0 else pdg N L (P + i)) = d i) : ∀ (r m : Nat) (wr : Nat → Int32) (O : List Nat), r < m → r ≤ n → mo wr O → O.length + r ≤ 120 →
    ∃ wr', f_Model_writeFraction_22 m (mF M wr (nI O.length) dgs (nI L) (iI P) fm bd) (nI n) (nI (n - r)) = some (mF M wr' (nI (O ++ gF d n r).length) dgs (nI L) (iI P) fm (upd bd 3 (nI (O ++ gF d n r).length))) ∧ mo wr' (O ++ gF d n r) := by
  intro r
  induction r with
  | zero =>
    intro m wr O hm _ hw _
    rw [show m = (m - 1) + 1 by omega, e_Model_writeFraction_22, if_pos (nI_le (by omega) (by omega)), show gF d n 0 = [] from rfl, List.append_nil]
    exact ⟨wr, rfl, hw⟩
  | succ r ih =>
    intro m wr O hm hr' hw hO
    have h9' := h9 (n - (r + 1))
    have hdi := hd (n - (r + 1))
    have e43 : ∃ wr', f_Model_writeFraction_43 (f_Model_writeFraction_22 (m - 1)) (mF M wr (nI O.length) dgs (nI L) (iI P) fm bd) (nI n) (nI (n - (r + 1))) (nI (d (n - (r + 1)))) = some (mF M wr' (nI (O ++ gF d n (r + 1)).length) dgs (nI L) (iI P) fm (upd bd 3 (nI (O ++ gF d n (r + 1)).length))) ∧ mo wr' (O ++ gF d n (r + 1)) := by
      obtain ⟨w1, p1, p2⟩ := mF_write (M := M) (dgs := dgs) (ds := nI L) (pt := iI P) (fm := fm) (bd := bd) hw (by omega) (nI (48 + d (n - (r + 1)))) (48 + d (n - (r + 1))) rfl (by omega)
      obtain ⟨w2, p3, p4⟩ := ih (m - 1) w1 (O ++ [48 + d (n - (r + 1))]) (by omega) (by omega) p2 (by rw [len1]; omega)
      rw [e_Model_writeFraction_43, show (48 : Int32) + nI (d (n - (r + 1))) = nI (48 + d (n - (r + 1))) from nI_add 48 _, p1, Option.bind_some, nI_1, show n - (r + 1) + 1 = n - r by omega]
      rw [List.append_assoc] at p3 p4
      exact ⟨w2, p3, p4⟩
    rw [show m = (m - 1) + 1 by omega, e_Model_writeFraction_22, if_neg (nI_ge (by omega) (by omega)), mF_digits]
    by_cases q : L = 0
    · rw [if_pos q] at hdi
      rw [if_pos (show nI L ≤ 0 by rw [q]; decide), show (0 : Int32) = nI 0 from rfl, hdi]
      exact e43
    · rw [if_neg q] at hdi
      rw [if_neg (nI_nle (by omega) (by omega)), m_placed hr hL P hP1 hP2 ((n - (r + 1) : Nat) : Int) (by omega) (by omega) _ (iI_n _), Option.bind_some, hdi]
      exact e43
theorem m_wFr {M : T_Model} {fm : Int32} {bd dgs : Nat → Int32} {N L n : Nat} (hr : rep dgs N L) (hL : L ≤ 19) (P : Int) (hP1 : -60 ≤ P) (hP2 : P ≤ 60) (hn : n ≤ 9) {d : Nat → Nat} (h9 : ∀ i, d i ≤ 9) (hd : ∀ i : Nat, (if L = 0 then 0 else pdg N L (P + i)) = d i) {wr : Nat → Int32} {O : List Nat} (hw : mo wr O) (hO : O.length + 10 ≤ 120) :
    ∃ wr', f_Model_writeFraction (mF M wr (nI O.length) dgs (nI L) (iI P) fm bd) (nI n) = some (mF M wr' (nI (O ++ dot n ++ gF d n n).length) dgs (nI L) (iI P) fm (upd (upd bd 2 (nI (O ++ dot n).length)) 3 (nI (O ++ dot n ++ gF d n n).length))) ∧ mo wr' (O ++ dot n ++ gF d n n) := by
  have e10 : ∀ (wr : Nat → Int32) (O : List Nat), mo wr O → O.length + n ≤ 120 → ∃ wr', f_Model_writeFraction_10 (mF M wr (nI O.length) dgs (nI L) (iI P) fm bd) (nI n) = some (mF M wr' (nI (O ++ gF d n n).length) dgs (nI L) (iI P) fm (upd (upd bd 2 (nI O.length)) 3 (nI (O ++ gF d n n).length))) ∧ mo wr' (O ++ gF d n n) := by
    intro wr O hw hO
    obtain ⟨w1, q1, q2⟩ := m_wFr22 (M := M) (fm := fm) (bd := upd bd 2 (nI O.length)) hr hL P hP1 hP2 (show n ≤ 18 by omega) h9 hd n FU wr O (by rw [FU_val]; omega) (Nat.le_refl _) hw hO
    rw [Nat.sub_self] at q1
    refine ⟨w1, ?_, q2⟩
    rw [e_Model_writeFraction_10, mF_bounds, mF_end, mF_sbounds]
    exact q1
  rw [e_Model_writeFraction]
  unfold dot
  by_cases c : n = 0
  · rw [if_pos (show nI n ≤ 0 by rw [c]; decide), if_pos c, List.append_nil]
    exact e10 wr O hw (by omega)
  · obtain ⟨w1, p1, p2⟩ := mF_write (M := M) (dgs := dgs) (ds := nI L) (pt := iI P) (fm := fm) (bd := bd) hw (by omega) (46 : Int32) 46 rfl (by decide)
    rw [if_neg (nI_nle (by omega) (by omega)), if_neg c, p1, Option.bind_some]
    exact e10 w1 _ p2 (by rw [len1]; omega)
