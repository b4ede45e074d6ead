-- printing the numbers of patterns
def pI (g z : Nat) : Nat → List Nat
  | 0 => []
  | r + 1 => (if 0 < g ∧ r + 1 = g then [44] else []) ++ ((if r + 1 ≤ z then 48 else 35) :: pI g z r)
def okO (l : List Nat) : Prop := ∀ c ∈ l, 32 ≤ c ∧ c ≤ 126
theorem okO_nil : okO [] := fun _ h => by cases h
theorem okO_app {a b : List Nat} (ha : okO a) (hb : okO b) : okO (a ++ b) := fun c hc => (List.mem_append.mp hc).elim (ha c) (hb c)
theorem okO_cons {c : Nat} {b : List Nat} (h1 : 32 ≤ c) (h2 : c ≤ 126) (hb : okO b) : okO (c :: b) := fun x hx => (List.mem_cons.mp hx).elim (fun e => by subst e; exact ⟨h1, h2⟩) (hb x)
theorem okO_rep {n c : Nat} (h1 : 32 ≤ c) (h2 : c ≤ 126) : okO (List.replicate n c) := fun x hx => by
  have := (List.mem_replicate.mp hx).2
  omega
theorem pI_ok (g z : Nat) : ∀ r, okO (pI g z r) := by
  intro r
  induction r with
  | zero => exact okO_nil
  | succ r ih =>
    refine okO_app ?_ ?_
    · split
      · exact okO_cons (by decide) (by decide) okO_nil
      · exact okO_nil
    · split
      · exact okO_cons (by decide) (by decide) ih
      · exact okO_cons (by decide) (by decide) ih
theorem pI_len (g z : Nat) : ∀ r, (pI g z r).length ≤ r + (if g ≤ r ∧ 0 < g then 1 else 0) := by
  intro r
  induction r with
  | zero => exact Nat.zero_le _
  | succ r ih =>
    show ((if 0 < g ∧ r + 1 = g then [44] else []) ++ ((if r + 1 ≤ z then 48 else 35) :: pI g z r)).length ≤ _
    rw [List.length_append, List.length_cons]
    by_cases q : 0 < g ∧ r + 1 = g
    · rw [if_pos q]
      rw [if_neg (by omega)] at ih
      rw [if_pos (by omega)]
      have : ([44] : List Nat).length = 1 := rfl
      omega
    · rw [if_neg q]
      have : ([] : List Nat).length = 0 := rfl
      by_cases q2 : g ≤ r ∧ 0 < g
      · rw [if_pos q2] at ih
        rw [if_pos (by omega)]
        omega
      · rw [if_neg q2] at ih
        rw [if_neg (by omega)]
        omega
theorem c_pI {pw : T_PatternWriter} {S : T_Shape} {g z h : Nat} (hg : S_group S = nI g) (hg12 : g ≤ 12) (hz : z ≤ 12) (hh : h ≤ 13) : ∀ (m r : Nat) (v : T_Row) (O : List Nat), r < m → r ≤ h + z → cAff v O → O.length + (pI g z r).length ≤ 120 →
    ∃ v', f_PatternWriter_writeInteger_27 pw S m v (nI h) (nI (h + z)) (nI (h + z - r)) = some v' ∧ cAff v' (O ++ pI g z r) := by
  intro m
  induction m with
  | zero => intro r v O h; omega
  | succ m ih =>
    intro r v O hm hr hv hO
    rw [e_PatternWriter_writeInteger_27]
    cases r with
    | zero =>
      rw [if_pos (nI_le (by omega) (by omega))]
      exact ⟨v, rfl, by rw [show pI g z 0 = [] from rfl, List.append_nil]; exact hv⟩
    | succ r =>
      have e60 : ∀ (v : T_Row) (O : List Nat), cAff v O → O.length + (pI g z r).length + 1 ≤ 120 → ∃ v', f_PatternWriter_writeInteger_60 pw S (f_PatternWriter_writeInteger_27 pw S m) v (nI h) (nI (h + z)) (nI (h + z - (r + 1))) = some v' ∧ cAff v' (O ++ ((if r + 1 ≤ z then 48 else 35) :: pI g z r)) := by
        intro v O hv hO
        have go : ∀ (x : Int32) (c : Nat), x = nI c → c < 65536 → ∃ v', f_PatternWriter_writeInteger_74 pw S (f_PatternWriter_writeInteger_27 pw S m) v (nI h) (nI (h + z)) (nI (h + z - (r + 1))) x = some v' ∧ cAff v' (O ++ (c :: pI g z r)) := by
          intro x c hx hc
          obtain ⟨v1, p1, p2⟩ := row_push hv (by omega) x c hx hc
          obtain ⟨v2, p3, p4⟩ := ih r v1 (O ++ [c]) (by omega) (by omega) p2 (by rw [len1]; omega)
          rw [e_PatternWriter_writeInteger_74, p1, Option.bind_some, nI_1, show h + z - (r + 1) + 1 = h + z - r by omega]
          exact ⟨v2, p3, by rw [List.append_assoc] at p4; exact p4⟩
        rw [e_PatternWriter_writeInteger_60]
        by_cases c : r + 1 ≤ z
        · rw [if_pos (nI_le (by omega) (by omega)), if_pos c]
          exact go 48 48 rfl (by decide)
        · rw [if_neg (nI_ge (by omega) (by omega)), if_neg c]
          exact go 35 35 rfl (by decide)
      have hP : pI g z (r + 1) = (if 0 < g ∧ r + 1 = g then [44] else []) ++ ((if r + 1 ≤ z then 48 else 35) :: pI g z r) := rfl
      rw [hP] at hO ⊢
      rw [List.length_append, List.length_cons] at hO
      rw [if_neg (nI_ge (by omega) (by omega)), hg, pk_sub (by omega), show h + z - (h + z - (r + 1)) = r + 1 by omega]
      by_cases q : 0 < g ∧ r + 1 = g
      · rw [if_pos q] at hO ⊢
        have h1 : ([44] : List Nat).length = 1 := rfl
        obtain ⟨v1, p1, p2⟩ := row_push hv (by omega) (44 : Int32) 44 rfl (by decide)
        rw [if_neg (nI_nle q.1 (by omega)), if_pos (congrArg nI q.2), p1, Option.bind_some, ← List.append_assoc]
        exact e60 v1 _ p2 (by rw [len1]; omega)
      · rw [if_neg q] at hO ⊢
        have h1 : ([] : List Nat).length = 0 := rfl
        rw [List.nil_append]
        by_cases q2 : g = 0
        · subst q2
          rw [if_pos (show nI 0 ≤ 0 by decide)]
          exact e60 v O hv (by omega)
        · rw [if_neg (nI_nle (by omega) (by omega)), if_neg (fun e => q ⟨by omega, (nI_eq (by omega) (by omega)).mp e⟩)]
          exact e60 v O hv (by omega)
theorem m_pI {M : T_Model} {g z : Nat} (hg12 : g ≤ 12) (hz : z ≤ 12) (k : Nat) : ∀ (r : Nat) (wr : Nat → Int32) (O : List Nat), r ≤ 13 → mo wr O → O.length + (pI g z r).length ≤ 120 →
    ∃ wr', f_Model_printNumber_46 (k + r) (mW M wr (nI O.length)) (nI z) (nI g) (nI r) = f_Model_printNumber_46 k (mW M wr' (nI (O ++ pI g z r).length)) (nI z) (nI g) (nI 0) ∧ mo wr' (O ++ pI g z r) := by
  intro r
  induction r with
  | zero => intro wr O _ hw _; exact ⟨wr, by rw [show pI g z 0 = [] from rfl, List.append_nil]; rfl, by rw [show pI g z 0 = [] from rfl, List.append_nil]; exact hw⟩
  | succ r ih =>
    intro wr O hr hw hO
    rw [show k + (r + 1) = (k + r) + 1 from rfl, e_Model_printNumber_46]
    have e67 : ∀ (wr : Nat → Int32) (O : List Nat), mo wr O → O.length + (pI g z r).length + 1 ≤ 120 → ∃ wr', f_Model_printNumber_67 (f_Model_printNumber_46 (k + r)) (mW M wr (nI O.length)) (nI z) (nI g) (nI (r + 1)) = f_Model_printNumber_46 k (mW M wr' (nI (O ++ ((if r + 1 ≤ z then 48 else 35) :: pI g z r)).length)) (nI z) (nI g) (nI 0) ∧ mo wr' (O ++ ((if r + 1 ≤ z then 48 else 35) :: pI g z r)) := by
      intro wr O hw hO
      have go : ∀ (x : Int32) (c : Nat), x = nI c → c < 65536 → ∃ wr', f_Model_printNumber_81 (f_Model_printNumber_46 (k + r)) (mW M wr (nI O.length)) (nI z) (nI g) (nI (r + 1)) x = f_Model_printNumber_46 k (mW M wr' (nI (O ++ (c :: pI g z r)).length)) (nI z) (nI g) (nI 0) ∧ mo wr' (O ++ (c :: pI g z r)) := by
        intro x c hx hc
        obtain ⟨w1, p1, p2⟩ := m_write (M := M) hw (by omega) x c hx hc
        obtain ⟨w2, p3, p4⟩ := ih w1 (O ++ [c]) (by omega) p2 (by rw [len1]; omega)
        rw [e_Model_printNumber_81, p1, Option.bind_some, pk_m1]
        rw [List.append_assoc] at p3 p4
        exact ⟨w2, p3, p4⟩
      rw [e_Model_printNumber_67]
      by_cases c : r + 1 ≤ z
      · rw [if_pos (nI_le (by omega) (by omega)), if_pos c]
        exact go 48 48 rfl (by decide)
      · rw [if_neg (nI_ge (by omega) (by omega)), if_neg c]
        exact go 35 35 rfl (by decide)
    have hP : pI g z (r + 1) = (if 0 < g ∧ r + 1 = g then [44] else []) ++ ((if r + 1 ≤ z then 48 else 35) :: pI g z r) := rfl
    rw [hP] at hO ⊢
    rw [List.length_append, List.length_cons] at hO
    rw [if_neg (nI_nle (by omega) (by omega))]
    by_cases q : 0 < g ∧ r + 1 = g
    · rw [if_pos q] at hO ⊢
      have h1 : ([44] : List Nat).length = 1 := rfl
      obtain ⟨w1, p1, p2⟩ := m_write (M := M) hw (by omega) (44 : Int32) 44 rfl (by decide)
      rw [if_neg (nI_nle q.1 (by omega)), if_pos (congrArg nI q.2), p1, Option.bind_some, ← List.append_assoc]
      exact e67 w1 _ p2 (by rw [len1]; omega)
    · rw [if_neg q] at hO ⊢
      have h1 : ([] : List Nat).length = 0 := rfl
      rw [List.nil_append]
      by_cases q2 : g = 0
      · subst q2
        rw [if_pos (show nI 0 ≤ 0 by decide)]
        exact e67 wr O hw (by omega)
      · rw [if_neg (nI_nle (by omega) (by omega)), if_neg (fun e => q ⟨by omega, (nI_eq (by omega) (by omega)).mp e⟩)]
        exact e67 wr O hw (by omega)
theorem c_many {n c : Nat} (hc : c < 65536) (hn : n ≤ 12) : ∀ (m j : Nat) (v : T_Row) (O : List Nat), n - j < m → j ≤ n → cAff v O → O.length + (n - j) ≤ 120 →
    ∃ v', f_PatternWriter_writeMany_2 m v (nI c) (nI n) (nI j) = some v' ∧ cAff v' (O ++ List.replicate (n - j) c) := by
  intro m
  induction m with
  | zero => intro j v O h; omega
  | succ m ih =>
    intro j v O hm hj hv hO
    rw [e_PatternWriter_writeMany_2]
    by_cases q : j = n
    · subst q
      rw [if_pos (Int32.le_refl _), Nat.sub_self]
      exact ⟨v, rfl, by rw [show List.replicate 0 c = [] from rfl, List.append_nil]; exact hv⟩
    · obtain ⟨v1, p1, p2⟩ := row_push hv (by omega) (nI c) c rfl hc
      obtain ⟨v2, p3, p4⟩ := ih (j + 1) v1 (O ++ [c]) (by omega) (by omega) p2 (by rw [len1]; omega)
      rw [if_neg (nI_ge (by omega) (by omega)), p1, Option.bind_some, nI_1]
      refine ⟨v2, p3, ?_⟩
      rw [List.append_assoc] at p4
      rw [show n - j = (n - (j + 1)) + 1 by omega, List.replicate_succ]
      exact p4
theorem c_many0 {n : Nat} (x : Int32) (c : Nat) (hx : x = nI c) (hc : c < 65536) (hn : n ≤ 12) {v : T_Row} {O : List Nat} (hv : cAff v O) (hO : O.length + n ≤ 120) : ∃ v', f_PatternWriter_writeMany x (nI n) v = some v' ∧ cAff v' (O ++ List.replicate n c) := by
  subst hx
  exact c_many hc hn FU 0 v O (by rw [FU_val]; omega) (Nat.zero_le _) hv (by omega)
theorem m_many {M : T_Model} {n c : Nat} (hc : c < 65536) (hn : n ≤ 12) : ∀ (m j : Nat) (wr : Nat → Int32) (O : List Nat), n - j < m → j ≤ n → mo wr O → O.length + (n - j) ≤ 120 →
    ∃ wr', f_Model_many_2 m (mW M wr (nI O.length)) (nI n) (nI c) (nI j) = some (mW M wr' (nI (O ++ List.replicate (n - j) c).length)) ∧ mo wr' (O ++ List.replicate (n - j) c) := by
  intro m
  induction m with
  | zero => intro j wr O h; omega
  | succ m ih =>
    intro j wr O hm hj hw hO
    rw [e_Model_many_2]
    by_cases q : j = n
    · subst q
      rw [if_pos (Int32.le_refl _), Nat.sub_self, show List.replicate 0 c = [] from rfl, List.append_nil]
      exact ⟨wr, rfl, hw⟩
    · obtain ⟨w1, p1, p2⟩ := m_write (M := M) hw (by omega) (nI c) c rfl hc
      obtain ⟨w2, p3, p4⟩ := ih (j + 1) w1 (O ++ [c]) (by omega) (by omega) p2 (by rw [len1]; omega)
      rw [if_neg (nI_ge (by omega) (by omega)), p1, Option.bind_some, nI_1]
      rw [List.append_assoc] at p3 p4
      rw [show n - j = (n - (j + 1)) + 1 by omega, List.replicate_succ]
      exact ⟨w2, p3, p4⟩
theorem m_many0 {M : T_Model} {n : Nat} (x : Int32) (c : Nat) (hx : x = nI c) (hc : c < 65536) (hn : n ≤ 12) {wr : Nat → Int32} {O : List Nat} (hw : mo wr O) (hO : O.length + n ≤ 120) : ∃ wr', f_Model_many (mW M wr (nI O.length)) (nI n) x = some (mW M wr' (nI (O ++ List.replicate n c).length)) ∧ mo wr' (O ++ List.replicate n c) := by
  subst hx
  exact m_many hc hn FU 0 wr O (by rw [FU_val]; omega) (Nat.zero_le _) hw (by omega)
def pF (a b : Nat) : List Nat := if b = 0 then [] else [46] ++ List.replicate a 48 ++ List.replicate (b - a) 35
def pE (e : Nat) : List Nat := if e = 0 then [] else [69] ++ List.replicate e 48
def pAll (g z : Nat) : Nat := (g + 1 - z) + z
def pN (z a b g e : Nat) : List Nat := pI g z (pAll g z) ++ pF a b ++ pE e
theorem pN_ok (z a b g e : Nat) : okO (pN z a b g e) := by
  refine okO_app (okO_app (pI_ok g z _) ?_) ?_
  · unfold pF
    split
    · exact okO_nil
    · exact okO_app (okO_app (okO_cons (by decide) (by decide) okO_nil) (okO_rep (by decide) (by decide))) (okO_rep (by decide) (by decide))
  · unfold pE
    split
    · exact okO_nil
    · exact okO_app (okO_cons (by decide) (by decide) okO_nil) (okO_rep (by decide) (by decide))
theorem pF_len {a b : Nat} (h : a ≤ b) : (pF a b).length ≤ b + 1 := by
  unfold pF
  split
  · exact Nat.zero_le _
  · rw [List.length_append, List.length_append, List.length_replicate, List.length_replicate]
    have : ([46] : List Nat).length = 1 := rfl
    omega
theorem pE_len (e : Nat) : (pE e).length ≤ e + 1 := by
  unfold pE
  split
  · exact Nat.zero_le _
  · rw [List.length_append, List.length_replicate]
    have : ([69] : List Nat).length = 1 := rfl
    omega
theorem pI_len2 {g z : Nat} (hg : g ≤ 12) (hz : z ≤ 12) : (pI g z (pAll g z)).length ≤ 14 := by
  have := pI_len g z (pAll g z)
  have h : pAll g z ≤ 13 := by unfold pAll; omega
  split at this <;> omega
theorem pN_len {z a b g e : Nat} (hz : z ≤ 12) (hab : a ≤ b) (hb : b ≤ 9) (hg : g ≤ 12) (he : e ≤ 3) : (pN z a b g e).length ≤ 28 := by
  unfold pN
  rw [List.length_append, List.length_append]
  have h1 := pI_len2 hg hz
  have h2 := pF_len hab
  have h3 := pE_len e
  omega
theorem c_pN {pw : T_PatternWriter} {S : T_Shape} {kept : Nat → Int32} {z a b g e : Nat} (hS : iShape S kept z a b g e) {v : T_Row} {O : List Nat} (hv : cAff v O) (hO : O.length + 28 ≤ 120) : ∃ v', f_PatternWriter_writeShape pw S v = some v' ∧ cAff v' (O ++ pN z a b g e) := by
  obtain ⟨⟨s0, -⟩, ⟨s1, -⟩, ⟨s2, -⟩, ⟨s3, -⟩, ⟨s4, -⟩, hz, hab, hb, hg, he, -⟩ := hS
  have l1 := pI_len2 hg hz
  have l2 := pF_len hab
  have l3 := pE_len e
  have hi : ∃ v', f_PatternWriter_writeInteger pw S v = some v' ∧ cAff v' (O ++ pI g z (pAll g z)) := by
    have hh : (if (0 : Int32) < (S_group S + 1 - S_leastInteger S) then (S_group S + 1 - S_leastInteger S) else 0) = nI (g + 1 - z) := by
      rw [s3, s0, nI_1]
      by_cases q : z ≤ g + 1
      · rw [pk_sub q]
        by_cases q2 : g + 1 - z = 0
        · rw [q2]; rfl
        · rw [if_pos (li_gt 0 0 rfl (by omega) (by omega))]
      · have := pk_sneg (a := g + 1) (b := z) (by omega) (by omega)
        rw [if_neg (fun h => absurd (Int32.lt_trans h this) (by decide)), show g + 1 - z = 0 by omega]
        rfl
    rw [e_PatternWriter_writeInteger, hh, s0, nI_add]
    have := c_pI (pw := pw) (S := S) (g := g) (z := z) (h := g + 1 - z) s3 hg hz (by omega) FU (pAll g z) v O (by unfold pAll; rw [FU_val]; omega) (Nat.le_refl _) hv (by omega)
    rw [show g + 1 - z + z - pAll g z = 0 from Nat.sub_self _] at this
    exact this
  obtain ⟨v1, p1, p2⟩ := hi
  have l4 : (O ++ pI g z (pAll g z)).length ≤ O.length + 14 := by rw [List.length_append]; omega
  have h45 : ∀ (v : T_Row) (O : List Nat), cAff v O → O.length + 4 ≤ 120 → ∃ v', f_PatternWriter_writeShape_45 pw S v = some v' ∧ cAff v' (O ++ pE e) := by
    intro v O hv hO
    rw [e_PatternWriter_writeShape_45, s4]
    unfold pE
    by_cases q : e = 0
    · subst q
      rw [if_pos (show nI 0 ≤ 0 by decide), if_pos rfl, List.append_nil]
      exact ⟨v, rfl, hv⟩
    · obtain ⟨v1, p1, p2⟩ := row_push hv (by omega) (69 : Int32) 69 rfl (by decide)
      obtain ⟨v2, p3, p4⟩ := c_many0 (n := e) (48 : Int32) 48 rfl (by decide) (by omega) p2 (by rw [len1]; omega)
      rw [if_neg (nI_nle (by omega) (by omega)), p1, Option.bind_some, p3, Option.bind_some, if_neg q, ← List.append_assoc]
      exact ⟨v2, rfl, p4⟩
  rw [e_PatternWriter_writeShape, p1, Option.bind_some, s2, s1]
  unfold pN
  rw [← List.append_assoc, ← List.append_assoc]
  unfold pF
  by_cases q : b = 0
  · subst q
    rw [if_pos (show nI 0 ≤ 0 by decide), if_pos rfl, List.append_nil]
    exact h45 v1 _ p2 (by omega)
  · obtain ⟨v2, p3, p4⟩ := row_push p2 (by omega) (46 : Int32) 46 rfl (by decide)
    obtain ⟨v3, p5, p6⟩ := c_many0 (n := a) (48 : Int32) 48 rfl (by decide) (by omega) p4 (by rw [len1]; omega)
    obtain ⟨v4, p7, p8⟩ := c_many0 (n := b - a) (35 : Int32) 35 rfl (by decide) (by omega) p6 (by rw [List.length_append, List.length_replicate, len1]; omega)
    rw [if_neg (nI_nle (by omega) (by omega)), p3, Option.bind_some, p5, Option.bind_some, pk_sub hab, p7, Option.bind_some, if_neg q, ← List.append_assoc, ← List.append_assoc]
    exact h45 v4 _ p8 (by rw [List.length_append, List.length_append, List.length_replicate, List.length_replicate, len1]; omega)
theorem m_pN {M : T_Model} {S : T_Shape} {z a b g e : Nat} (hS : iShape S (M_kept M) z a b g e) {wr : Nat → Int32} {O : List Nat} (hw : mo wr O) (hO : O.length + 28 ≤ 120) : ∃ wr', f_Model_printNumber (mW M wr (nI O.length)) = some (mW M wr' (nI (O ++ pN z a b g e).length)) ∧ mo wr' (O ++ pN z a b g e) := by
  obtain ⟨⟨-, s0⟩, ⟨-, s1⟩, ⟨-, s2⟩, ⟨-, s3⟩, ⟨-, s4⟩, hz, hab, hb, hg, he, -⟩ := hS
  have l1 := pI_len2 hg hz
  have k0 : ∀ wr en, (M_kept (mW M wr en)) (0 : Int32).toNatClampNeg = nI z := fun _ _ => s0
  have k1 : ∀ wr en, (M_kept (mW M wr en)) (1 : Int32).toNatClampNeg = nI a := fun _ _ => s1
  have k2 : ∀ wr en, (M_kept (mW M wr en)) (2 : Int32).toNatClampNeg = nI b := fun _ _ => s2
  have k3 : ∀ wr en, (M_kept (mW M wr en)) (3 : Int32).toNatClampNeg = nI g := fun _ _ => s3
  have k4 : ∀ wr en, (M_kept (mW M wr en)) (4 : Int32).toNatClampNeg = nI e := fun _ _ => s4
  have hA : pAll g z ≤ 13 := by unfold pAll; omega
  have st : f_Model_printNumber (mW M wr (nI O.length)) = f_Model_printNumber_46 (900 + 100) (mW M wr (nI O.length)) (nI z) (nI g) (nI (pAll g z)) := by
    rw [e_Model_printNumber, k3, k0]
    unfold pAll
    by_cases q : g = 0
    · subst q
      rw [if_pos (show nI 0 = 0 from rfl)]
      by_cases q2 : z = 0
      · subst q2
        rw [if_pos (show nI 0 = 0 from rfl)]; rfl
      · rw [if_neg (nI_ne0 (by omega) (by omega)), show 0 + 1 - z + z = z by omega]; rfl
    · rw [if_neg (nI_ne0 (by omega) (by omega))]
      by_cases q2 : z ≤ g
      · rw [if_pos (nI_le q2 (by omega)), nI_1, show g + 1 - z + z = g + 1 by omega]; rfl
      · rw [if_neg (nI_ge (by omega) (by omega)), show g + 1 - z + z = z by omega]; rfl
  obtain ⟨w1, p1, p2⟩ := m_pI (M := M) hg hz (1000 - pAll g z) (pAll g z) wr O hA hw (by omega)
  have l4 : (O ++ pI g z (pAll g z)).length ≤ O.length + 14 := by rw [List.length_append]; omega
  have h136 : ∀ (wr : Nat → Int32) (O : List Nat), mo wr O → O.length + 4 ≤ 120 → ∃ wr', f_Model_printNumber_136 (mW M wr (nI O.length)) = some (mW M wr' (nI (O ++ pE e).length)) ∧ mo wr' (O ++ pE e) := by
    intro wr O hw hO
    rw [e_Model_printNumber_136, k4]
    unfold pE
    by_cases q : e = 0
    · subst q
      rw [if_pos (show nI 0 ≤ 0 by decide), if_pos rfl, List.append_nil]
      exact ⟨wr, rfl, hw⟩
    · obtain ⟨w1, p1, p2⟩ := m_write (M := M) hw (by omega) (69 : Int32) 69 rfl (by decide)
      obtain ⟨w2, p3, p4⟩ := m_many0 (M := M) (n := e) (48 : Int32) 48 rfl (by decide) (by omega) p2 (by rw [len1]; omega)
      rw [if_neg (nI_nle (by omega) (by omega)), p1, Option.bind_some, k4, p3, Option.bind_some, if_neg q, ← List.append_assoc]
      exact ⟨w2, rfl, p4⟩
  rw [st, show 900 + 100 = (1000 - pAll g z) + pAll g z by omega, p1, show 1000 - pAll g z = (999 - pAll g z) + 1 by omega, e_Model_printNumber_46, if_pos (show nI 0 ≤ 0 by decide), k2]
  unfold pN
  rw [← List.append_assoc, ← List.append_assoc]
  unfold pF
  by_cases q : b = 0
  · subst q
    rw [if_pos (show nI 0 ≤ 0 by decide), if_pos rfl, List.append_nil]
    exact h136 w1 _ p2 (by omega)
  · obtain ⟨w2, p3, p4⟩ := m_write (M := M) p2 (by omega) (46 : Int32) 46 rfl (by decide)
    obtain ⟨w3, p5, p6⟩ := m_many0 (M := M) (n := a) (48 : Int32) 48 rfl (by decide) (by omega) p4 (by rw [len1]; omega)
    obtain ⟨w4, p7, p8⟩ := m_many0 (M := M) (n := b - a) (35 : Int32) 35 rfl (by decide) (by omega) p6 (by rw [List.length_append, List.length_replicate, len1]; omega)
    rw [if_neg (nI_nle (by omega) (by omega)), p3, Option.bind_some, k1, p5, Option.bind_some, k2, k1, pk_sub hab, p7, Option.bind_some, if_neg q, ← List.append_assoc, ← List.append_assoc]
    exact h136 w4 _ p8 (by rw [List.length_append, List.length_append, List.length_replicate, List.length_replicate, len1]; omega)
