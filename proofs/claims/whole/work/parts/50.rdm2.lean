-- the reference reads a body: its loops
def m28 (m : Nat) (M : T_Model) (nr : Int64) (ns : Int32) (b e : Nat) (s : St) (seen : Bool) (p : Nat) (x11 : Int32) : Option O_Model_body := f_Model_body_28 m (mR M nr ns (bB (decide (17 < s.2.1)))) (nI b) (nI e) (lN s.1) (nI s.2.1) (nI s.2.2.2.1) (nI s.2.2.2.2.2) (nI s.2.2.2.2.1) (bB seen) (nI p) x11
def m338 (M : T_Model) (nr : Int64) (ns : Int32) (e : Nat) (r : St × Nat) : Option O_Model_body := f_Model_body_338 (mR M nr ns (bB (decide (17 < r.1.2.1)))) (nI e) (lN r.1.1) (nI r.1.2.2.2.1) (nI r.1.2.2.2.2.2) (nI r.2) (0 : Int32) (bB (decide (0 < r.1.2.2.2.2.1)))
theorem m_stop {M : T_Model} {nr : Int64} {ns : Int32} {b e : Nat} {s : St} {seen : Bool} {p : Nat} (m : Nat) (hs : s.2.2.2.2.1 < 1000) : m28 (m + 1) M nr ns b e s seen p (0 : Int32) = m338 M nr ns e (s, p) := by
  unfold m28 m338
  rw [e_Model_body_28, if_pos rfl]
  by_cases c : s.2.2.2.2.1 = 0
  · rw [if_pos (show nI s.2.2.2.2.1 ≤ 0 by rw [c]; decide), decide_eq_false (show ¬ 0 < s.2.2.2.2.1 by omega)]; rfl
  · rw [if_neg (nI_nle (by omega) (by omega)), decide_eq_true (show 0 < s.2.2.2.2.1 by omega)]; rfl
theorem m_225 {M : T_Model} {T : Nat → Nat} {n b e gg : Nat} (hM : ModOf M T n) (he : e ≤ n) (hk : M_kept M 3 = nI gg) (hg : gg ≤ 12) {nr : Int64} {ns lg : Int32} (K : K28) (x3 : Int64) (x5 x6 x7 x8 : Int32) (seen : Bool) {p : Nat} (hb : b ≤ p) (hp : p ≤ e) :
    f_Model_body_225 K (mR M nr ns lg) (nI b) (nI e) x3 x5 x6 x7 x8 (bB seen) (nI p) = if (decide (p < e) && (!seen && (decide (0 < gg) && (decide (T p = 44) && btw T b e p)))) = true then K (mR M nr ns lg) (nI b) (nI e) x3 x5 x6 x7 x8 (bB seen) (nI (p + 1)) (1 : Int32) else K (mR M nr ns lg) (nI b) (nI e) x3 x5 x6 x7 x8 (bB seen) (nI p) (0 : Int32) := by
  have hn := hM.2.1
  have f303 : f_Model_body_303 K (mR M nr ns lg) (nI b) (nI e) x3 x5 x6 x7 x8 (bB seen) (nI p) = K (mR M nr ns lg) (nI b) (nI e) x3 x5 x6 x7 x8 (bB seen) (nI p) (0 : Int32) := by
    rw [e_Model_body_303, e_Model_body_304, e_Model_body_306, if_pos rfl]; rfl
  have f260 : ∀ w : Bool, f_Model_body_260 K (mR M nr ns lg) (nI b) (nI e) x3 x5 x6 x7 x8 (bB seen) (nI p) (bB w) = if (decide (p < e) && (!seen && (decide (0 < gg) && (decide (T p = 44) && w)))) = true then K (mR M nr ns lg) (nI b) (nI e) x3 x5 x6 x7 x8 (bB seen) (nI (p + 1)) (1 : Int32) else K (mR M nr ns lg) (nI b) (nI e) x3 x5 x6 x7 x8 (bB seen) (nI p) (0 : Int32) := by
    intro w
    rw [e_Model_body_260, f303, mR_text, mR_kept, show M_kept M (3 : Int32).toNatClampNeg = nI gg from hk]
    by_cases c : p < e
    · have hv := hM.2.2 p (by omega)
      have hx : M_text M (nI p).toNatClampNeg = nI (T p) := by rw [nI_clamp (by omega)]; exact hv.1
      rw [if_neg (nI_ge c (by omega)), if_pos (ixN (by omega) (by decide)), hx, decide_eq_true c, Bool.true_and]
      by_cases c2 : T p = 44
      · rw [if_pos (show nI (T p) = 44 by rw [c2]; rfl), decide_eq_true c2, Bool.true_and]
        by_cases c3 : gg = 0
        · subst c3
          rw [if_pos (show nI 0 ≤ 0 by decide), decide_eq_false (show ¬ 0 < 0 by decide), Bool.false_and, Bool.and_false, ib_f]
        · rw [if_neg (nI_nle (by omega) (by omega)), decide_eq_true (show 0 < gg by omega), Bool.true_and]
          cases seen
          · rw [if_pos b_f]
            cases w
            · rw [if_pos b_f]; rfl
            · rw [if_neg b_t, e_Model_body_304, m_306]; rfl
          · rw [if_neg b_t]; rfl
      · rw [if_neg (nI_nel 44 44 rfl (by omega) (by decide) c2), decide_eq_false c2, Bool.false_and, Bool.and_false, Bool.and_false, ib_f]
    · rw [if_pos (nI_le (by omega) (by omega)), decide_eq_false c, Bool.false_and, ib_f]
  have g0 : f_Model_body_260 K (mR M nr ns lg) (nI b) (nI e) x3 x5 x6 x7 x8 (bB seen) (nI p) (0 : Int32) = _ := f260 false
  have g1 : f_Model_body_260 K (mR M nr ns lg) (nI b) (nI e) x3 x5 x6 x7 x8 (bB seen) (nI p) (1 : Int32) = _ := f260 true
  rw [e_Model_body_225, e_Model_body_259, g0, g1]
  unfold btw
  by_cases c : b < p
  · rw [if_neg (nI_ge c (by omega)), show nI p - 1 = nI (p - 1) from pk_sub (b := 1) (by omega), m_digAt hM he (p - 1) (by omega), Option.bind_some, decide_eq_true c, Bool.true_and]
    cases isD T e (p - 1)
    · rw [if_pos b_f]; rfl
    · rw [if_neg b_t, nI_1, m_digAt hM he (p + 1) (by omega), Option.bind_some, Bool.true_and]
      cases isD T e (p + 1)
      · rw [if_pos b_f]
      · rw [if_neg b_t]
  · rw [if_pos (nI_le (by omega) (by omega)), decide_eq_false c, Bool.false_and]
theorem dg_c {f d : Nat} {s : St} : (dg f d s).2.2.2.2.1 = s.2.2.2.2.1 + 1 ∧ (dg f d s).2.2.2.2.2 = s.2.2.2.2.2 + f := by
  unfold dg
  split
  · exact ⟨rfl, rfl⟩
  · split <;> exact ⟨rfl, rfl⟩
theorem m_step {M : T_Model} {T : Nat → Nat} {n b e : Nat} (hM : ModOf M T n) (he : e ≤ n) {nr : Int64} {ns : Int32} {s : St} (seen : Bool) (m r : Nat) (hr : r + 1 ≤ e) (hs : gI s (e - (r + 1))) (hd : isD T e (e - (r + 1)) = true) :
    m28 (m + 1) M nr ns b e s seen (e - (r + 1)) (1 : Int32) = m28 m M nr ns b e (dg (if seen = true then 1 else 0) (T (e - (r + 1)) - 48) s) seen (e - r) (1 : Int32) := by
  have hn := hM.2.1
  have w := isD_p hd
  have hv := hM.2.2 (e - (r + 1)) (by omega)
  have hx : M_text M (nI (e - (r + 1))).toNatClampNeg = nI (T (e - (r + 1))) := by rw [nI_clamp (by omega)]; exact hv.1
  have hfr : s.2.2.2.2.2 ≤ 120 := by
    have := hs.2.2.2.2.2.2
    omega
  unfold m28
  rw [e_Model_body_28, if_neg (show ¬ (1 : Int32) = 0 by decide), m_digAt hM he _ (by omega), Option.bind_some, hd, if_neg b_t, if_pos (ixN (by omega) (by decide)), mR_text, hx, nI_1]
  have hc := fun f => dg_c (f := f) (d := T (e - (r + 1)) - 48) (s := s)
  cases seen
  · rw [if_pos b_f, m_take (f := 0) (K := e - (r + 1)) (d := T (e - (r + 1)) - 48) (f_Model_body_28 m) _ _ _ _ _ hs (by omega) (by omega) (nI (T (e - (r + 1))) - 48) (pk_sub (b := 48) w.2.1), ib_f, (hc 0).1, (hc 0).2, show e - (r + 1) + 1 = e - r by omega]; rfl
  · rw [if_neg b_t, nI_1, m_take (f := 1) (K := e - (r + 1)) (d := T (e - (r + 1)) - 48) (f_Model_body_28 m) _ _ _ _ _ hs (by omega) (by omega) (nI (T (e - (r + 1))) - 48) (pk_sub (b := 48) w.2.1), ib_t, (hc 1).1, (hc 1).2, show e - (r + 1) + 1 = e - r by omega]
theorem m_nod {M : T_Model} {T : Nat → Nat} {n b e gg : Nat} (hM : ModOf M T n) (he : e ≤ n) (hk : M_kept M 3 = nI gg) (hg : gg ≤ 12) {nr : Int64} {ns : Int32} {s : St} (seen : Bool) (m p : Nat) (hb : b ≤ p) (hp : p ≤ e) (hd : isD T e p = false) :
    m28 (m + 1) M nr ns b e s seen p (1 : Int32) = if (!seen && decide (p < e ∧ T p = 46)) = true then m28 m M nr ns b e s true (p + 1) (1 : Int32) else if (decide (p < e) && (!seen && (decide (0 < gg) && (decide (T p = 44) && btw T b e p)))) = true then m28 m M nr ns b e s seen (p + 1) (1 : Int32) else m28 m M nr ns b e s seen p (0 : Int32) := by
  have hn := hM.2.1
  unfold m28
  rw [e_Model_body_28, if_neg (show ¬ (1 : Int32) = 0 by decide), m_digAt hM he _ (by omega), Option.bind_some, hd, if_pos b_f, m_225 hM he hk hg (f_Model_body_28 m) _ _ _ _ _ seen hb hp]
  by_cases c : p < e
  · have hv := hM.2.2 p (by omega)
    have hx : M_text M (nI p).toNatClampNeg = nI (T p) := by rw [nI_clamp (by omega)]; exact hv.1
    rw [if_neg (nI_ge c (by omega)), if_pos (ixN (by omega) (by decide)), mR_text, hx]
    by_cases c2 : T p = 46
    · rw [if_pos (show nI (T p) = 46 by rw [c2]; rfl), decide_eq_true (show p < e ∧ T p = 46 from ⟨c, c2⟩), Bool.and_true]
      cases seen
      · rw [if_pos b_f, m_306]; rfl
      · rw [if_neg b_t]; rfl
    · rw [if_neg (nI_nel 46 46 rfl (by omega) (by decide) c2), decide_eq_false (show ¬ (p < e ∧ T p = 46) from fun z => c2 z.2), Bool.and_false, ib_f]
  · rw [if_pos (nI_le (by omega) (by omega)), decide_eq_false (show ¬ (p < e ∧ T p = 46) from fun z => c z.1), Bool.and_false, ib_f]
theorem isD_e {T : Nat → Nat} {e : Nat} : isD T e e = false := by
  unfold isD
  rw [decide_eq_false (Nat.lt_irrefl e)]; rfl
theorem m_rFr {M : T_Model} {T : Nat → Nat} {n b e gg : Nat} (hM : ModOf M T n) (he : e ≤ n) (hk : M_kept M 3 = nI gg) (hg : gg ≤ 12) {nr : Int64} {ns : Int32} : ∀ (m r : Nat) (s : St), r + 1 < m → r ≤ e → b ≤ e - r → gI s (e - r) →
    m28 m M nr ns b e s true (e - r) (1 : Int32) = m338 M nr ns e (scF T e r s) := by
  have hn := hM.2.1
  intro m
  induction m with
  | zero => intro r s h; omega
  | succ m ih =>
    intro r s hm hr hb hs
    have hal := hs.2.2.2.2.2.2.2
    have stop : isD T e (e - r) = false → m28 (m + 1) M nr ns b e s true (e - r) (1 : Int32) = m338 M nr ns e (s, e - r) := by
      intro hd
      rw [m_nod hM he hk hg true m (e - r) hb (by omega) hd, show (!true) = false from rfl, Bool.false_and, ib_f, Bool.false_and, Bool.and_false, ib_f, show m = (m - 1) + 1 by omega, m_stop _ (by omega)]
    cases r with
    | zero => exact stop isD_e
    | succ r =>
      unfold scF
      cases hd : isD T e (e - (r + 1))
      · rw [ib_f]
        exact stop hd
      · rw [ib_t, m_step hM he true m r hr hs hd, ib_t]
        have w := isD_p hd
        exact ih r _ (by omega) (by omega) (by omega) (by rw [show e - r = e - (r + 1) + 1 by omega]; exact dg_I hs (by omega) (by omega))
theorem m_rInt {M : T_Model} {T : Nat → Nat} {n b e gg : Nat} (hM : ModOf M T n) (he : e ≤ n) (hk : M_kept M 3 = nI gg) (hg : gg ≤ 12) {nr : Int64} {ns : Int32} : ∀ (m r : Nat) (s : St), r + 1 < m → r ≤ e → b ≤ e - r → gI s (e - r) →
    m28 m M nr ns b e s false (e - r) (1 : Int32) = m338 M nr ns e (scQ T e (scI T b e (decide (0 < gg)) r s)) := by
  have hn := hM.2.1
  intro m
  induction m with
  | zero => intro r s h; omega
  | succ m ih =>
    intro r s hm hr hb hs
    have hal := hs.2.2.2.2.2.2.2
    cases r with
    | zero =>
      rw [m_nod hM he hk hg false m (e - 0) hb (by omega) isD_e, decide_eq_false (show ¬ (e - 0 < e ∧ T (e - 0) = 46) by omega), Bool.and_false, ib_f, decide_eq_false (show ¬ e - 0 < e by omega), Bool.false_and, ib_f, show m = (m - 1) + 1 by omega, m_stop _ (by omega)]
      unfold scI scQ
      dsimp only
      rw [if_neg (by omega)]; rfl
    | succ r =>
      unfold scI
      cases hd : isD T e (e - (r + 1))
      · rw [ib_f, m_nod hM he hk hg false m (e - (r + 1)) hb (by omega) hd, show (!false) = true from rfl, Bool.true_and, Bool.true_and, decide_eq_true (show e - (r + 1) < e by omega), Bool.true_and]
        by_cases c : T (e - (r + 1)) = 46
        · have i2 := m_rFr (b := b) hM he hk hg (nr := nr) (ns := ns) m r s (by omega) (by omega) (by omega) (gI_le hs (by omega))
          rw [decide_eq_true (show e - (r + 1) < e ∧ T (e - (r + 1)) = 46 from ⟨by omega, c⟩), ib_t, show e - (r + 1) + 1 = e - r by omega, i2, decide_eq_false (show ¬ T (e - (r + 1)) = 44 by omega), Bool.false_and, Bool.and_false, ib_f]
          unfold scQ
          rw [if_pos (show (s, e - (r + 1)).2 < e ∧ T (s, e - (r + 1)).2 = 46 from ⟨by show e - (r + 1) < e; omega, c⟩), show e - ((s, e - (r + 1)).2 + 1) = r by show e - (e - (r + 1) + 1) = r; omega]
        · rw [decide_eq_false (show ¬ (e - (r + 1) < e ∧ T (e - (r + 1)) = 46) from fun z => c z.2), ib_f]
          cases hc : (decide (0 < gg) && (decide (T (e - (r + 1)) = 44) && btw T b e (e - (r + 1))))
          · rw [ib_f, ib_f, show m = (m - 1) + 1 by omega, m_stop _ (by omega)]
            unfold scQ
            rw [if_neg (show ¬ ((s, e - (r + 1)).2 < e ∧ T (s, e - (r + 1)).2 = 46) from fun z => c z.2)]
          · rw [ib_t, ib_t, show e - (r + 1) + 1 = e - r by omega]
            exact ih r s (by omega) (by omega) (by omega) (gI_le hs (by omega))
      · rw [ib_t, m_step hM he false m r hr hs hd, show (if false = true then 1 else 0) = 0 from rfl]
        have w := isD_p hd
        exact ih r _ (by omega) (by omega) (by omega) (by rw [show e - r = e - (r + 1) + 1 by omega]; exact dg_I hs (by omega) (by omega))
-- the end of a body
theorem m_510 {M : T_Model} {nr : Int64} {ns : Int32} {e q : Nat} {s : St} (hs : gI s q) (hq : q < 1000) (he : e < 1000) {pp : Int32} (hpp : (pp = 2 ∧ M_kept M 5 = 100) ∨ (pp = 0 ∧ M_kept M 5 = 1)) (x12 : Int32) (ok : Bool) :
    f_Model_body_510 (mR M nr ns (bB (decide (17 < s.2.1)))) (nI e) (lN s.1) (nI s.2.2.2.1) (nI s.2.2.2.2.2) (nI q) x12 (bB ok) = some (bB (ok && decide (q = e)), mR M (lN s.1) (if s.1 = 0 then 0 else (nI s.2.2.2.2.2 - nI s.2.2.2.1) - x12 + pp) (bB (decide (17 < s.2.1)))) := by
  obtain ⟨h1, h2, h3, -⟩ := hs
  have hD : s.1 < 2 ^ 63 := Nat.lt_of_lt_of_le h3 (by decide)
  have f558 : ∀ x : Int32, f_Model_body_558 (mR M (lN s.1) ns (bB (decide (17 < s.2.1)))) (nI e) (nI q) (bB ok) x = some (bB (ok && decide (q = e)), mR M (lN s.1) x (bB (decide (17 < s.2.1)))) := by
    intro x
    rw [e_Model_body_558, mR_ss]
    cases ok
    · rw [if_pos b_f]; rfl
    · rw [if_neg b_t]
      by_cases c : q = e
      · rw [if_pos (congrArg nI c), decide_eq_true c]; rfl
      · rw [if_neg (fun z => c ((nI_eq (by omega) (by omega)).mp z)), decide_eq_false c]; rfl
  have f533 : f_Model_body_533 (mR M (lN s.1) ns (bB (decide (17 < s.2.1)))) (nI e) (nI s.2.2.2.1) (nI s.2.2.2.2.2) (nI q) x12 (bB ok) = some (bB (ok && decide (q = e)), mR M (lN s.1) ((nI s.2.2.2.2.2 - nI s.2.2.2.1) - x12 + pp) (bB (decide (17 < s.2.1)))) := by
    rw [e_Model_body_533, mR_kept]
    rcases hpp with ⟨rfl, k⟩ | ⟨rfl, k⟩
    · rw [if_pos (show M_kept M (5 : Int32).toNatClampNeg = 100 from k), e_Model_body_557, f558]
    · rw [if_neg (show ¬ M_kept M (5 : Int32).toNatClampNeg = 100 by rw [show M_kept M (5 : Int32).toNatClampNeg = 1 from k]; decide), e_Model_body_557, f558]
  rw [e_Model_body_510, mR_sr, mR_large]
  by_cases c : s.1 = 0
  · have hc : s.2.1 = 0 := by
      rcases Nat.eq_zero_or_pos s.2.1 with z | z
      · exact z
      · have := (h2 z).2; omega
    have hl : bB (decide (17 < s.2.1)) = 0 := by rw [hc]; rfl
    rw [if_pos ((lc_0 hD 0 0 rfl (by decide)).mpr c), if_pos hl, f558, if_pos c]
  · rw [if_neg (fun z => c ((lc_0 hD 0 0 rfl (by decide)).mp z)), f533, if_neg c]
theorem m_exp {M : T_Model} {T : Nat → Nat} {n e : Nat} (hM : ModOf M T n) (he : e ≤ n) {nr : Int64} {ns lg : Int32} (x3 : Int64) (x6 x7 x13 x14 : Int32) : ∀ (m k p w : Nat), k < m → k ≤ 3 → p < 200 →
    f_Model_body_429 m (mR M nr ns lg) (nI e) x3 x6 x7 (nI p) (nI w) x13 x14 (nI (3 - k)) = f_Model_body_478 (mR M nr ns lg) (nI e) x3 x6 x7 (nI (scE T e k p w).1) (nI (scE T e k p w).2.1) x13 x14 (nI (3 - (scE T e k p w).2.2)) := by
  have hn := hM.2.1
  intro m
  induction m with
  | zero => intro k p w h; omega
  | succ m ih =>
    intro k p w hm hk hp
    rw [e_Model_body_429, m_digAt hM he p (by omega), Option.bind_some]
    cases k with
    | zero =>
      rw [if_pos (show (3 : Int32) ≤ nI (3 - 0) by decide)]
      cases isD T e p
      · rw [if_pos b_f]; rfl
      · rw [if_neg b_t]; rfl
    | succ k =>
      unfold scE
      cases c : isD T e p
      · rw [if_pos b_f, ib_f]
      · have q := isD_p c
        have hv := hM.2.2 p (by omega)
        have hx : M_text M (nI p).toNatClampNeg = nI (T p) := by rw [nI_clamp (by omega)]; exact hv.1
        rw [if_neg b_t, ib_t, if_neg (li_nle 3 3 rfl (by omega) (by decide)), if_pos (ixN (by omega) (by decide)), mR_text, hx, show (10 : Int32) * nI w + nI (T p) - 48 = nI (10 * w + (T p - 48)) by
          rw [show (10 : Int32) * nI w = nI (10 * w) from pk_mul 10 w, nI_add, show (48 : Int32) = nI 48 from rfl, pk_sub (by omega), show 10 * w + T p - 48 = 10 * w + (T p - 48) by omega], nI_1, nI_1, show 3 - (k + 1) + 1 = 3 - k by omega]
        exact ih k (p + 1) _ (by omega) (by omega) (by omega)
theorem m_b338 {M : T_Model} {T : Nat → Nat} {n e q x : Nat} (hM : ModOf M T n) (he : e ≤ n) (hx4 : M_kept M 4 = nI x) (hx : x ≤ 3) {pp : Int32} (hpp : (pp = 2 ∧ M_kept M 5 = 100) ∨ (pp = 0 ∧ M_kept M 5 = 1)) {nr : Int64} {ns : Int32} {s : St} (hq : q ≤ e) (hs : gI s q) :
    ∃ ns', m338 M nr ns e (s, q) = some (bB (okQ T e s q x), mR M (lN s.1) ns' (bB (decide (17 < s.2.1)))) ∧ (okQ T e s q x = true → ns' = (if s.1 = 0 then 0 else (nI s.2.2.2.2.2 - nI s.2.2.2.1) - exQ T e q x + pp)) := by
  have hn := hM.2.1
  have hal := hs.2.2.2.2.2.2.2
  unfold m338 okQ exQ
  dsimp only
  rw [e_Model_body_338, mR_kept, show M_kept M (4 : Int32).toNatClampNeg = nI x from hx4]
  by_cases c : s.2.2.2.2.1 = 0
  · rw [decide_eq_false (show ¬ 0 < s.2.2.2.2.1 by omega), if_pos b_f, m_510 hs (by omega) (by omega) hpp]
    exact ⟨_, rfl, fun z => by cases z⟩
  · rw [decide_eq_true (show 0 < s.2.2.2.2.1 by omega), if_neg b_t, Bool.true_and]
    by_cases cx : x = 0
    · subst cx
      rw [if_pos (show nI 0 ≤ 0 by decide), if_pos rfl, if_pos rfl, m_510 hs (by omega) (by omega) hpp]
      exact ⟨_, rfl, fun _ => rfl⟩
    · rw [if_neg (nI_nle (by omega) (by omega)), if_neg cx, if_neg cx]
      have f377 : ∀ ok : Bool, f_Model_body_377 (mR M nr ns (bB (decide (17 < s.2.1)))) (nI e) (lN s.1) (nI s.2.2.2.1) (nI s.2.2.2.2.2) (nI q) (0 : Int32) (bB ok) = some (bB (ok && (decide ((exR T e q).2.2 < 3) && decide ((exR T e q).1 = e))), mR M (lN s.1) (if s.1 = 0 then 0 else (nI s.2.2.2.2.2 - nI s.2.2.2.1) - exV (exN T e q) (exR T e q).2.1 + pp) (bB (decide (17 < s.2.1)))) := by
        intro ok
        have l1 := (scE_p (T := T) (e := e) 3 (exA T e q) 0)
        have l2 : exA T e q ≤ q + 2 := by unfold exA; split <;> omega
        have l3 : (exR T e q).1 ≤ exA T e q + 3 := l1.2.1
        have l4 : (exR T e q).2.2 ≤ 3 := l1.2.2.1
        have f408 : f_Model_body_408 (mR M nr ns (bB (decide (17 < s.2.1)))) (nI e) (lN s.1) (nI s.2.2.2.1) (nI s.2.2.2.2.2) (nI (q + 1)) (0 : Int32) (bB ok) (bB (exN T e q)) = some (bB (ok && (decide ((exR T e q).2.2 < 3) && decide ((exR T e q).1 = e))), mR M (lN s.1) (if s.1 = 0 then 0 else (nI s.2.2.2.2.2 - nI s.2.2.2.1) - exV (exN T e q) (exR T e q).2.1 + pp) (bB (decide (17 < s.2.1)))) := by
          have f424 : f_Model_body_408 (mR M nr ns (bB (decide (17 < s.2.1)))) (nI e) (lN s.1) (nI s.2.2.2.1) (nI s.2.2.2.2.2) (nI (q + 1)) (0 : Int32) (bB ok) (bB (exN T e q)) = f_Model_body_429 FU (mR M nr ns (bB (decide (17 < s.2.1)))) (nI e) (lN s.1) (nI s.2.2.2.1) (nI s.2.2.2.2.2) (nI (exA T e q)) (nI 0) (bB ok) (bB (exN T e q)) (nI (3 - 3)) := by
            rw [e_Model_body_408]
            unfold exA
            cases exN T e q
            · rw [if_pos b_f]; rfl
            · rw [if_neg b_t, nI_1]; rfl
          rw [f424, m_exp hM he _ _ _ _ _ FU 3 (exA T e q) 0 (by rw [FU_val]; omega) (by omega) (by omega)]
          show f_Model_body_478 (mR M nr ns (bB (decide (17 < s.2.1)))) (nI e) (lN s.1) (nI s.2.2.2.1) (nI s.2.2.2.2.2) (nI (exR T e q).1) (nI (exR T e q).2.1) (bB ok) (bB (exN T e q)) (nI (3 - (exR T e q).2.2)) = _
          have f491 : ∀ y : Int32, f_Model_body_491 (mR M nr ns (bB (decide (17 < s.2.1)))) (nI e) (lN s.1) (nI s.2.2.2.1) (nI s.2.2.2.2.2) (nI (exR T e q).1) (bB ok) (nI (3 - (exR T e q).2.2)) y = some (bB (ok && (decide ((exR T e q).2.2 < 3) && decide ((exR T e q).1 = e))), mR M (lN s.1) (if s.1 = 0 then 0 else (nI s.2.2.2.2.2 - nI s.2.2.2.1) - y + pp) (bB (decide (17 < s.2.1)))) := by
            intro y
            have g510 := fun ok' => m_510 (M := M) (nr := nr) (ns := ns) (e := e) (q := (exR T e q).1) (s := s) (gI_le hs (show q ≤ (exR T e q).1 from Nat.le_trans (by unfold exA; split <;> omega) l1.1)) (by omega) (by omega) hpp y ok'
            rw [e_Model_body_491, e_Model_body_507, e_Model_body_508, e_Model_body_508, ← Bool.and_assoc]
            cases ok
            · rw [if_pos b_f, Bool.false_and]; exact g510 false
            · rw [if_neg b_t, Bool.true_and]
              by_cases ck : (exR T e q).2.2 < 3
              · rw [if_neg (nI_nle (by omega) (by omega)), decide_eq_true ck]; exact g510 true
              · rw [show 3 - (exR T e q).2.2 = 0 by omega, if_pos (show nI 0 ≤ 0 by decide), decide_eq_false ck]; exact g510 false
          rw [e_Model_body_478]
          cases exN T e q
          · rw [if_pos b_f, f491]; rfl
          · rw [if_neg b_t, f491]; rfl
        rw [e_Model_body_377, e_Model_body_407, nI_1, mR_text]
        by_cases c1 : q + 1 < e
        · have hv := hM.2.2 (q + 1) (by omega)
          have hxx : M_text M (nI (q + 1)).toNatClampNeg = nI (T (q + 1)) := by rw [nI_clamp (by omega)]; exact hv.1
          rw [if_neg (nI_ge c1 (by omega)), if_pos (ixN (by omega) (by decide)), hxx]
          by_cases c2 : T (q + 1) = 45
          · rw [if_pos (show nI (T (q + 1)) = 45 by rw [c2]; rfl), show (1 : Int32) = bB (exN T e q) by unfold exN; rw [decide_eq_true (⟨c1, c2⟩ : q + 1 < e ∧ T (q + 1) = 45)]; rfl]
            exact f408
          · rw [if_neg (nI_nel 45 45 rfl (by omega) (by decide) c2)]
            have : bB (exN T e q) = 0 := by unfold exN; rw [decide_eq_false (show ¬ (q + 1 < e ∧ T (q + 1) = 45) from fun z => c2 z.2)]; rfl
            rw [this] at f408
            exact f408
        · rw [if_pos (nI_le (by omega) (by omega))]
          have : bB (exN T e q) = 0 := by unfold exN; rw [decide_eq_false (show ¬ (q + 1 < e ∧ T (q + 1) = 45) from fun z => c1 z.1)]; rfl
          rw [this] at f408
          exact f408
      rw [e_Model_body_376, mR_text]
      by_cases c1 : q < e
      · have hv := hM.2.2 q (by omega)
        have hxx : M_text M (nI q).toNatClampNeg = nI (T q) := by rw [nI_clamp (by omega)]; exact hv.1
        rw [if_neg (nI_ge c1 (by omega)), if_pos (ixN (by omega) (by decide)), hxx]
        by_cases c2 : T q = 69
        · rw [if_pos (show nI (T q) = 69 by rw [c2]; rfl), decide_eq_true (show q < e ∧ T q = 69 from ⟨c1, c2⟩)]
          exact ⟨_, f377 true, fun _ => rfl⟩
        · rw [if_neg (nI_nel 69 69 rfl (by omega) (by decide) c2), decide_eq_false (show ¬ (q < e ∧ T q = 69) from fun z => c2 z.2)]
          exact ⟨_, f377 false, fun _ => rfl⟩
      · rw [if_pos (nI_le (by omega) (by omega)), decide_eq_false (show ¬ (q < e ∧ T q = 69) from fun z => c1 z.1)]
        exact ⟨_, f377 false, fun _ => rfl⟩
theorem m_body {M : T_Model} {T : Nat → Nat} {n b e gg x : Nat} (hM : ModOf M T n) (he : e ≤ n) (hb : b ≤ e) (hk : M_kept M 3 = nI gg) (hg : gg ≤ 12) (hx4 : M_kept M 4 = nI x) (hx : x ≤ 3) {pp : Int32} (hpp : (pp = 2 ∧ M_kept M 5 = 100) ∨ (pp = 0 ∧ M_kept M 5 = 1)) {nr : Int64} {ns lg : Int32} :
    ∃ ns', f_Model_body (mR M nr ns lg) (nI b) (nI e) = some (bB (okQ T e (scN T b e (decide (0 < gg))).1 (scN T b e (decide (0 < gg))).2 x), mR M (lN (scN T b e (decide (0 < gg))).1.1) ns' (bB (decide (17 < (scN T b e (decide (0 < gg))).1.2.1)))) ∧ (okQ T e (scN T b e (decide (0 < gg))).1 (scN T b e (decide (0 < gg))).2 x = true → ns' = (if (scN T b e (decide (0 < gg))).1.1 = 0 then 0 else (nI (scN T b e (decide (0 < gg))).1.2.2.2.2.2 - nI (scN T b e (decide (0 < gg))).1.2.2.2.1) - exQ T e (scN T b e (decide (0 < gg))).2 x + pp)) := by
  have hn := hM.2.1
  have n1 := scN_p (T := T) (g := decide (0 < gg)) hb
  have i1 := m_rInt (b := b) hM he hk hg (nr := nr) (ns := ns) FU (e - b) s00 (by rw [FU_val]; omega) (by omega) (by omega) (s00_I _)
  rw [show e - (e - b) = b by omega] at i1
  rw [show f_Model_body (mR M nr ns lg) (nI b) (nI e) = m28 FU M nr ns b e s00 false b (1 : Int32) from rfl, i1]
  exact m_b338 (q := (scN T b e (decide (0 < gg))).2) (s := (scN T b e (decide (0 < gg))).1) hM he hx4 hx hpp n1.2.1 n1.2.2
