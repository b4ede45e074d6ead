-- a body is read
def s00 : St := (0, 0, 0, 0, 0, 0)
theorem s00_I (K : Nat) : gI s00 K := ⟨fun _ => ⟨rfl, rfl⟩, fun (z : 0 < 0) => absurd z (by decide), Nat.pow_pos (by decide), fun _ => Nat.pow_pos (by decide), Nat.le_refl _, Nat.le_refl _, Nat.le_refl _, Nat.zero_le _⟩
def scQ (T : Nat → Nat) (e : Nat) (r : St × Nat) : St × Nat := if r.2 < e ∧ T r.2 = 46 then scF T e (e - (r.2 + 1)) r.1 else r
def scN (T : Nat → Nat) (b e : Nat) (g : Bool) : St × Nat := scQ T e (scI T b e g (e - b) s00)
def exN (T : Nat → Nat) (e q : Nat) : Bool := decide (q + 1 < e ∧ T (q + 1) = 45)
def exA (T : Nat → Nat) (e q : Nat) : Nat := if exN T e q = true then q + 2 else q + 1
def exR (T : Nat → Nat) (e q : Nat) : Nat × Nat × Nat := scE T e 3 (exA T e q) 0
def okQ (T : Nat → Nat) (e : Nat) (s : St) (q x : Nat) : Bool := decide (0 < s.2.2.2.2.1) && (if x = 0 then decide (q = e) else decide (q < e ∧ T q = 69) && (decide ((exR T e q).2.2 < 3) && decide ((exR T e q).1 = e)))
def exQ (T : Nat → Nat) (e q x : Nat) : Int32 := if x = 0 then 0 else exV (exN T e q) (exR T e q).2.1
theorem scN_p {T : Nat → Nat} {b e : Nat} {g : Bool} (hb : b ≤ e) : b ≤ (scN T b e g).2 ∧ (scN T b e g).2 ≤ e ∧ gI (scN T b e g).1 (scN T b e g).2 := by
  obtain ⟨h1, h2, h3⟩ := scI_p (T := T) (b := b) (g := g) (e - b) s00 (by omega) (s00_I (e - (e - b)))
  unfold scN scQ
  by_cases c : (scI T b e g (e - b) s00).2 < e ∧ T (scI T b e g (e - b) s00).2 = 46
  · rw [if_pos c]
    obtain ⟨i1, i2, i3⟩ := scF_p (T := T) (e := e) (e - ((scI T b e g (e - b) s00).2 + 1)) (scI T b e g (e - b) s00).1 (by omega) (gI_le h3 (by omega))
    exact ⟨by omega, i2, i3⟩
  · rw [if_neg c]
    exact ⟨by omega, h2, h3⟩
theorem c_pl {b e q : Nat} {neg ex pp : Int32} {s : St} : sN_place (nR b e q neg s ex pp) (nI q + 1) = nR b e (q + 1) neg s ex pp := by rw [nI_1]; rfl
theorem c_rExp {v : T_Row} {T : Nat → Nat} {n b e q : Nat} (hR : RowOf v T n) (he : e ≤ n) {neg pp : Int32} {s : St} (hb : b ≤ q) (hq : q ≤ e) : ∃ p' ex', f_NumberReader_readExponent (nR b e q neg s 0 pp) v = some (bB (decide (q < e ∧ T q = 69) && decide ((exR T e q).2.2 < 3)), nR b e p' neg s ex' pp) ∧ ((decide (q < e ∧ T q = 69) && decide ((exR T e q).2.2 < 3)) = true → p' = (exR T e q).1 ∧ ex' = exV (exN T e q) (exR T e q).2.1) := by
  have hn := hR.2.1
  rw [e_NumberReader_readExponent, show N_place (nR b e q neg s 0 pp) = nI q from rfl, c_bodyAt hR he (by omega) q (by omega) _ rfl, Option.bind_some]
  by_cases c : q < e ∧ T q = 69
  · rw [if_pos ((bA_eq hR.2.2 he hb 69 69 rfl (by decide)).mpr c), c_pl, nI_1, c_bodyAt hR he (by omega) (q + 1) (by omega) _ rfl, Option.bind_some, decide_eq_true c, Bool.true_and]
    have go : ∀ (x2 : Bool), exN T e q = x2 → f_NumberReader_readExponent_45 v (nR b e (q + 1) neg s 0 pp) (bB x2) = some (bB (decide ((exR T e q).2.2 < 3)), nR b e (exR T e q).1 neg s (exV (exN T e q) (exR T e q).2.1) pp) := by
      intro x2 hx
      have hA : exA T e q = (if x2 = true then q + 2 else q + 1) := by unfold exA; rw [hx]
      have := c_rEx (v := v) hR he (b := b) (neg := neg) (ex := 0) (pp := pp) (s := s) x2 FU 3 (exA T e q) 0 (by rw [FU_val]; omega) (Nat.le_refl _) (by rw [hA]; split <;> omega) (by rw [hA]; split <;> omega)
      rw [e_NumberReader_readExponent_45, hx]
      cases x2
      · rw [if_pos b_f]
        rw [hA] at this
        unfold exR
        rw [hA]
        exact this
      · rw [if_neg b_t, show N_place (nR b e (q + 1) neg s 0 pp) = nI (q + 1) from rfl, c_pl]
        rw [hA] at this
        unfold exR
        rw [hA]
        exact this
    by_cases c2 : q + 1 < e ∧ T (q + 1) = 45
    · rw [if_pos ((bA_eq hR.2.2 he (by omega) 45 45 rfl (by decide)).mpr c2)]
      exact ⟨_, _, go true (decide_eq_true c2), fun _ => ⟨rfl, rfl⟩⟩
    · rw [if_neg (fun z => c2 ((bA_eq hR.2.2 he (by omega) 45 45 rfl (by decide)).mp z))]
      exact ⟨_, _, go false (decide_eq_false c2), fun _ => ⟨rfl, rfl⟩⟩
  · rw [if_neg (fun z => c ((bA_eq hR.2.2 he hb 69 69 rfl (by decide)).mp z)), decide_eq_false c, Bool.false_and]
    exact ⟨_, _, rfl, fun z => by cases z⟩
theorem c_b72 {v : T_Row} {S : T_Shape} {b e q : Nat} {neg ex pp : Int32} {s : St} (hq : q < 1000) (he : e < 1000) : f_NumberReader_readBody_72 v S (nR b e q neg s ex pp) = some (bB (decide (q = e)), nR b e q neg s ex pp) := by
  rw [e_NumberReader_readBody_72, show N_place (nR b e q neg s ex pp) = nI q from rfl, show N_end (nR b e q neg s ex pp) = nI e from rfl]
  by_cases c : q = e
  · rw [if_pos (congrArg nI c), decide_eq_true c]; rfl
  · rw [if_neg (fun z => c ((nI_eq (by omega) (by omega)).mp z)), decide_eq_false c]; rfl
theorem c_b46 {v : T_Row} {T : Nat → Nat} {n b e q x : Nat} (hR : RowOf v T n) (he : e ≤ n) {S : T_Shape} (hS : S_exponentZeros S = nI x) (hx : x ≤ 3) {neg pp : Int32} {s : St} (hb : b ≤ q) (hq : q ≤ e) (hs : gI s q) : ∃ p' ex', f_NumberReader_readBody_46 v S (nR b e q neg s 0 pp) = some (bB (okQ T e s q x), nR b e p' neg s ex' pp) ∧ (okQ T e s q x = true → ex' = exQ T e q x) := by
  have hn := hR.2.1
  have hal := hs.2.2.2.2.2.2.2
  rw [e_NumberReader_readBody_46, show N_allDigits (nR b e q neg s 0 pp) = nI s.2.2.2.2.1 from rfl, hS]
  unfold okQ exQ
  by_cases c : s.2.2.2.2.1 = 0
  · rw [if_pos (show nI s.2.2.2.2.1 = 0 by rw [c]; rfl), decide_eq_false (show ¬ 0 < s.2.2.2.2.1 by omega), Bool.false_and]
    exact ⟨_, _, rfl, fun z => by cases z⟩
  · rw [if_neg (nI_ne0 (by omega) (by omega)), decide_eq_true (show 0 < s.2.2.2.2.1 by omega), Bool.true_and]
    by_cases cx : x = 0
    · subst cx
      rw [if_pos (show nI 0 ≤ 0 by decide), if_pos rfl, if_pos rfl, c_b72 (by omega) (by omega)]
      exact ⟨_, _, rfl, fun _ => rfl⟩
    · rw [if_neg (nI_nle (by omega) (by omega)), if_neg cx, if_neg cx, ← Bool.and_assoc]
      obtain ⟨p', ex', r1, r2⟩ := c_rExp hR he (neg := neg) (pp := pp) (s := s) hb hq
      rw [r1, Option.bind_some]
      cases hc : (decide (q < e ∧ T q = 69) && decide ((exR T e q).2.2 < 3))
      · dsimp only
        rw [if_pos b_f, Bool.false_and]
        exact ⟨_, _, rfl, fun z => by cases z⟩
      · obtain ⟨rfl, rfl⟩ := r2 hc
        have l1 := (scE_p (T := T) (e := e) 3 (exA T e q) 0).2.1
        have l2 : exA T e q ≤ q + 2 := by unfold exA; split <;> omega
        have l3 : (exR T e q).1 ≤ exA T e q + 3 := l1
        dsimp only
        rw [if_neg b_t, Bool.true_and, c_b72 (by omega) (by omega)]
        exact ⟨_, _, rfl, fun _ => rfl⟩
theorem c_rBody {v : T_Row} {T : Nat → Nat} {n b e gg x : Nat} (hR : RowOf v T n) (he : e ≤ n) (hb : b ≤ e) {S : T_Shape} (hG : S_group S = nI gg) (hg : gg ≤ 12) (hS : S_exponentZeros S = nI x) (hx : x ≤ 3) {neg pp : Int32} :
    ∃ p' ex', f_NumberReader_readBody (nR b e b neg s00 0 pp) v S = some (bB (okQ T e (scN T b e (decide (0 < gg))).1 (scN T b e (decide (0 < gg))).2 x), nR b e p' neg (scN T b e (decide (0 < gg))).1 ex' pp) ∧ (okQ T e (scN T b e (decide (0 < gg))).1 (scN T b e (decide (0 < gg))).2 x = true → ex' = exQ T e (scN T b e (decide (0 < gg))).2 x) := by
  have hn := hR.2.1
  have st : f_NumberReader_readBody (nR b e b neg s00 0 pp) v S = f_NumberReader_readBody_14 v S (nR b e b neg s00 0 pp) (bB (decide (0 < gg))) := by
    rw [e_NumberReader_readBody, hG]
    by_cases c : gg = 0
    · subst c
      rw [if_pos (show nI 0 ≤ 0 by decide)]; rfl
    · rw [if_neg (nI_nle (by omega) (by omega)), decide_eq_true (show 0 < gg by omega)]; rfl
  obtain ⟨h1, h2, h3⟩ := scI_p (T := T) (b := b) (g := decide (0 < gg)) (e - b) s00 (by omega) (s00_I (e - (e - b)))
  have i1 := c_rInt (b := b) (neg := neg) (ex := 0) (pp := pp) hR he (g := decide (0 < gg)) FU (e - b) s00 (by rw [FU_val]; omega) (by omega) (by omega) (s00_I _)
  rw [show e - (e - b) = b by omega] at i1
  have n1 := scN_p (T := T) (g := decide (0 < gg)) hb
  rw [st, e_NumberReader_readBody_14, show f_NumberReader_readInteger (nR b e b neg s00 0 pp) v (bB (decide (0 < gg))) = _ from i1, Option.bind_some]
  have hqq : ∀ r : St × Nat, r = scI T b e (decide (0 < gg)) (e - b) s00 → ∃ p' ex', ((f_NumberReader_bodyAt (nR b e r.2 neg r.1 0 pp) v (N_place (nR b e r.2 neg r.1 0 pp))).bind (fun o23 => (if o23 = (46 : Int32) then (f_NumberReader_readFraction (sN_place (nR b e r.2 neg r.1 0 pp) ((N_place (nR b e r.2 neg r.1 0 pp)) + (1 : Int32))) v).bind (fun o43 => f_NumberReader_readBody_46 v S o43) else f_NumberReader_readBody_46 v S (nR b e r.2 neg r.1 0 pp)))) = some (bB (okQ T e (scQ T e r).1 (scQ T e r).2 x), nR b e p' neg (scQ T e r).1 ex' pp) ∧ (okQ T e (scQ T e r).1 (scQ T e r).2 x = true → ex' = exQ T e (scQ T e r).2 x) := by
    intro r hr
    rw [← hr] at h1 h2 h3
    have nn : b ≤ (scQ T e r).2 ∧ (scQ T e r).2 ≤ e ∧ gI (scQ T e r).1 (scQ T e r).2 := by rw [hr]; exact n1
    rw [show N_place (nR b e r.2 neg r.1 0 pp) = nI r.2 from rfl, c_bodyAt hR he (by omega) r.2 (by omega) _ rfl, Option.bind_some, c_pl]
    unfold scQ at nn ⊢
    by_cases c : r.2 < e ∧ T r.2 = 46
    · rw [if_pos c] at nn ⊢
      have i2 := c_rFr (b := b) (neg := neg) (ex := 0) (pp := pp) hR he FU (e - (r.2 + 1)) r.1 (by rw [FU_val]; omega) (by omega) (by omega) (gI_le h3 (by omega))
      rw [show e - (e - (r.2 + 1)) = r.2 + 1 by omega] at i2
      rw [if_pos ((bA_eq hR.2.2 he (by omega) 46 46 rfl (by decide)).mpr c), show f_NumberReader_readFraction (nR b e (r.2 + 1) neg r.1 0 pp) v = _ from i2, Option.bind_some]
      exact c_b46 hR he hS hx nn.1 nn.2.1 nn.2.2
    · rw [if_neg c] at nn ⊢
      rw [if_neg (fun z => c ((bA_eq hR.2.2 he (by omega) 46 46 rfl (by decide)).mp z))]
      exact c_b46 hR he hS hx nn.1 nn.2.1 nn.2.2
  exact hqq _ rfl
