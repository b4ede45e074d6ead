theorem sAff_p (T : Nat → Nat) (n : Nat) (hT : ∀ i, i < n → 32 ≤ T i ∧ T i ≤ 126) : ∀ (m p : Nat) (q : Bool) (l : List Nat), n - p < m → p ≤ n → okL l →
    p ≤ (sAff T n m p q l).1 ∧ (sAff T n m p q l).1 ≤ n ∧ ((sAff T n m p q l).2.1 = true → (sAff T n m p q l).1 = n) ∧ (sAff T n m p q l).2.2.length + p ≤ l.length + (sAff T n m p q l).1 ∧ okL (sAff T n m p q l).2.2 := by
  have okA : ∀ (l : List Nat) (e : Nat), okL l → (e = 256 ∨ (32 ≤ e ∧ e ≤ 126)) → okL (l ++ [e]) := by
    intro l e h1 h2 x hx
    rcases List.mem_append.mp hx with hx | hx
    · exact h1 x hx
    · rcases List.mem_singleton.mp hx with rfl
      exact h2
  have ln : ∀ (l : List Nat) (e : Nat), (l ++ [e]).length = l.length + 1 := fun l e => by rw [List.length_append]; rfl
  intro m
  induction m with
  | zero => intro p q l hm; omega
  | succ m ih =>
    intro p q l hm hp hl
    by_cases hn : n ≤ p
    · rw [show sAff T n (m + 1) p q l = (p, q, l) from if_pos hn]
      exact ⟨Nat.le_refl p, hp, fun _ => by show p = n; omega, Nat.le_refl _, hl⟩
    · have hT' := hT p (by omega)
      by_cases h39 : T p = 39
      · by_cases h2 : p + 1 < n ∧ T (p + 1) = 39
        · rw [show sAff T n (m + 1) p q l = sAff T n m (p + 2) q (l ++ [39]) from (if_neg hn).trans ((if_pos h39).trans (if_pos h2))]
          obtain ⟨z1, z2, z3, z4, z5⟩ := ih (p + 2) q (l ++ [39]) (by omega) (by omega) (okA l 39 hl (Or.inr (by omega)))
          rw [ln] at z4
          exact ⟨by omega, z2, z3, by omega, z5⟩
        · rw [show sAff T n (m + 1) p q l = sAff T n m (p + 1) (!q) l from (if_neg hn).trans ((if_pos h39).trans (if_neg h2))]
          obtain ⟨z1, z2, z3, z4, z5⟩ := ih (p + 1) (!q) l (by omega) (by omega) hl
          exact ⟨by omega, z2, z3, by omega, z5⟩
      · cases q
        · cases hs : spc (T p)
          · rw [show sAff T n (m + 1) p false l = sAff T n m (p + 1) false (l ++ [if T p = 37 then 256 else T p]) from (if_neg hn).trans ((if_neg h39).trans ((if_neg (by decide)).trans (if_neg (by rw [hs]; decide))))]
            obtain ⟨z1, z2, z3, z4, z5⟩ := ih (p + 1) false (l ++ [if T p = 37 then 256 else T p]) (by omega) (by omega) (okA l _ hl (by split; exact Or.inl rfl; exact Or.inr hT'))
            rw [ln] at z4
            exact ⟨by omega, z2, z3, by omega, z5⟩
          · rw [show sAff T n (m + 1) p false l = (p, false, l) from (if_neg hn).trans ((if_neg h39).trans ((if_neg (by decide)).trans (if_pos hs)))]
            exact ⟨Nat.le_refl p, hp, (fun z => by cases z), Nat.le_refl _, hl⟩
        · rw [show sAff T n (m + 1) p true l = sAff T n m (p + 1) true (l ++ [T p]) from (if_neg hn).trans ((if_neg h39).trans (if_pos rfl))]
          obtain ⟨z1, z2, z3, z4, z5⟩ := ih (p + 1) true (l ++ [T p]) (by omega) (by omega) (okA l _ hl (Or.inr hT'))
          rw [ln] at z4
          exact ⟨by omega, z2, z3, by omega, z5⟩
theorem nu_end (T : Nat → Nat) (n : Nat) : nuOk T n n = false ∧ nuP T n n = n := by
  have h : nuI T n n = (false, n, 0, 0, false, 0) := by
    show sInt T n FU n 0 0 0 false 0 = _
    rw [FU_val]
    exact (if_neg (by decide)).trans ((if_neg (fun z => absurd z.1 (by decide))).trans ((if_neg (fun z => absurd z.1 (Nat.lt_irrefl n))).trans (if_neg (fun z => absurd z.1 (Nat.lt_irrefl n)))))
  constructor
  · unfold nuOk; rw [h]; rfl
  · unfold nuP nuQ; rw [h]; rfl
