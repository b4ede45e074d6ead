abbrev wd_Model_fraction (cC cI : ClassId) (a0_0 a0_1 a0_2 a0_3 a0_4 a0_5 a0_6 a0_7 : Nat) (v0 : T_Model) : va_W := [(a0_0, .inr (11, [.ref a0_1, .int v0.2.1, .ref a0_2, .int v0.2.2.2.1, .int v0.2.2.2.2.1, .int v0.2.2.2.2.2.1, .ref a0_3, .ref a0_4, .ref a0_5, .int v0.2.2.2.2.2.2.2.2.2.1, .int v0.2.2.2.2.2.2.2.2.2.2.1, .int v0.2.2.2.2.2.2.2.2.2.2.2.1, .int v0.2.2.2.2.2.2.2.2.2.2.2.2.1, .ref a0_6, .int v0.2.2.2.2.2.2.2.2.2.2.2.2.2.2.1, .int v0.2.2.2.2.2.2.2.2.2.2.2.2.2.2.2.1, .int v0.2.2.2.2.2.2.2.2.2.2.2.2.2.2.2.2.1, .ref a0_7, .long v0.2.2.2.2.2.2.2.2.2.2.2.2.2.2.2.2.2.2.1, .int v0.2.2.2.2.2.2.2.2.2.2.2.2.2.2.2.2.2.2.2.1, .long v0.2.2.2.2.2.2.2.2.2.2.2.2.2.2.2.2.2.2.2.2.1, .int v0.2.2.2.2.2.2.2.2.2.2.2.2.2.2.2.2.2.2.2.2.2.1, .int v0.2.2.2.2.2.2.2.2.2.2.2.2.2.2.2.2.2.2.2.2.2.2])), (a0_1, .inl (cC, 120, .inl v0.1)), (a0_2, .inl (cC, 200, .inl v0.2.2.1)), (a0_3, .inl (cI, 160, .inl v0.2.2.2.2.2.2.1)), (a0_4, .inl (cI, 4, .inl v0.2.2.2.2.2.2.2.1)), (a0_5, .inl (cI, 7, .inl v0.2.2.2.2.2.2.2.2.1)), (a0_6, .inl (cI, 40, .inl v0.2.2.2.2.2.2.2.2.2.2.2.2.2.1)), (a0_7, .inl (cI, 6, .inl v0.2.2.2.2.2.2.2.2.2.2.2.2.2.2.2.2.2.1))]
abbrev O_Model_fraction : Type := T_Model
abbrev q_Model_fraction (D : va_G) (cC cI : ClassId) (a0_0 a0_1 a0_2 a0_3 a0_4 a0_5 a0_6 a0_7 : Nat)  (out : O_Model_fraction) (A : Nat → Prop) : Array Value → State → Outcome → State → Prop := va_Qv (fun _ : Unit => True) (fun _ t => va_P D classes (wd_Model_fraction cC cI a0_0 a0_1 a0_2 a0_3 a0_4 a0_5 a0_6 a0_7 out) t.heap ∧ va_D A (wd_Model_fraction cC cI a0_0 a0_1 a0_2 a0_3 a0_4 a0_5 a0_6 a0_7 out)) A
abbrev rm_Model_fraction : Room := { frames := 1, cells := 0, slots := 0, locals := 22 }
def J_Model_fraction_4 (p : Program) (l : Launch) (e : Env) (s : State) (m : MethodId) (args : Array Value) (below : List Frame) (meth : Method) (c : Code) (A : Nat → Prop) (D : va_G) (cC cI : ClassId) (a0_0 a0_1 a0_2 a0_3 a0_4 a0_5 a0_6 a0_7 : Nat) (out : O_Model_fraction) (k : T_Model → Int32 → Int32 → Int32 → Option O_Model_fraction) : Prop := ∀ (v0 : T_Model) (x1 : Int32) (x2 : Int32) (x3 : Int32) (ls : Array Slot) (H : Heap) (locs : List Loc), k v0 x1 x2 x3 = some out → lv_has ls 4 [(0, .ref a0_0), (1, .int x1), (2, .int x2), (3, .int x3)] → va_P D classes (wd_Model_fraction cC cI a0_0 a0_1 a0_2 a0_3 a0_4 a0_5 a0_6 a0_7 v0) H → va_D A (wd_Model_fraction cC cI a0_0 a0_1 a0_2 a0_3 a0_4 a0_5 a0_6 a0_7 v0) → va_S A s.heap H locs → W p l e rm_Model_fraction s m args below meth c H locs 0 0 (MQ below (q_Model_fraction D cC cI a0_0 a0_1 a0_2 a0_3 a0_4 a0_5 a0_6 a0_7 out A) args s 0 0 A) (F0 m 4 ls [])
def J_Model_fraction_27 (p : Program) (l : Launch) (e : Env) (s : State) (m : MethodId) (args : Array Value) (below : List Frame) (meth : Method) (c : Code) (A : Nat → Prop) (D : va_G) (cC cI : ClassId) (a0_0 a0_1 a0_2 a0_3 a0_4 a0_5 a0_6 a0_7 : Nat) (out : O_Model_fraction) (k : T_Model → Int32 → Int32 → Int32 → Option O_Model_fraction) : Prop := ∀ (v0 : T_Model) (x1 : Int32) (x2 : Int32) (x3 : Int32) (ls : Array Slot) (H : Heap) (locs : List Loc), k v0 x1 x2 x3 = some out → lv_has ls 4 [(0, .ref a0_0), (1, .int x1), (2, .int x2), (3, .int x3)] → va_P D classes (wd_Model_fraction cC cI a0_0 a0_1 a0_2 a0_3 a0_4 a0_5 a0_6 a0_7 v0) H → va_D A (wd_Model_fraction cC cI a0_0 a0_1 a0_2 a0_3 a0_4 a0_5 a0_6 a0_7 v0) → va_S A s.heap H locs → W p l e rm_Model_fraction s m args below meth c H locs 0 0 (MQ below (q_Model_fraction D cC cI a0_0 a0_1 a0_2 a0_3 a0_4 a0_5 a0_6 a0_7 out A) args s 0 0 A) (F0 m 27 ls [])
def J_Model_fraction_105 (p : Program) (l : Launch) (e : Env) (s : State) (m : MethodId) (args : Array Value) (below : List Frame) (meth : Method) (c : Code) (A : Nat → Prop) (D : va_G) (cC cI : ClassId) (a0_0 a0_1 a0_2 a0_3 a0_4 a0_5 a0_6 a0_7 : Nat) (out : O_Model_fraction) (k : T_Model → Int32 → Int32 → Int32 → Option O_Model_fraction) : Prop := ∀ (v0 : T_Model) (x1 : Int32) (x2 : Int32) (x3 : Int32) (ls : Array Slot) (H : Heap) (locs : List Loc), k v0 x1 x2 x3 = some out → lv_has ls 4 [(0, .ref a0_0), (1, .int x1), (2, .int x2), (3, .int x3)] → va_P D classes (wd_Model_fraction cC cI a0_0 a0_1 a0_2 a0_3 a0_4 a0_5 a0_6 a0_7 v0) H → va_D A (wd_Model_fraction cC cI a0_0 a0_1 a0_2 a0_3 a0_4 a0_5 a0_6 a0_7 v0) → va_S A s.heap H locs → W p l e rm_Model_fraction s m args below meth c H locs 0 0 (MQ below (q_Model_fraction D cC cI a0_0 a0_1 a0_2 a0_3 a0_4 a0_5 a0_6 a0_7 out A) args s 0 0 A) (F0 m 105 ls [])
def J_Model_fraction_132 (p : Program) (l : Launch) (e : Env) (s : State) (m : MethodId) (args : Array Value) (below : List Frame) (meth : Method) (c : Code) (A : Nat → Prop) (D : va_G) (cC cI : ClassId) (a0_0 a0_1 a0_2 a0_3 a0_4 a0_5 a0_6 a0_7 : Nat) (out : O_Model_fraction) (k : T_Model → Option O_Model_fraction) : Prop := ∀ (v0 : T_Model) (ls : Array Slot) (H : Heap) (locs : List Loc), k v0 = some out → lv_has ls 4 [] → va_P D classes (wd_Model_fraction cC cI a0_0 a0_1 a0_2 a0_3 a0_4 a0_5 a0_6 a0_7 v0) H → va_D A (wd_Model_fraction cC cI a0_0 a0_1 a0_2 a0_3 a0_4 a0_5 a0_6 a0_7 v0) → va_S A s.heap H locs → W p l e rm_Model_fraction s m args below meth c H locs 0 0 (MQ below (q_Model_fraction D cC cI a0_0 a0_1 a0_2 a0_3 a0_4 a0_5 a0_6 a0_7 out A) args s 0 0 A) (F0 m 132 ls [])
def f_Model_fraction_132 (v0 : T_Model) : Option O_Model_fraction := some v0
set_option maxHeartbeats 4000000 in
set_option maxRecDepth 100000 in
theorem w_Model_fraction_132 {p : Program} {l : Launch} {e : Env} {s : State} {m : MethodId} {args : Array Value} {below : List Frame} {meth : Method} {c : Code} {A : Nat → Prop} {D : va_G} {cC cI : ClassId} {a0_0 a0_1 a0_2 a0_3 a0_4 a0_5 a0_6 a0_7 : Nat} (X : xCX p s m args meth c A D cC cI b_Model_fraction 4 R_Model none) {out : O_Model_fraction}   : J_Model_fraction_132 p l e s m args below meth c A D cC cI a0_0 a0_1 a0_2 a0_3 a0_4 a0_5 a0_6 a0_7 out (f_Model_fraction_132  ) := by
  obtain ⟨hx, hb, hml, hown, htB, ⟨hK, hN⟩, hZ, hA, hr, hlocks⟩ := id X
  intro v0 ls H locs h hl hP hD hS
  obtain rfl := Option.some.inj h
  exact W.vret hx hb hr (fun t ht hW => ⟨⟨(), rfl, trivial, by rw [ht]; exact hP, hD⟩, hS.F ht⟩) hS.2.2 d_Model_fraction_132 hlocks

def f_Model_fraction_105 (v0 : T_Model) (x1 : Int32) (x2 : Int32) (x3 : Int32) : Option O_Model_fraction := (if v0.2.2.2.2.2.2.2.2.2.2.2.2.1 = 0 then f_Model_fraction_132 v0 else (if x1 = 0 then f_Model_fraction_132 v0 else f_Model_fraction_132 (v0.1, v0.2.1, v0.2.2.1, v0.2.2.2.1, v0.2.2.2.2.1, v0.2.2.2.2.2.1, v0.2.2.2.2.2.2.1, v0.2.2.2.2.2.2.2.1, (upd (upd v0.2.2.2.2.2.2.2.2.1 (1 : Int32).toNatClampNeg x2) (2 : Int32).toNatClampNeg (x2 + x3)), v0.2.2.2.2.2.2.2.2.2.1, v0.2.2.2.2.2.2.2.2.2.2.1, v0.2.2.2.2.2.2.2.2.2.2.2.1, v0.2.2.2.2.2.2.2.2.2.2.2.2.1, v0.2.2.2.2.2.2.2.2.2.2.2.2.2.1, v0.2.2.2.2.2.2.2.2.2.2.2.2.2.2.1, v0.2.2.2.2.2.2.2.2.2.2.2.2.2.2.2.1, v0.2.2.2.2.2.2.2.2.2.2.2.2.2.2.2.2.1, v0.2.2.2.2.2.2.2.2.2.2.2.2.2.2.2.2.2.1, v0.2.2.2.2.2.2.2.2.2.2.2.2.2.2.2.2.2.2.1, v0.2.2.2.2.2.2.2.2.2.2.2.2.2.2.2.2.2.2.2.1, v0.2.2.2.2.2.2.2.2.2.2.2.2.2.2.2.2.2.2.2.2.1, v0.2.2.2.2.2.2.2.2.2.2.2.2.2.2.2.2.2.2.2.2.2.1, v0.2.2.2.2.2.2.2.2.2.2.2.2.2.2.2.2.2.2.2.2.2.2)))
set_option maxHeartbeats 4000000 in
set_option maxRecDepth 100000 in
theorem w_Model_fraction_105 {p : Program} {l : Launch} {e : Env} {s : State} {m : MethodId} {args : Array Value} {below : List Frame} {meth : Method} {c : Code} {A : Nat → Prop} {D : va_G} {cC cI : ClassId} {a0_0 a0_1 a0_2 a0_3 a0_4 a0_5 a0_6 a0_7 : Nat} (X : xCX p s m args meth c A D cC cI b_Model_fraction 4 R_Model none) {out : O_Model_fraction}   : J_Model_fraction_105 p l e s m args below meth c A D cC cI a0_0 a0_1 a0_2 a0_3 a0_4 a0_5 a0_6 a0_7 out (f_Model_fraction_105  ) := by
  obtain ⟨hx, hb, hml, hown, htB, ⟨hK, hN⟩, hZ, hA, hr, hlocks⟩ := id X
  intro v0 x1 x2 x3 ls H locs h hl hP hD hS
  refine lv_aload_n hx hb d_Model_fraction_105 rfl (lv_at hl 0 rfl) ?_
  refine va_get (D := D) (ci := 11) (v := .int v0.2.2.2.2.2.2.2.2.2.2.2.2.1) (C := R_Model) (T := F_Model) (N := 23) hx hb htB in_Model hown hK hP 0 rfl rfl 12 (by decide) (htB _ b_313) (fun _ h9 => h9) rfl d_Model_fraction_106 ?_
  refine lv_if_eq (tgt := 132) hx hb d_Model_fraction_109 rfl (fun hc => ?_) (fun hc => ?_)
  · have h := (if_pos hc).symm.trans h
    exact w_Model_fraction_132 X v0 ls H locs h (lv_sub hl [] rfl) hP hD hS
  have h := (if_neg hc).symm.trans h
  refine lv_iload_n hx hb d_Model_fraction_112 rfl (lv_at hl 1 rfl) ?_
  refine lv_if_eq (tgt := 132) hx hb d_Model_fraction_113 rfl (fun hc => ?_) (fun hc => ?_)
  · have h := (if_pos hc).symm.trans h
    exact w_Model_fraction_132 X v0 ls H locs h (lv_sub hl [] rfl) hP hD hS
  have h := (if_neg hc).symm.trans h
  refine lv_aload_n hx hb d_Model_fraction_116 rfl (lv_at hl 0 rfl) ?_
  refine va_get (D := D) (ci := 11) (v := .ref a0_5) (C := R_Model) (T := F_Model) (N := 23) hx hb htB in_Model hown hK hP 0 rfl rfl 8 (by decide) (htB _ b_330) (fun _ h9 => h9) rfl d_Model_fraction_117 ?_
  refine lv_iconst (v := 1) hx hb d_Model_fraction_120 (by decide) ?_
  refine lv_iload_n hx hb d_Model_fraction_121 rfl (lv_at hl 2 rfl) ?_
  refine va_iast hx hb hK hP hD hS 5 1 rfl rfl (show ¬ (((1 : Int32) : Int32) < 0 ∨ 7 ≤ ((1 : Int32) : Int32).toNatClampNeg) by decide) d_Model_fraction_122 (fun H locs hP hD hS => ?_)
  have hP : va_P D classes (wd_Model_fraction cC cI a0_0 a0_1 a0_2 a0_3 a0_4 a0_5 a0_6 a0_7 (v0.1, v0.2.1, v0.2.2.1, v0.2.2.2.1, v0.2.2.2.2.1, v0.2.2.2.2.2.1, v0.2.2.2.2.2.2.1, v0.2.2.2.2.2.2.2.1, (upd v0.2.2.2.2.2.2.2.2.1 (1 : Int32).toNatClampNeg x2), v0.2.2.2.2.2.2.2.2.2.1, v0.2.2.2.2.2.2.2.2.2.2.1, v0.2.2.2.2.2.2.2.2.2.2.2.1, v0.2.2.2.2.2.2.2.2.2.2.2.2.1, v0.2.2.2.2.2.2.2.2.2.2.2.2.2.1, v0.2.2.2.2.2.2.2.2.2.2.2.2.2.2.1, v0.2.2.2.2.2.2.2.2.2.2.2.2.2.2.2.1, v0.2.2.2.2.2.2.2.2.2.2.2.2.2.2.2.2.1, v0.2.2.2.2.2.2.2.2.2.2.2.2.2.2.2.2.2.1, v0.2.2.2.2.2.2.2.2.2.2.2.2.2.2.2.2.2.2.1, v0.2.2.2.2.2.2.2.2.2.2.2.2.2.2.2.2.2.2.2.1, v0.2.2.2.2.2.2.2.2.2.2.2.2.2.2.2.2.2.2.2.2.1, v0.2.2.2.2.2.2.2.2.2.2.2.2.2.2.2.2.2.2.2.2.2.1, v0.2.2.2.2.2.2.2.2.2.2.2.2.2.2.2.2.2.2.2.2.2.2)) H := hP
  have hD : va_D A (wd_Model_fraction cC cI a0_0 a0_1 a0_2 a0_3 a0_4 a0_5 a0_6 a0_7 (v0.1, v0.2.1, v0.2.2.1, v0.2.2.2.1, v0.2.2.2.2.1, v0.2.2.2.2.2.1, v0.2.2.2.2.2.2.1, v0.2.2.2.2.2.2.2.1, (upd v0.2.2.2.2.2.2.2.2.1 (1 : Int32).toNatClampNeg x2), v0.2.2.2.2.2.2.2.2.2.1, v0.2.2.2.2.2.2.2.2.2.2.1, v0.2.2.2.2.2.2.2.2.2.2.2.1, v0.2.2.2.2.2.2.2.2.2.2.2.2.1, v0.2.2.2.2.2.2.2.2.2.2.2.2.2.1, v0.2.2.2.2.2.2.2.2.2.2.2.2.2.2.1, v0.2.2.2.2.2.2.2.2.2.2.2.2.2.2.2.1, v0.2.2.2.2.2.2.2.2.2.2.2.2.2.2.2.2.1, v0.2.2.2.2.2.2.2.2.2.2.2.2.2.2.2.2.2.1, v0.2.2.2.2.2.2.2.2.2.2.2.2.2.2.2.2.2.2.1, v0.2.2.2.2.2.2.2.2.2.2.2.2.2.2.2.2.2.2.2.1, v0.2.2.2.2.2.2.2.2.2.2.2.2.2.2.2.2.2.2.2.2.1, v0.2.2.2.2.2.2.2.2.2.2.2.2.2.2.2.2.2.2.2.2.2.1, v0.2.2.2.2.2.2.2.2.2.2.2.2.2.2.2.2.2.2.2.2.2.2)) := hD
  refine lv_aload_n hx hb d_Model_fraction_123 rfl (lv_at hl 0 rfl) ?_
  refine va_get (D := D) (ci := 11) (v := .ref a0_5) (C := R_Model) (T := F_Model) (N := 23) hx hb htB in_Model hown hK hP 0 rfl rfl 8 (by decide) (htB _ b_330) (fun _ h9 => h9) rfl d_Model_fraction_124 ?_
  refine lv_iconst (v := 2) hx hb d_Model_fraction_127 (by decide) ?_
  refine lv_iload_n hx hb d_Model_fraction_128 rfl (lv_at hl 2 rfl) ?_
  refine lv_iload_n hx hb d_Model_fraction_129 rfl (lv_at hl 3 rfl) ?_
  refine lv_iadd hx hb d_Model_fraction_130 ?_
  refine va_iast hx hb hK hP hD hS 5 1 rfl rfl (show ¬ (((2 : Int32) : Int32) < 0 ∨ 7 ≤ ((2 : Int32) : Int32).toNatClampNeg) by decide) d_Model_fraction_131 (fun H locs hP hD hS => ?_)
  have hP : va_P D classes (wd_Model_fraction cC cI a0_0 a0_1 a0_2 a0_3 a0_4 a0_5 a0_6 a0_7 (v0.1, v0.2.1, v0.2.2.1, v0.2.2.2.1, v0.2.2.2.2.1, v0.2.2.2.2.2.1, v0.2.2.2.2.2.2.1, v0.2.2.2.2.2.2.2.1, (upd (upd v0.2.2.2.2.2.2.2.2.1 (1 : Int32).toNatClampNeg x2) (2 : Int32).toNatClampNeg (x2 + x3)), v0.2.2.2.2.2.2.2.2.2.1, v0.2.2.2.2.2.2.2.2.2.2.1, v0.2.2.2.2.2.2.2.2.2.2.2.1, v0.2.2.2.2.2.2.2.2.2.2.2.2.1, v0.2.2.2.2.2.2.2.2.2.2.2.2.2.1, v0.2.2.2.2.2.2.2.2.2.2.2.2.2.2.1, v0.2.2.2.2.2.2.2.2.2.2.2.2.2.2.2.1, v0.2.2.2.2.2.2.2.2.2.2.2.2.2.2.2.2.1, v0.2.2.2.2.2.2.2.2.2.2.2.2.2.2.2.2.2.1, v0.2.2.2.2.2.2.2.2.2.2.2.2.2.2.2.2.2.2.1, v0.2.2.2.2.2.2.2.2.2.2.2.2.2.2.2.2.2.2.2.1, v0.2.2.2.2.2.2.2.2.2.2.2.2.2.2.2.2.2.2.2.2.1, v0.2.2.2.2.2.2.2.2.2.2.2.2.2.2.2.2.2.2.2.2.2.1, v0.2.2.2.2.2.2.2.2.2.2.2.2.2.2.2.2.2.2.2.2.2.2)) H := hP
  have hD : va_D A (wd_Model_fraction cC cI a0_0 a0_1 a0_2 a0_3 a0_4 a0_5 a0_6 a0_7 (v0.1, v0.2.1, v0.2.2.1, v0.2.2.2.1, v0.2.2.2.2.1, v0.2.2.2.2.2.1, v0.2.2.2.2.2.2.1, v0.2.2.2.2.2.2.2.1, (upd (upd v0.2.2.2.2.2.2.2.2.1 (1 : Int32).toNatClampNeg x2) (2 : Int32).toNatClampNeg (x2 + x3)), v0.2.2.2.2.2.2.2.2.2.1, v0.2.2.2.2.2.2.2.2.2.2.1, v0.2.2.2.2.2.2.2.2.2.2.2.1, v0.2.2.2.2.2.2.2.2.2.2.2.2.1, v0.2.2.2.2.2.2.2.2.2.2.2.2.2.1, v0.2.2.2.2.2.2.2.2.2.2.2.2.2.2.1, v0.2.2.2.2.2.2.2.2.2.2.2.2.2.2.2.1, v0.2.2.2.2.2.2.2.2.2.2.2.2.2.2.2.2.1, v0.2.2.2.2.2.2.2.2.2.2.2.2.2.2.2.2.2.1, v0.2.2.2.2.2.2.2.2.2.2.2.2.2.2.2.2.2.2.1, v0.2.2.2.2.2.2.2.2.2.2.2.2.2.2.2.2.2.2.2.1, v0.2.2.2.2.2.2.2.2.2.2.2.2.2.2.2.2.2.2.2.2.1, v0.2.2.2.2.2.2.2.2.2.2.2.2.2.2.2.2.2.2.2.2.2.1, v0.2.2.2.2.2.2.2.2.2.2.2.2.2.2.2.2.2.2.2.2.2.2)) := hD
  exact w_Model_fraction_132 X (v0.1, v0.2.1, v0.2.2.1, v0.2.2.2.1, v0.2.2.2.2.1, v0.2.2.2.2.2.1, v0.2.2.2.2.2.2.1, v0.2.2.2.2.2.2.2.1, (upd (upd v0.2.2.2.2.2.2.2.2.1 (1 : Int32).toNatClampNeg x2) (2 : Int32).toNatClampNeg (x2 + x3)), v0.2.2.2.2.2.2.2.2.2.1, v0.2.2.2.2.2.2.2.2.2.2.1, v0.2.2.2.2.2.2.2.2.2.2.2.1, v0.2.2.2.2.2.2.2.2.2.2.2.2.1, v0.2.2.2.2.2.2.2.2.2.2.2.2.2.1, v0.2.2.2.2.2.2.2.2.2.2.2.2.2.2.1, v0.2.2.2.2.2.2.2.2.2.2.2.2.2.2.2.1, v0.2.2.2.2.2.2.2.2.2.2.2.2.2.2.2.2.1, v0.2.2.2.2.2.2.2.2.2.2.2.2.2.2.2.2.2.1, v0.2.2.2.2.2.2.2.2.2.2.2.2.2.2.2.2.2.2.1, v0.2.2.2.2.2.2.2.2.2.2.2.2.2.2.2.2.2.2.2.1, v0.2.2.2.2.2.2.2.2.2.2.2.2.2.2.2.2.2.2.2.2.1, v0.2.2.2.2.2.2.2.2.2.2.2.2.2.2.2.2.2.2.2.2.2.1, v0.2.2.2.2.2.2.2.2.2.2.2.2.2.2.2.2.2.2.2.2.2.2) ls H locs h (lv_sub hl [] rfl) hP hD hS

def J_Model_fraction_48 (p : Program) (l : Launch) (e : Env) (s : State) (m : MethodId) (args : Array Value) (below : List Frame) (meth : Method) (c : Code) (A : Nat → Prop) (D : va_G) (cC cI : ClassId) (a0_0 a0_1 a0_2 a0_3 a0_4 a0_5 a0_6 a0_7 : Nat) (out : O_Model_fraction) (k : T_Model → Int32 → Int32 → Int32 → Option O_Model_fraction) : Prop := ∀ (v0 : T_Model) (x1 : Int32) (x2 : Int32) (x3 : Int32) (ls : Array Slot) (H : Heap) (locs : List Loc), k v0 x1 x2 x3 = some out → lv_has ls 4 [(0, .ref a0_0), (1, .int x1), (2, .int x2), (3, .int x3)] → va_P D classes (wd_Model_fraction cC cI a0_0 a0_1 a0_2 a0_3 a0_4 a0_5 a0_6 a0_7 v0) H → va_D A (wd_Model_fraction cC cI a0_0 a0_1 a0_2 a0_3 a0_4 a0_5 a0_6 a0_7 v0) → va_S A s.heap H locs → W p l e rm_Model_fraction s m args below meth c H locs 0 0 (MQ below (q_Model_fraction D cC cI a0_0 a0_1 a0_2 a0_3 a0_4 a0_5 a0_6 a0_7 out A) args s 0 0 A) (F0 m 48 ls [])
def J_Model_fraction_69 (p : Program) (l : Launch) (e : Env) (s : State) (m : MethodId) (args : Array Value) (below : List Frame) (meth : Method) (c : Code) (A : Nat → Prop) (D : va_G) (cC cI : ClassId) (a0_0 a0_1 a0_2 a0_3 a0_4 a0_5 a0_6 a0_7 : Nat) (out : O_Model_fraction) (k : T_Model → Int32 → Int32 → Int32 → Option O_Model_fraction) : Prop := ∀ (v0 : T_Model) (x1 : Int32) (x3 : Int32) (s0 : Int32) (ls : Array Slot) (H : Heap) (locs : List Loc), k v0 x1 x3 s0 = some out → lv_has ls 4 [(0, .ref a0_0), (1, .int x1), (3, .int x3)] → va_P D classes (wd_Model_fraction cC cI a0_0 a0_1 a0_2 a0_3 a0_4 a0_5 a0_6 a0_7 v0) H → va_D A (wd_Model_fraction cC cI a0_0 a0_1 a0_2 a0_3 a0_4 a0_5 a0_6 a0_7 v0) → va_S A s.heap H locs → W p l e rm_Model_fraction s m args below meth c H locs 0 0 (MQ below (q_Model_fraction D cC cI a0_0 a0_1 a0_2 a0_3 a0_4 a0_5 a0_6 a0_7 out A) args s 0 0 A) (F0 m 69 ls [.int s0])
def J_Model_fraction_91 (p : Program) (l : Launch) (e : Env) (s : State) (m : MethodId) (args : Array Value) (below : List Frame) (meth : Method) (c : Code) (A : Nat → Prop) (D : va_G) (cC cI : ClassId) (a0_0 a0_1 a0_2 a0_3 a0_4 a0_5 a0_6 a0_7 : Nat) (out : O_Model_fraction) (k : T_Model → Int32 → Int32 → Int32 → Option O_Model_fraction) : Prop := ∀ (v0 : T_Model) (x1 : Int32) (x2 : Int32) (s0 : Int32) (ls : Array Slot) (H : Heap) (locs : List Loc), k v0 x1 x2 s0 = some out → lv_has ls 4 [(0, .ref a0_0), (1, .int x1), (2, .int x2)] → va_P D classes (wd_Model_fraction cC cI a0_0 a0_1 a0_2 a0_3 a0_4 a0_5 a0_6 a0_7 v0) H → va_D A (wd_Model_fraction cC cI a0_0 a0_1 a0_2 a0_3 a0_4 a0_5 a0_6 a0_7 v0) → va_S A s.heap H locs → W p l e rm_Model_fraction s m args below meth c H locs 0 0 (MQ below (q_Model_fraction D cC cI a0_0 a0_1 a0_2 a0_3 a0_4 a0_5 a0_6 a0_7 out A) args s 0 0 A) (F0 m 91 ls [.int s0])
def f_Model_fraction_91 (k4 : T_Model → Int32 → Int32 → Int32 → Option O_Model_fraction) (v0 : T_Model) (x1 : Int32) (x2 : Int32) (s0 : Int32) : Option O_Model_fraction := k4 (v0.1, v0.2.1, v0.2.2.1, v0.2.2.2.1, v0.2.2.2.2.1, v0.2.2.2.2.2.1, v0.2.2.2.2.2.2.1, v0.2.2.2.2.2.2.2.1, v0.2.2.2.2.2.2.2.2.1, (v0.2.2.2.2.2.2.2.2.2.1 + (1 : Int32)), v0.2.2.2.2.2.2.2.2.2.2.1, v0.2.2.2.2.2.2.2.2.2.2.2.1, v0.2.2.2.2.2.2.2.2.2.2.2.2.1, v0.2.2.2.2.2.2.2.2.2.2.2.2.2.1, v0.2.2.2.2.2.2.2.2.2.2.2.2.2.2.1, v0.2.2.2.2.2.2.2.2.2.2.2.2.2.2.2.1, v0.2.2.2.2.2.2.2.2.2.2.2.2.2.2.2.2.1, v0.2.2.2.2.2.2.2.2.2.2.2.2.2.2.2.2.2.1, v0.2.2.2.2.2.2.2.2.2.2.2.2.2.2.2.2.2.2.1, v0.2.2.2.2.2.2.2.2.2.2.2.2.2.2.2.2.2.2.2.1, v0.2.2.2.2.2.2.2.2.2.2.2.2.2.2.2.2.2.2.2.2.1, v0.2.2.2.2.2.2.2.2.2.2.2.2.2.2.2.2.2.2.2.2.2.1, v0.2.2.2.2.2.2.2.2.2.2.2.2.2.2.2.2.2.2.2.2.2.2) x1 x2 s0
set_option maxHeartbeats 4000000 in
set_option maxRecDepth 100000 in
theorem w_Model_fraction_91 {p : Program} {l : Launch} {e : Env} {s : State} {m : MethodId} {args : Array Value} {below : List Frame} {meth : Method} {c : Code} {A : Nat → Prop} {D : va_G} {cC cI : ClassId} {a0_0 a0_1 a0_2 a0_3 a0_4 a0_5 a0_6 a0_7 : Nat} (X : xCX p s m args meth c A D cC cI b_Model_fraction 4 R_Model none) {out : O_Model_fraction} {k4 : T_Model → Int32 → Int32 → Int32 → Option O_Model_fraction} (hk4 : J_Model_fraction_4 p l e s m args below meth c A D cC cI a0_0 a0_1 a0_2 a0_3 a0_4 a0_5 a0_6 a0_7 out k4) : J_Model_fraction_91 p l e s m args below meth c A D cC cI a0_0 a0_1 a0_2 a0_3 a0_4 a0_5 a0_6 a0_7 out (f_Model_fraction_91  k4) := by
  obtain ⟨hx, hb, hml, hown, htB, ⟨hK, hN⟩, hZ, hA, hr, hlocks⟩ := id X
  intro v0 x1 x2 s0 ls H locs h hl hP hD hS
  refine lv_istore_n (lv' := [(3, .int s0), (0, .ref a0_0), (1, .int x1), (2, .int x2)]) hx hb d_Model_fraction_91 rfl hl (by decide) rfl (fun ls hl => ?_)
  refine lv_aload_n hx hb d_Model_fraction_92 rfl (lv_at hl 1 rfl) ?_
  refine lv_aload_n hx hb d_Model_fraction_93 rfl (lv_at hl 1 rfl) ?_
  refine va_get (D := D) (ci := 11) (v := .int v0.2.2.2.2.2.2.2.2.2.1) (C := R_Model) (T := F_Model) (N := 23) hx hb htB in_Model hown hK hP 0 rfl rfl 9 (by decide) (htB _ b_317) (fun _ h9 => h9) rfl d_Model_fraction_94 ?_
  refine lv_iconst (v := 1) hx hb d_Model_fraction_97 (by decide) ?_
  refine lv_iadd hx hb d_Model_fraction_98 ?_
  refine va_put (D := D) (ci := 11) (v := .int (v0.2.2.2.2.2.2.2.2.2.1 + (1 : Int32))) (ty := .int) (C := R_Model) (T := F_Model) (N := 23) hx hb htB in_Model t_Model t_Model_ok n_Model hown hK hP hD hS 0 rfl rfl 9 (by decide) (htB _ b_317) (fun _ h9 => h9) rfl (by decide +kernel) rfl rfl (Nat.le_of_ble_eq_true rfl) d_Model_fraction_99 (fun H locs hP hD hS => ?_)
  have hP : va_P D classes (wd_Model_fraction cC cI a0_0 a0_1 a0_2 a0_3 a0_4 a0_5 a0_6 a0_7 (v0.1, v0.2.1, v0.2.2.1, v0.2.2.2.1, v0.2.2.2.2.1, v0.2.2.2.2.2.1, v0.2.2.2.2.2.2.1, v0.2.2.2.2.2.2.2.1, v0.2.2.2.2.2.2.2.2.1, (v0.2.2.2.2.2.2.2.2.2.1 + (1 : Int32)), v0.2.2.2.2.2.2.2.2.2.2.1, v0.2.2.2.2.2.2.2.2.2.2.2.1, v0.2.2.2.2.2.2.2.2.2.2.2.2.1, v0.2.2.2.2.2.2.2.2.2.2.2.2.2.1, v0.2.2.2.2.2.2.2.2.2.2.2.2.2.2.1, v0.2.2.2.2.2.2.2.2.2.2.2.2.2.2.2.1, v0.2.2.2.2.2.2.2.2.2.2.2.2.2.2.2.2.1, v0.2.2.2.2.2.2.2.2.2.2.2.2.2.2.2.2.2.1, v0.2.2.2.2.2.2.2.2.2.2.2.2.2.2.2.2.2.2.1, v0.2.2.2.2.2.2.2.2.2.2.2.2.2.2.2.2.2.2.2.1, v0.2.2.2.2.2.2.2.2.2.2.2.2.2.2.2.2.2.2.2.2.1, v0.2.2.2.2.2.2.2.2.2.2.2.2.2.2.2.2.2.2.2.2.2.1, v0.2.2.2.2.2.2.2.2.2.2.2.2.2.2.2.2.2.2.2.2.2.2)) H := hP
  have hD : va_D A (wd_Model_fraction cC cI a0_0 a0_1 a0_2 a0_3 a0_4 a0_5 a0_6 a0_7 (v0.1, v0.2.1, v0.2.2.1, v0.2.2.2.1, v0.2.2.2.2.1, v0.2.2.2.2.2.1, v0.2.2.2.2.2.2.1, v0.2.2.2.2.2.2.2.1, v0.2.2.2.2.2.2.2.2.1, (v0.2.2.2.2.2.2.2.2.2.1 + (1 : Int32)), v0.2.2.2.2.2.2.2.2.2.2.1, v0.2.2.2.2.2.2.2.2.2.2.2.1, v0.2.2.2.2.2.2.2.2.2.2.2.2.1, v0.2.2.2.2.2.2.2.2.2.2.2.2.2.1, v0.2.2.2.2.2.2.2.2.2.2.2.2.2.2.1, v0.2.2.2.2.2.2.2.2.2.2.2.2.2.2.2.1, v0.2.2.2.2.2.2.2.2.2.2.2.2.2.2.2.2.1, v0.2.2.2.2.2.2.2.2.2.2.2.2.2.2.2.2.2.1, v0.2.2.2.2.2.2.2.2.2.2.2.2.2.2.2.2.2.2.1, v0.2.2.2.2.2.2.2.2.2.2.2.2.2.2.2.2.2.2.2.1, v0.2.2.2.2.2.2.2.2.2.2.2.2.2.2.2.2.2.2.2.2.1, v0.2.2.2.2.2.2.2.2.2.2.2.2.2.2.2.2.2.2.2.2.2.1, v0.2.2.2.2.2.2.2.2.2.2.2.2.2.2.2.2.2.2.2.2.2.2)) := hD
  refine lv_goto (tgt := 4) hx hb d_Model_fraction_102 rfl ?_
  exact hk4 (v0.1, v0.2.1, v0.2.2.1, v0.2.2.2.1, v0.2.2.2.2.1, v0.2.2.2.2.2.1, v0.2.2.2.2.2.2.1, v0.2.2.2.2.2.2.2.1, v0.2.2.2.2.2.2.2.2.1, (v0.2.2.2.2.2.2.2.2.2.1 + (1 : Int32)), v0.2.2.2.2.2.2.2.2.2.2.1, v0.2.2.2.2.2.2.2.2.2.2.2.1, v0.2.2.2.2.2.2.2.2.2.2.2.2.1, v0.2.2.2.2.2.2.2.2.2.2.2.2.2.1, v0.2.2.2.2.2.2.2.2.2.2.2.2.2.2.1, v0.2.2.2.2.2.2.2.2.2.2.2.2.2.2.2.1, v0.2.2.2.2.2.2.2.2.2.2.2.2.2.2.2.2.1, v0.2.2.2.2.2.2.2.2.2.2.2.2.2.2.2.2.2.1, v0.2.2.2.2.2.2.2.2.2.2.2.2.2.2.2.2.2.2.1, v0.2.2.2.2.2.2.2.2.2.2.2.2.2.2.2.2.2.2.2.1, v0.2.2.2.2.2.2.2.2.2.2.2.2.2.2.2.2.2.2.2.2.1, v0.2.2.2.2.2.2.2.2.2.2.2.2.2.2.2.2.2.2.2.2.2.1, v0.2.2.2.2.2.2.2.2.2.2.2.2.2.2.2.2.2.2.2.2.2.2) x1 x2 s0 ls H locs h (lv_sub hl [1, 2, 3, 0] rfl) hP hD hS

def f_Model_fraction_69 (k4 : T_Model → Int32 → Int32 → Int32 → Option O_Model_fraction) (v0 : T_Model) (x1 : Int32) (x3 : Int32) (s0 : Int32) : Option O_Model_fraction := if ix v0.2.2.2.2.2.2.2.2.2.1 120 then (if (v0.1 v0.2.2.2.2.2.2.2.2.2.1.toNatClampNeg) = (35 : Int32) then f_Model_fraction_91 k4 v0 x1 s0 (x3 + (1 : Int32)) else f_Model_fraction_91 k4 v0 x1 s0 x3) else none
set_option maxHeartbeats 4000000 in
set_option maxRecDepth 100000 in
theorem w_Model_fraction_69 {p : Program} {l : Launch} {e : Env} {s : State} {m : MethodId} {args : Array Value} {below : List Frame} {meth : Method} {c : Code} {A : Nat → Prop} {D : va_G} {cC cI : ClassId} {a0_0 a0_1 a0_2 a0_3 a0_4 a0_5 a0_6 a0_7 : Nat} (X : xCX p s m args meth c A D cC cI b_Model_fraction 4 R_Model none) {out : O_Model_fraction} {k4 : T_Model → Int32 → Int32 → Int32 → Option O_Model_fraction} (hk4 : J_Model_fraction_4 p l e s m args below meth c A D cC cI a0_0 a0_1 a0_2 a0_3 a0_4 a0_5 a0_6 a0_7 out k4) : J_Model_fraction_69 p l e s m args below meth c A D cC cI a0_0 a0_1 a0_2 a0_3 a0_4 a0_5 a0_6 a0_7 out (f_Model_fraction_69  k4) := by
  obtain ⟨hx, hb, hml, hown, htB, ⟨hK, hN⟩, hZ, hA, hr, hlocks⟩ := id X
  intro v0 x1 x3 s0 ls H locs h hl hP hD hS
  refine lv_istore_n (lv' := [(2, .int s0), (0, .ref a0_0), (1, .int x1), (3, .int x3)]) hx hb d_Model_fraction_69 rfl hl (by decide) rfl (fun ls hl => ?_)
  refine lv_aload_n hx hb d_Model_fraction_70 rfl (lv_at hl 1 rfl) ?_
  refine va_get (D := D) (ci := 11) (v := .ref a0_1) (C := R_Model) (T := F_Model) (N := 23) hx hb htB in_Model hown hK hP 0 rfl rfl 0 (by decide) (htB _ b_310) (fun _ h9 => h9) rfl d_Model_fraction_71 ?_
  refine lv_aload_n hx hb d_Model_fraction_74 rfl (lv_at hl 1 rfl) ?_
  refine va_get (D := D) (ci := 11) (v := .int v0.2.2.2.2.2.2.2.2.2.1) (C := R_Model) (T := F_Model) (N := 23) hx hb htB in_Model hown hK hP 0 rfl rfl 9 (by decide) (htB _ b_317) (fun _ h9 => h9) rfl d_Model_fraction_75 ?_
  obtain ⟨hc, h⟩ := x_chk h
  refine va_cald hx hb hK hP 1 0 rfl rfl hc d_Model_fraction_78 ?_
  refine lv_bipush (v := 35) hx hb d_Model_fraction_79 (by decide) ?_
  refine lv_icmp_ne (tgt := 90) hx hb d_Model_fraction_81 rfl (fun hc => ?_) (fun hc => ?_)
  · have h := (if_neg hc).symm.trans h
    refine lv_iload_n hx hb d_Model_fraction_90 rfl (lv_at hl 3 rfl) ?_
    exact w_Model_fraction_91 X hk4 v0 x1 s0 x3 ls H locs h (lv_sub hl [1, 2, 0] rfl) hP hD hS
  have h := (if_pos hc).symm.trans h
  refine lv_iload_n hx hb d_Model_fraction_84 rfl (lv_at hl 3 rfl) ?_
  refine lv_iconst (v := 1) hx hb d_Model_fraction_85 (by decide) ?_
  refine lv_iadd hx hb d_Model_fraction_86 ?_
  refine lv_goto (tgt := 91) hx hb d_Model_fraction_87 rfl ?_
  exact w_Model_fraction_91 X hk4 v0 x1 s0 (x3 + (1 : Int32)) ls H locs h (lv_sub hl [1, 2, 0] rfl) hP hD hS

def f_Model_fraction_48 (k4 : T_Model → Int32 → Int32 → Int32 → Option O_Model_fraction) (v0 : T_Model) (x1 : Int32) (x2 : Int32) (x3 : Int32) : Option O_Model_fraction := if ix v0.2.2.2.2.2.2.2.2.2.1 120 then (if (v0.1 v0.2.2.2.2.2.2.2.2.2.1.toNatClampNeg) = (48 : Int32) then f_Model_fraction_69 k4 v0 x1 x3 (x2 + (1 : Int32)) else f_Model_fraction_69 k4 v0 x1 x3 x2) else none
set_option maxHeartbeats 4000000 in
set_option maxRecDepth 100000 in
theorem w_Model_fraction_48 {p : Program} {l : Launch} {e : Env} {s : State} {m : MethodId} {args : Array Value} {below : List Frame} {meth : Method} {c : Code} {A : Nat → Prop} {D : va_G} {cC cI : ClassId} {a0_0 a0_1 a0_2 a0_3 a0_4 a0_5 a0_6 a0_7 : Nat} (X : xCX p s m args meth c A D cC cI b_Model_fraction 4 R_Model none) {out : O_Model_fraction} {k4 : T_Model → Int32 → Int32 → Int32 → Option O_Model_fraction} (hk4 : J_Model_fraction_4 p l e s m args below meth c A D cC cI a0_0 a0_1 a0_2 a0_3 a0_4 a0_5 a0_6 a0_7 out k4) : J_Model_fraction_48 p l e s m args below meth c A D cC cI a0_0 a0_1 a0_2 a0_3 a0_4 a0_5 a0_6 a0_7 out (f_Model_fraction_48  k4) := by
  obtain ⟨hx, hb, hml, hown, htB, ⟨hK, hN⟩, hZ, hA, hr, hlocks⟩ := id X
  intro v0 x1 x2 x3 ls H locs h hl hP hD hS
  refine lv_aload_n hx hb d_Model_fraction_48 rfl (lv_at hl 0 rfl) ?_
  refine va_get (D := D) (ci := 11) (v := .ref a0_1) (C := R_Model) (T := F_Model) (N := 23) hx hb htB in_Model hown hK hP 0 rfl rfl 0 (by decide) (htB _ b_310) (fun _ h9 => h9) rfl d_Model_fraction_49 ?_
  refine lv_aload_n hx hb d_Model_fraction_52 rfl (lv_at hl 0 rfl) ?_
  refine va_get (D := D) (ci := 11) (v := .int v0.2.2.2.2.2.2.2.2.2.1) (C := R_Model) (T := F_Model) (N := 23) hx hb htB in_Model hown hK hP 0 rfl rfl 9 (by decide) (htB _ b_317) (fun _ h9 => h9) rfl d_Model_fraction_53 ?_
  obtain ⟨hc, h⟩ := x_chk h
  refine va_cald hx hb hK hP 1 0 rfl rfl hc d_Model_fraction_56 ?_
  refine lv_bipush (v := 48) hx hb d_Model_fraction_57 (by decide) ?_
  refine lv_icmp_ne (tgt := 68) hx hb d_Model_fraction_59 rfl (fun hc => ?_) (fun hc => ?_)
  · have h := (if_neg hc).symm.trans h
    refine lv_iload_n hx hb d_Model_fraction_68 rfl (lv_at hl 2 rfl) ?_
    exact w_Model_fraction_69 X hk4 v0 x1 x3 x2 ls H locs h (lv_sub hl [0, 1, 3] rfl) hP hD hS
  have h := (if_pos hc).symm.trans h
  refine lv_iload_n hx hb d_Model_fraction_62 rfl (lv_at hl 2 rfl) ?_
  refine lv_iconst (v := 1) hx hb d_Model_fraction_63 (by decide) ?_
  refine lv_iadd hx hb d_Model_fraction_64 ?_
  refine lv_goto (tgt := 69) hx hb d_Model_fraction_65 rfl ?_
  exact w_Model_fraction_69 X hk4 v0 x1 x3 (x2 + (1 : Int32)) ls H locs h (lv_sub hl [0, 1, 3] rfl) hP hD hS

def f_Model_fraction_27 (k4 : T_Model → Int32 → Int32 → Int32 → Option O_Model_fraction) (v0 : T_Model) (x1 : Int32) (x2 : Int32) (x3 : Int32) : Option O_Model_fraction := (f_Model_is v0 v0.2.2.2.2.2.2.2.2.2.1 (35 : Int32)).bind (fun o34 => (if o34 = 0 then f_Model_fraction_105 v0 x1 x2 x3 else (if (9 : Int32) ≤ (x2 + x3) then f_Model_fraction_105 v0 x1 x2 x3 else f_Model_fraction_48 k4 v0 x1 x2 x3)))
set_option maxHeartbeats 4000000 in
set_option maxRecDepth 100000 in
theorem w_Model_fraction_27 {p : Program} {l : Launch} {e : Env} {s : State} {m : MethodId} {args : Array Value} {below : List Frame} {meth : Method} {c : Code} {A : Nat → Prop} {D : va_G} {cC cI : ClassId} {a0_0 a0_1 a0_2 a0_3 a0_4 a0_5 a0_6 a0_7 : Nat} (X : xCX p s m args meth c A D cC cI b_Model_fraction 4 R_Model none) {out : O_Model_fraction} {k4 : T_Model → Int32 → Int32 → Int32 → Option O_Model_fraction} (hk4 : J_Model_fraction_4 p l e s m args below meth c A D cC cI a0_0 a0_1 a0_2 a0_3 a0_4 a0_5 a0_6 a0_7 out k4) : J_Model_fraction_27 p l e s m args below meth c A D cC cI a0_0 a0_1 a0_2 a0_3 a0_4 a0_5 a0_6 a0_7 out (f_Model_fraction_27  k4) := by
  obtain ⟨hx, hb, hml, hown, htB, ⟨hK, hN⟩, hZ, hA, hr, hlocks⟩ := id X
  intro v0 x1 x2 x3 ls H locs h hl hP hD hS
  refine lv_aload_n hx hb d_Model_fraction_27 rfl (lv_at hl 0 rfl) ?_
  refine lv_aload_n hx hb d_Model_fraction_28 rfl (lv_at hl 0 rfl) ?_
  refine va_get (D := D) (ci := 11) (v := .int v0.2.2.2.2.2.2.2.2.2.1) (C := R_Model) (T := F_Model) (N := 23) hx hb htB in_Model hown hK hP 0 rfl rfl 9 (by decide) (htB _ b_317) (fun _ h9 => h9) rfl d_Model_fraction_29 ?_
  refine lv_bipush (v := 35) hx hb d_Model_fraction_32 (by decide) ?_
  obtain ⟨o34, ho34, h⟩ := x_bnd h
  refine x_calli (r0 := o34) (ws2 := (wd_Model_fraction cC cI a0_0 a0_1 a0_2 a0_3 a0_4 a0_5 a0_6 a0_7 v0)) (x_runV (As := [.int v0.2.2.2.2.2.2.2.2.2.1, .int (35 : Int32)]) (rest := []) X (c_Model_is l D cC cI H.size a0_0 a0_1 a0_2 a0_3 a0_4 a0_5 a0_6 a0_7 v0 v0.2.2.2.2.2.2.2.2.2.1 (35 : Int32) o34 ho34) b_318 2 (htB _ b_322) (htB _ b_320) (htB _ b_321) (htB _ b_319) ⟨by decide, by decide, by decide +kernel⟩ ⟨(Nat.le_of_ble_eq_true rfl), (Nat.le_of_ble_eq_true rfl)⟩ 0 rfl rfl hP hD hS [0, 1, 2, 3, 4, 5, 6, 7] rfl (by decide) rfl rfl hl.1 rfl rfl (Nat.le_of_ble_eq_true rfl) d_Model_fraction_34) hP hD hS hA [0, 1, 2, 3, 4, 5, 6, 7] [] [0, 1, 2, 3, 4, 5, 6, 7] rfl rfl (by decide) (by decide) rfl (by decide) (fun H locs hP hD hS => ?_)
  refine lv_if_eq (tgt := 105) hx hb d_Model_fraction_37 rfl (fun hc => ?_) (fun hc => ?_)
  · have h := (if_pos hc).symm.trans h
    exact w_Model_fraction_105 X v0 x1 x2 x3 ls H locs h (lv_sub hl [0, 1, 2, 3] rfl) hP hD hS
  have h := (if_neg hc).symm.trans h
  refine lv_iload_n hx hb d_Model_fraction_40 rfl (lv_at hl 2 rfl) ?_
  refine lv_iload_n hx hb d_Model_fraction_41 rfl (lv_at hl 3 rfl) ?_
  refine lv_iadd hx hb d_Model_fraction_42 ?_
  refine lv_bipush (v := 9) hx hb d_Model_fraction_43 (by decide) ?_
  refine lv_icmp_ge (tgt := 105) hx hb d_Model_fraction_45 rfl (fun hc => ?_) (fun hc => ?_)
  · have h := (if_pos hc).symm.trans h
    exact w_Model_fraction_105 X v0 x1 x2 x3 ls H locs h (lv_sub hl [0, 1, 2, 3] rfl) hP hD hS
  have h := (if_neg hc).symm.trans h
  exact w_Model_fraction_48 X hk4 v0 x1 x2 x3 ls H locs h (lv_sub hl [0, 1, 2, 3] rfl) hP hD hS

def f_Model_fraction_4   : Nat → T_Model → Int32 → Int32 → Int32 → Option O_Model_fraction
  | 0, _, _, _, _ => none
  | n + 1, v0, x1, x2, x3 => (f_Model_is v0 v0.2.2.2.2.2.2.2.2.2.1 (48 : Int32)).bind (fun o11 => (if o11 = 0 then f_Model_fraction_27 (f_Model_fraction_4  n) v0 x1 x2 x3 else (if x3 = 0 then (if x2 < (9 : Int32) then f_Model_fraction_48 (f_Model_fraction_4  n) v0 x1 x2 x3 else f_Model_fraction_27 (f_Model_fraction_4  n) v0 x1 x2 x3) else f_Model_fraction_27 (f_Model_fraction_4  n) v0 x1 x2 x3)))
set_option maxHeartbeats 4000000 in
set_option maxRecDepth 100000 in
theorem w_Model_fraction_4 {p : Program} {l : Launch} {e : Env} {s : State} {m : MethodId} {args : Array Value} {below : List Frame} {meth : Method} {c : Code} {A : Nat → Prop} {D : va_G} {cC cI : ClassId} {a0_0 a0_1 a0_2 a0_3 a0_4 a0_5 a0_6 a0_7 : Nat} (X : xCX p s m args meth c A D cC cI b_Model_fraction 4 R_Model none) {out : O_Model_fraction}   : ∀ n : Nat, J_Model_fraction_4 p l e s m args below meth c A D cC cI a0_0 a0_1 a0_2 a0_3 a0_4 a0_5 a0_6 a0_7 out (f_Model_fraction_4   n) := by
  obtain ⟨hx, hb, hml, hown, htB, ⟨hK, hN⟩, hZ, hA, hr, hlocks⟩ := id X
  intro n
  induction n with
  | zero =>
    intro v0 x1 x2 x3 ls H locs h hl hP hD hS
    cases h
  | succ n ih =>
    intro v0 x1 x2 x3 ls H locs h hl hP hD hS
    refine lv_aload_n hx hb d_Model_fraction_4 rfl (lv_at hl 0 rfl) ?_
    refine lv_aload_n hx hb d_Model_fraction_5 rfl (lv_at hl 0 rfl) ?_
    refine va_get (D := D) (ci := 11) (v := .int v0.2.2.2.2.2.2.2.2.2.1) (C := R_Model) (T := F_Model) (N := 23) hx hb htB in_Model hown hK hP 0 rfl rfl 9 (by decide) (htB _ b_317) (fun _ h9 => h9) rfl d_Model_fraction_6 ?_
    refine lv_bipush (v := 48) hx hb d_Model_fraction_9 (by decide) ?_
    obtain ⟨o11, ho11, h⟩ := x_bnd h
    refine x_calli (r0 := o11) (ws2 := (wd_Model_fraction cC cI a0_0 a0_1 a0_2 a0_3 a0_4 a0_5 a0_6 a0_7 v0)) (x_runV (As := [.int v0.2.2.2.2.2.2.2.2.2.1, .int (48 : Int32)]) (rest := []) X (c_Model_is l D cC cI H.size a0_0 a0_1 a0_2 a0_3 a0_4 a0_5 a0_6 a0_7 v0 v0.2.2.2.2.2.2.2.2.2.1 (48 : Int32) o11 ho11) b_318 2 (htB _ b_322) (htB _ b_320) (htB _ b_321) (htB _ b_319) ⟨by decide, by decide, by decide +kernel⟩ ⟨(Nat.le_of_ble_eq_true rfl), (Nat.le_of_ble_eq_true rfl)⟩ 0 rfl rfl hP hD hS [0, 1, 2, 3, 4, 5, 6, 7] rfl (by decide) rfl rfl hl.1 rfl rfl (Nat.le_of_ble_eq_true rfl) d_Model_fraction_11) hP hD hS hA [0, 1, 2, 3, 4, 5, 6, 7] [] [0, 1, 2, 3, 4, 5, 6, 7] rfl rfl (by decide) (by decide) rfl (by decide) (fun H locs hP hD hS => ?_)
    refine lv_if_eq (tgt := 27) hx hb d_Model_fraction_14 rfl (fun hc => ?_) (fun hc => ?_)
    · have h := (if_pos hc).symm.trans h
      exact w_Model_fraction_27 X ih v0 x1 x2 x3 ls H locs h (lv_sub hl [0, 1, 2, 3] rfl) hP hD hS
    have h := (if_neg hc).symm.trans h
    refine lv_iload_n hx hb d_Model_fraction_17 rfl (lv_at hl 3 rfl) ?_
    refine lv_if_ne (tgt := 27) hx hb d_Model_fraction_18 rfl (fun hc => ?_) (fun hc => ?_)
    · have h := (if_neg hc).symm.trans h
      exact w_Model_fraction_27 X ih v0 x1 x2 x3 ls H locs h (lv_sub hl [0, 1, 2, 3] rfl) hP hD hS
    have h := (if_pos hc).symm.trans h
    refine lv_iload_n hx hb d_Model_fraction_21 rfl (lv_at hl 2 rfl) ?_
    refine lv_bipush (v := 9) hx hb d_Model_fraction_22 (by decide) ?_
    refine lv_icmp_lt (tgt := 48) hx hb d_Model_fraction_24 rfl (fun hc => ?_) (fun hc => ?_)
    · have h := (if_pos hc).symm.trans h
      exact w_Model_fraction_48 X ih v0 x1 x2 x3 ls H locs h (lv_sub hl [0, 1, 2, 3] rfl) hP hD hS
    have h := (if_neg hc).symm.trans h
    exact w_Model_fraction_27 X ih v0 x1 x2 x3 ls H locs h (lv_sub hl [0, 1, 2, 3] rfl) hP hD hS

def f_Model_fraction (v0 : T_Model) (v1 : Int32) : Option O_Model_fraction := f_Model_fraction_4 FU v0 v1 (0 : Int32) (0 : Int32)
set_option maxHeartbeats 4000000 in
set_option maxRecDepth 100000 in
theorem w_Model_fraction {p : Program} {l : Launch} {e : Env} {s : State} {m : MethodId} {args : Array Value} {below : List Frame} {meth : Method} {c : Code} {A : Nat → Prop} {D : va_G} {cC cI : ClassId} {a0_0 a0_1 a0_2 a0_3 a0_4 a0_5 a0_6 a0_7 : Nat} (X : xCX p s m args meth c A D cC cI b_Model_fraction 4 R_Model none) {out : O_Model_fraction} (v0 : T_Model) (v1 : Int32) {ls : Array Slot} {H : Heap} {locs : List Loc} (h : f_Model_fraction v0 v1 = some out) (hl : lv_has ls 4 [(0, .ref a0_0), (1, .int v1)]) (hP : va_P D classes (wd_Model_fraction cC cI a0_0 a0_1 a0_2 a0_3 a0_4 a0_5 a0_6 a0_7 v0) H) (hD : va_D A (wd_Model_fraction cC cI a0_0 a0_1 a0_2 a0_3 a0_4 a0_5 a0_6 a0_7 v0)) (hS : va_S A s.heap H locs) : W p l e rm_Model_fraction s m args below meth c H locs 0 0 (MQ below (q_Model_fraction D cC cI a0_0 a0_1 a0_2 a0_3 a0_4 a0_5 a0_6 a0_7 out A) args s 0 0 A) (F0 m 0 ls []) := by
  obtain ⟨hx, hb, hml, hown, htB, ⟨hK, hN⟩, hZ, hA, hr, hlocks⟩ := id X
  refine lv_iconst (v := 0) hx hb d_Model_fraction_0 (by decide) ?_
  refine lv_istore_n (lv' := [(2, .int (0 : Int32)), (0, .ref a0_0), (1, .int v1)]) hx hb d_Model_fraction_1 rfl hl (by decide) rfl (fun ls hl => ?_)
  refine lv_iconst (v := 0) hx hb d_Model_fraction_2 (by decide) ?_
  refine lv_istore_n (lv' := [(3, .int (0 : Int32)), (2, .int (0 : Int32)), (0, .ref a0_0), (1, .int v1)]) hx hb d_Model_fraction_3 rfl hl (by decide) rfl (fun ls hl => ?_)
  exact w_Model_fraction_4 X FU v0 v1 (0 : Int32) (0 : Int32) ls H locs h (lv_sub hl [2, 3, 1, 0] rfl) hP hD hS

set_option maxHeartbeats 4000000 in
set_option maxRecDepth 100000 in
theorem c_Model_fraction (l : Launch) (D : va_G) (cC cI : ClassId) (sz : Nat) (a0_0 a0_1 a0_2 a0_3 a0_4 a0_5 a0_6 a0_7 : Nat) (v0 : T_Model) (v1 : Int32) (out : O_Model_fraction) (h : f_Model_fraction v0 v1 = some out) : Met l y_Model_fraction (.code y_Model_fraction b_Model_fraction 4 none :: BIG) rm_Model_fraction (va_Pc [.ref a0_0, .int v1] (xPre D cC cI (wd_Model_fraction cC cI a0_0 a0_1 a0_2 a0_3 a0_4 a0_5 a0_6 a0_7 v0) sz)) (q_Model_fraction D cC cI a0_0 a0_1 a0_2 a0_3 a0_4 a0_5 a0_6 a0_7 out (va_A (wd_Model_fraction cC cI a0_0 a0_1 a0_2 a0_3 a0_4 a0_5 a0_6 a0_7 v0) sz)) 0 0 (va_A (wd_Model_fraction cC cI a0_0 a0_1 a0_2 a0_3 a0_4 a0_5 a0_6 a0_7 v0) sz) := by
  refine Met.ofW (cc := b_Model_fraction) (maxL := 4) (ret := none) (by decide) rfl ?_
  intro p e s m args below meth c s₁ B hml hv
  obtain ⟨rfl, rfl, hP, hD0, hG, hZ⟩ := hv
  have hl := lv_entry [.ref a0_0, .int v1] (n := 4) (Nat.le_of_ble_eq_true rfl)
  rw [lg_entry_eq]
  exact w_Model_fraction (x_cx B hml hG hZ) v0 v1 h hl hP hD0.self va_S.rf

abbrev wd_Model_exponent (cC cI : ClassId) (a0_0 a0_1 a0_2 a0_3 a0_4 a0_5 a0_6 a0_7 : Nat) (v0 : T_Model) : va_W := [(a0_0, .inr (11, [.ref a0_1, .int v0.2.1, .ref a0_2, .int v0.2.2.2.1, .int v0.2.2.2.2.1, .int v0.2.2.2.2.2.1, .ref a0_3, .ref a0_4, .ref a0_5, .int v0.2.2.2.2.2.2.2.2.2.1, .int v0.2.2.2.2.2.2.2.2.2.2.1, .int v0.2.2.2.2.2.2.2.2.2.2.2.1, .int v0.2.2.2.2.2.2.2.2.2.2.2.2.1, .ref a0_6, .int v0.2.2.2.2.2.2.2.2.2.2.2.2.2.2.1, .int v0.2.2.2.2.2.2.2.2.2.2.2.2.2.2.2.1, .int v0.2.2.2.2.2.2.2.2.2.2.2.2.2.2.2.2.1, .ref a0_7, .long v0.2.2.2.2.2.2.2.2.2.2.2.2.2.2.2.2.2.2.1, .int v0.2.2.2.2.2.2.2.2.2.2.2.2.2.2.2.2.2.2.2.1, .long v0.2.2.2.2.2.2.2.2.2.2.2.2.2.2.2.2.2.2.2.2.1, .int v0.2.2.2.2.2.2.2.2.2.2.2.2.2.2.2.2.2.2.2.2.2.1, .int v0.2.2.2.2.2.2.2.2.2.2.2.2.2.2.2.2.2.2.2.2.2.2])), (a0_1, .inl (cC, 120, .inl v0.1)), (a0_2, .inl (cC, 200, .inl v0.2.2.1)), (a0_3, .inl (cI, 160, .inl v0.2.2.2.2.2.2.1)), (a0_4, .inl (cI, 4, .inl v0.2.2.2.2.2.2.2.1)), (a0_5, .inl (cI, 7, .inl v0.2.2.2.2.2.2.2.2.1)), (a0_6, .inl (cI, 40, .inl v0.2.2.2.2.2.2.2.2.2.2.2.2.2.1)), (a0_7, .inl (cI, 6, .inl v0.2.2.2.2.2.2.2.2.2.2.2.2.2.2.2.2.2.1))]
abbrev O_Model_exponent : Type := T_Model
abbrev q_Model_exponent (D : va_G) (cC cI : ClassId) (a0_0 a0_1 a0_2 a0_3 a0_4 a0_5 a0_6 a0_7 : Nat)  (out : O_Model_exponent) (A : Nat → Prop) : Array Value → State → Outcome → State → Prop := va_Qv (fun _ : Unit => True) (fun _ t => va_P D classes (wd_Model_exponent cC cI a0_0 a0_1 a0_2 a0_3 a0_4 a0_5 a0_6 a0_7 out) t.heap ∧ va_D A (wd_Model_exponent cC cI a0_0 a0_1 a0_2 a0_3 a0_4 a0_5 a0_6 a0_7 out)) A
abbrev rm_Model_exponent : Room := { frames := 1, cells := 0, slots := 0, locals := 22 }
def J_Model_exponent_2 (p : Program) (l : Launch) (e : Env) (s : State) (m : MethodId) (args : Array Value) (below : List Frame) (meth : Method) (c : Code) (A : Nat → Prop) (D : va_G) (cC cI : ClassId) (a0_0 a0_1 a0_2 a0_3 a0_4 a0_5 a0_6 a0_7 : Nat) (out : O_Model_exponent) (k : T_Model → Int32 → Int32 → Option O_Model_exponent) : Prop := ∀ (v0 : T_Model) (x1 : Int32) (x2 : Int32) (ls : Array Slot) (H : Heap) (locs : List Loc), k v0 x1 x2 = some out → lv_has ls 3 [(0, .ref a0_0), (1, .int x1), (2, .int x2)] → va_P D classes (wd_Model_exponent cC cI a0_0 a0_1 a0_2 a0_3 a0_4 a0_5 a0_6 a0_7 v0) H → va_D A (wd_Model_exponent cC cI a0_0 a0_1 a0_2 a0_3 a0_4 a0_5 a0_6 a0_7 v0) → va_S A s.heap H locs → W p l e rm_Model_exponent s m args below meth c H locs 0 0 (MQ below (q_Model_exponent D cC cI a0_0 a0_1 a0_2 a0_3 a0_4 a0_5 a0_6 a0_7 out A) args s 0 0 A) (F0 m 2 ls [])
def J_Model_exponent_37 (p : Program) (l : Launch) (e : Env) (s : State) (m : MethodId) (args : Array Value) (below : List Frame) (meth : Method) (c : Code) (A : Nat → Prop) (D : va_G) (cC cI : ClassId) (a0_0 a0_1 a0_2 a0_3 a0_4 a0_5 a0_6 a0_7 : Nat) (out : O_Model_exponent) (k : T_Model → Int32 → Int32 → Option O_Model_exponent) : Prop := ∀ (v0 : T_Model) (x1 : Int32) (x2 : Int32) (ls : Array Slot) (H : Heap) (locs : List Loc), k v0 x1 x2 = some out → lv_has ls 3 [(0, .ref a0_0), (1, .int x1), (2, .int x2)] → va_P D classes (wd_Model_exponent cC cI a0_0 a0_1 a0_2 a0_3 a0_4 a0_5 a0_6 a0_7 v0) H → va_D A (wd_Model_exponent cC cI a0_0 a0_1 a0_2 a0_3 a0_4 a0_5 a0_6 a0_7 v0) → va_S A s.heap H locs → W p l e rm_Model_exponent s m args below meth c H locs 0 0 (MQ below (q_Model_exponent D cC cI a0_0 a0_1 a0_2 a0_3 a0_4 a0_5 a0_6 a0_7 out A) args s 0 0 A) (F0 m 37 ls [])
def J_Model_exponent_49 (p : Program) (l : Launch) (e : Env) (s : State) (m : MethodId) (args : Array Value) (below : List Frame) (meth : Method) (c : Code) (A : Nat → Prop) (D : va_G) (cC cI : ClassId) (a0_0 a0_1 a0_2 a0_3 a0_4 a0_5 a0_6 a0_7 : Nat) (out : O_Model_exponent) (k : T_Model → Int32 → Int32 → Option O_Model_exponent) : Prop := ∀ (v0 : T_Model) (x1 : Int32) (x2 : Int32) (ls : Array Slot) (H : Heap) (locs : List Loc), k v0 x1 x2 = some out → lv_has ls 3 [(0, .ref a0_0), (1, .int x1), (2, .int x2)] → va_P D classes (wd_Model_exponent cC cI a0_0 a0_1 a0_2 a0_3 a0_4 a0_5 a0_6 a0_7 v0) H → va_D A (wd_Model_exponent cC cI a0_0 a0_1 a0_2 a0_3 a0_4 a0_5 a0_6 a0_7 v0) → va_S A s.heap H locs → W p l e rm_Model_exponent s m args below meth c H locs 0 0 (MQ below (q_Model_exponent D cC cI a0_0 a0_1 a0_2 a0_3 a0_4 a0_5 a0_6 a0_7 out A) args s 0 0 A) (F0 m 49 ls [])
def J_Model_exponent_67 (p : Program) (l : Launch) (e : Env) (s : State) (m : MethodId) (args : Array Value) (below : List Frame) (meth : Method) (c : Code) (A : Nat → Prop) (D : va_G) (cC cI : ClassId) (a0_0 a0_1 a0_2 a0_3 a0_4 a0_5 a0_6 a0_7 : Nat) (out : O_Model_exponent) (k : T_Model → Option O_Model_exponent) : Prop := ∀ (v0 : T_Model) (ls : Array Slot) (H : Heap) (locs : List Loc), k v0 = some out → lv_has ls 3 [] → va_P D classes (wd_Model_exponent cC cI a0_0 a0_1 a0_2 a0_3 a0_4 a0_5 a0_6 a0_7 v0) H → va_D A (wd_Model_exponent cC cI a0_0 a0_1 a0_2 a0_3 a0_4 a0_5 a0_6 a0_7 v0) → va_S A s.heap H locs → W p l e rm_Model_exponent s m args below meth c H locs 0 0 (MQ below (q_Model_exponent D cC cI a0_0 a0_1 a0_2 a0_3 a0_4 a0_5 a0_6 a0_7 out A) args s 0 0 A) (F0 m 67 ls [])
def f_Model_exponent_67 (v0 : T_Model) : Option O_Model_exponent := some v0
set_option maxHeartbeats 4000000 in
set_option maxRecDepth 100000 in
theorem w_Model_exponent_67 {p : Program} {l : Launch} {e : Env} {s : State} {m : MethodId} {args : Array Value} {below : List Frame} {meth : Method} {c : Code} {A : Nat → Prop} {D : va_G} {cC cI : ClassId} {a0_0 a0_1 a0_2 a0_3 a0_4 a0_5 a0_6 a0_7 : Nat} (X : xCX p s m args meth c A D cC cI b_Model_exponent 3 R_Model none) {out : O_Model_exponent}   : J_Model_exponent_67 p l e s m args below meth c A D cC cI a0_0 a0_1 a0_2 a0_3 a0_4 a0_5 a0_6 a0_7 out (f_Model_exponent_67  ) := by
  obtain ⟨hx, hb, hml, hown, htB, ⟨hK, hN⟩, hZ, hA, hr, hlocks⟩ := id X
  intro v0 ls H locs h hl hP hD hS
  obtain rfl := Option.some.inj h
  exact W.vret hx hb hr (fun t ht hW => ⟨⟨(), rfl, trivial, by rw [ht]; exact hP, hD⟩, hS.F ht⟩) hS.2.2 d_Model_exponent_67 hlocks

def f_Model_exponent_49 (v0 : T_Model) (x1 : Int32) (x2 : Int32) : Option O_Model_exponent := (if v0.2.2.2.2.2.2.2.2.2.2.2.2.1 = 0 then f_Model_exponent_67 v0 else (if x1 = 0 then f_Model_exponent_67 v0 else f_Model_exponent_67 (v0.1, v0.2.1, v0.2.2.1, v0.2.2.2.1, v0.2.2.2.2.1, v0.2.2.2.2.2.1, v0.2.2.2.2.2.2.1, v0.2.2.2.2.2.2.2.1, (upd v0.2.2.2.2.2.2.2.2.1 (4 : Int32).toNatClampNeg x2), v0.2.2.2.2.2.2.2.2.2.1, v0.2.2.2.2.2.2.2.2.2.2.1, v0.2.2.2.2.2.2.2.2.2.2.2.1, v0.2.2.2.2.2.2.2.2.2.2.2.2.1, v0.2.2.2.2.2.2.2.2.2.2.2.2.2.1, v0.2.2.2.2.2.2.2.2.2.2.2.2.2.2.1, v0.2.2.2.2.2.2.2.2.2.2.2.2.2.2.2.1, v0.2.2.2.2.2.2.2.2.2.2.2.2.2.2.2.2.1, v0.2.2.2.2.2.2.2.2.2.2.2.2.2.2.2.2.2.1, v0.2.2.2.2.2.2.2.2.2.2.2.2.2.2.2.2.2.2.1, v0.2.2.2.2.2.2.2.2.2.2.2.2.2.2.2.2.2.2.2.1, v0.2.2.2.2.2.2.2.2.2.2.2.2.2.2.2.2.2.2.2.2.1, v0.2.2.2.2.2.2.2.2.2.2.2.2.2.2.2.2.2.2.2.2.2.1, v0.2.2.2.2.2.2.2.2.2.2.2.2.2.2.2.2.2.2.2.2.2.2)))
set_option maxHeartbeats 4000000 in
set_option maxRecDepth 100000 in
theorem w_Model_exponent_49 {p : Program} {l : Launch} {e : Env} {s : State} {m : MethodId} {args : Array Value} {below : List Frame} {meth : Method} {c : Code} {A : Nat → Prop} {D : va_G} {cC cI : ClassId} {a0_0 a0_1 a0_2 a0_3 a0_4 a0_5 a0_6 a0_7 : Nat} (X : xCX p s m args meth c A D cC cI b_Model_exponent 3 R_Model none) {out : O_Model_exponent}   : J_Model_exponent_49 p l e s m args below meth c A D cC cI a0_0 a0_1 a0_2 a0_3 a0_4 a0_5 a0_6 a0_7 out (f_Model_exponent_49  ) := by
  obtain ⟨hx, hb, hml, hown, htB, ⟨hK, hN⟩, hZ, hA, hr, hlocks⟩ := id X
  intro v0 x1 x2 ls H locs h hl hP hD hS
  refine lv_aload_n hx hb d_Model_exponent_49 rfl (lv_at hl 0 rfl) ?_
  refine va_get (D := D) (ci := 11) (v := .int v0.2.2.2.2.2.2.2.2.2.2.2.2.1) (C := R_Model) (T := F_Model) (N := 23) hx hb htB in_Model hown hK hP 0 rfl rfl 12 (by decide) (htB _ b_313) (fun _ h9 => h9) rfl d_Model_exponent_50 ?_
  refine lv_if_eq (tgt := 67) hx hb d_Model_exponent_53 rfl (fun hc => ?_) (fun hc => ?_)
  · have h := (if_pos hc).symm.trans h
    exact w_Model_exponent_67 X v0 ls H locs h (lv_sub hl [] rfl) hP hD hS
  have h := (if_neg hc).symm.trans h
  refine lv_iload_n hx hb d_Model_exponent_56 rfl (lv_at hl 1 rfl) ?_
  refine lv_if_eq (tgt := 67) hx hb d_Model_exponent_57 rfl (fun hc => ?_) (fun hc => ?_)
  · have h := (if_pos hc).symm.trans h
    exact w_Model_exponent_67 X v0 ls H locs h (lv_sub hl [] rfl) hP hD hS
  have h := (if_neg hc).symm.trans h
  refine lv_aload_n hx hb d_Model_exponent_60 rfl (lv_at hl 0 rfl) ?_
  refine va_get (D := D) (ci := 11) (v := .ref a0_5) (C := R_Model) (T := F_Model) (N := 23) hx hb htB in_Model hown hK hP 0 rfl rfl 8 (by decide) (htB _ b_330) (fun _ h9 => h9) rfl d_Model_exponent_61 ?_
  refine lv_iconst (v := 4) hx hb d_Model_exponent_64 (by decide) ?_
  refine lv_iload_n hx hb d_Model_exponent_65 rfl (lv_at hl 2 rfl) ?_
  refine va_iast hx hb hK hP hD hS 5 1 rfl rfl (show ¬ (((4 : Int32) : Int32) < 0 ∨ 7 ≤ ((4 : Int32) : Int32).toNatClampNeg) by decide) d_Model_exponent_66 (fun H locs hP hD hS => ?_)
  have hP : va_P D classes (wd_Model_exponent cC cI a0_0 a0_1 a0_2 a0_3 a0_4 a0_5 a0_6 a0_7 (v0.1, v0.2.1, v0.2.2.1, v0.2.2.2.1, v0.2.2.2.2.1, v0.2.2.2.2.2.1, v0.2.2.2.2.2.2.1, v0.2.2.2.2.2.2.2.1, (upd v0.2.2.2.2.2.2.2.2.1 (4 : Int32).toNatClampNeg x2), v0.2.2.2.2.2.2.2.2.2.1, v0.2.2.2.2.2.2.2.2.2.2.1, v0.2.2.2.2.2.2.2.2.2.2.2.1, v0.2.2.2.2.2.2.2.2.2.2.2.2.1, v0.2.2.2.2.2.2.2.2.2.2.2.2.2.1, v0.2.2.2.2.2.2.2.2.2.2.2.2.2.2.1, v0.2.2.2.2.2.2.2.2.2.2.2.2.2.2.2.1, v0.2.2.2.2.2.2.2.2.2.2.2.2.2.2.2.2.1, v0.2.2.2.2.2.2.2.2.2.2.2.2.2.2.2.2.2.1, v0.2.2.2.2.2.2.2.2.2.2.2.2.2.2.2.2.2.2.1, v0.2.2.2.2.2.2.2.2.2.2.2.2.2.2.2.2.2.2.2.1, v0.2.2.2.2.2.2.2.2.2.2.2.2.2.2.2.2.2.2.2.2.1, v0.2.2.2.2.2.2.2.2.2.2.2.2.2.2.2.2.2.2.2.2.2.1, v0.2.2.2.2.2.2.2.2.2.2.2.2.2.2.2.2.2.2.2.2.2.2)) H := hP
  have hD : va_D A (wd_Model_exponent cC cI a0_0 a0_1 a0_2 a0_3 a0_4 a0_5 a0_6 a0_7 (v0.1, v0.2.1, v0.2.2.1, v0.2.2.2.1, v0.2.2.2.2.1, v0.2.2.2.2.2.1, v0.2.2.2.2.2.2.1, v0.2.2.2.2.2.2.2.1, (upd v0.2.2.2.2.2.2.2.2.1 (4 : Int32).toNatClampNeg x2), v0.2.2.2.2.2.2.2.2.2.1, v0.2.2.2.2.2.2.2.2.2.2.1, v0.2.2.2.2.2.2.2.2.2.2.2.1, v0.2.2.2.2.2.2.2.2.2.2.2.2.1, v0.2.2.2.2.2.2.2.2.2.2.2.2.2.1, v0.2.2.2.2.2.2.2.2.2.2.2.2.2.2.1, v0.2.2.2.2.2.2.2.2.2.2.2.2.2.2.2.1, v0.2.2.2.2.2.2.2.2.2.2.2.2.2.2.2.2.1, v0.2.2.2.2.2.2.2.2.2.2.2.2.2.2.2.2.2.1, v0.2.2.2.2.2.2.2.2.2.2.2.2.2.2.2.2.2.2.1, v0.2.2.2.2.2.2.2.2.2.2.2.2.2.2.2.2.2.2.2.1, v0.2.2.2.2.2.2.2.2.2.2.2.2.2.2.2.2.2.2.2.2.1, v0.2.2.2.2.2.2.2.2.2.2.2.2.2.2.2.2.2.2.2.2.2.1, v0.2.2.2.2.2.2.2.2.2.2.2.2.2.2.2.2.2.2.2.2.2.2)) := hD
  exact w_Model_exponent_67 X (v0.1, v0.2.1, v0.2.2.1, v0.2.2.2.1, v0.2.2.2.2.1, v0.2.2.2.2.2.1, v0.2.2.2.2.2.2.1, v0.2.2.2.2.2.2.2.1, (upd v0.2.2.2.2.2.2.2.2.1 (4 : Int32).toNatClampNeg x2), v0.2.2.2.2.2.2.2.2.2.1, v0.2.2.2.2.2.2.2.2.2.2.1, v0.2.2.2.2.2.2.2.2.2.2.2.1, v0.2.2.2.2.2.2.2.2.2.2.2.2.1, v0.2.2.2.2.2.2.2.2.2.2.2.2.2.1, v0.2.2.2.2.2.2.2.2.2.2.2.2.2.2.1, v0.2.2.2.2.2.2.2.2.2.2.2.2.2.2.2.1, v0.2.2.2.2.2.2.2.2.2.2.2.2.2.2.2.2.1, v0.2.2.2.2.2.2.2.2.2.2.2.2.2.2.2.2.2.1, v0.2.2.2.2.2.2.2.2.2.2.2.2.2.2.2.2.2.2.1, v0.2.2.2.2.2.2.2.2.2.2.2.2.2.2.2.2.2.2.2.1, v0.2.2.2.2.2.2.2.2.2.2.2.2.2.2.2.2.2.2.2.2.1, v0.2.2.2.2.2.2.2.2.2.2.2.2.2.2.2.2.2.2.2.2.2.1, v0.2.2.2.2.2.2.2.2.2.2.2.2.2.2.2.2.2.2.2.2.2.2) ls H locs h (lv_sub hl [] rfl) hP hD hS

def f_Model_exponent_37 (v0 : T_Model) (x1 : Int32) (x2 : Int32) : Option O_Model_exponent := (if x2 = 0 then f_Model_exponent_49 (v0.1, v0.2.1, v0.2.2.1, v0.2.2.2.1, v0.2.2.2.2.1, v0.2.2.2.2.2.1, v0.2.2.2.2.2.2.1, v0.2.2.2.2.2.2.2.1, v0.2.2.2.2.2.2.2.2.1, v0.2.2.2.2.2.2.2.2.2.1, v0.2.2.2.2.2.2.2.2.2.1, v0.2.2.2.2.2.2.2.2.2.2.2.1, v0.2.2.2.2.2.2.2.2.2.2.2.2.1, v0.2.2.2.2.2.2.2.2.2.2.2.2.2.1, v0.2.2.2.2.2.2.2.2.2.2.2.2.2.2.1, v0.2.2.2.2.2.2.2.2.2.2.2.2.2.2.2.1, v0.2.2.2.2.2.2.2.2.2.2.2.2.2.2.2.2.1, v0.2.2.2.2.2.2.2.2.2.2.2.2.2.2.2.2.2.1, v0.2.2.2.2.2.2.2.2.2.2.2.2.2.2.2.2.2.2.1, v0.2.2.2.2.2.2.2.2.2.2.2.2.2.2.2.2.2.2.2.1, v0.2.2.2.2.2.2.2.2.2.2.2.2.2.2.2.2.2.2.2.2.1, v0.2.2.2.2.2.2.2.2.2.2.2.2.2.2.2.2.2.2.2.2.2.1, v0.2.2.2.2.2.2.2.2.2.2.2.2.2.2.2.2.2.2.2.2.2.2) x1 x2 else f_Model_exponent_49 v0 x1 x2)
set_option maxHeartbeats 4000000 in
set_option maxRecDepth 100000 in
theorem w_Model_exponent_37 {p : Program} {l : Launch} {e : Env} {s : State} {m : MethodId} {args : Array Value} {below : List Frame} {meth : Method} {c : Code} {A : Nat → Prop} {D : va_G} {cC cI : ClassId} {a0_0 a0_1 a0_2 a0_3 a0_4 a0_5 a0_6 a0_7 : Nat} (X : xCX p s m args meth c A D cC cI b_Model_exponent 3 R_Model none) {out : O_Model_exponent}   : J_Model_exponent_37 p l e s m args below meth c A D cC cI a0_0 a0_1 a0_2 a0_3 a0_4 a0_5 a0_6 a0_7 out (f_Model_exponent_37  ) := by
  obtain ⟨hx, hb, hml, hown, htB, ⟨hK, hN⟩, hZ, hA, hr, hlocks⟩ := id X
  intro v0 x1 x2 ls H locs h hl hP hD hS
  refine lv_iload_n hx hb d_Model_exponent_37 rfl (lv_at hl 2 rfl) ?_
  refine lv_if_ne (tgt := 49) hx hb d_Model_exponent_38 rfl (fun hc => ?_) (fun hc => ?_)
  · have h := (if_neg hc).symm.trans h
    exact w_Model_exponent_49 X v0 x1 x2 ls H locs h (lv_sub hl [0, 1, 2] rfl) hP hD hS
  have h := (if_pos hc).symm.trans h
  refine lv_aload_n hx hb d_Model_exponent_41 rfl (lv_at hl 0 rfl) ?_
  refine lv_aload_n hx hb d_Model_exponent_42 rfl (lv_at hl 0 rfl) ?_
  refine va_get (D := D) (ci := 11) (v := .int v0.2.2.2.2.2.2.2.2.2.1) (C := R_Model) (T := F_Model) (N := 23) hx hb htB in_Model hown hK hP 0 rfl rfl 9 (by decide) (htB _ b_317) (fun _ h9 => h9) rfl d_Model_exponent_43 ?_
  refine va_put (D := D) (ci := 11) (v := .int v0.2.2.2.2.2.2.2.2.2.1) (ty := .int) (C := R_Model) (T := F_Model) (N := 23) hx hb htB in_Model t_Model t_Model_ok n_Model hown hK hP hD hS 0 rfl rfl 10 (by decide) (htB _ b_331) (fun _ h9 => h9) rfl (by decide +kernel) rfl rfl (Nat.le_of_ble_eq_true rfl) d_Model_exponent_46 (fun H locs hP hD hS => ?_)
  have hP : va_P D classes (wd_Model_exponent cC cI a0_0 a0_1 a0_2 a0_3 a0_4 a0_5 a0_6 a0_7 (v0.1, v0.2.1, v0.2.2.1, v0.2.2.2.1, v0.2.2.2.2.1, v0.2.2.2.2.2.1, v0.2.2.2.2.2.2.1, v0.2.2.2.2.2.2.2.1, v0.2.2.2.2.2.2.2.2.1, v0.2.2.2.2.2.2.2.2.2.1, v0.2.2.2.2.2.2.2.2.2.1, v0.2.2.2.2.2.2.2.2.2.2.2.1, v0.2.2.2.2.2.2.2.2.2.2.2.2.1, v0.2.2.2.2.2.2.2.2.2.2.2.2.2.1, v0.2.2.2.2.2.2.2.2.2.2.2.2.2.2.1, v0.2.2.2.2.2.2.2.2.2.2.2.2.2.2.2.1, v0.2.2.2.2.2.2.2.2.2.2.2.2.2.2.2.2.1, v0.2.2.2.2.2.2.2.2.2.2.2.2.2.2.2.2.2.1, v0.2.2.2.2.2.2.2.2.2.2.2.2.2.2.2.2.2.2.1, v0.2.2.2.2.2.2.2.2.2.2.2.2.2.2.2.2.2.2.2.1, v0.2.2.2.2.2.2.2.2.2.2.2.2.2.2.2.2.2.2.2.2.1, v0.2.2.2.2.2.2.2.2.2.2.2.2.2.2.2.2.2.2.2.2.2.1, v0.2.2.2.2.2.2.2.2.2.2.2.2.2.2.2.2.2.2.2.2.2.2)) H := hP
  have hD : va_D A (wd_Model_exponent cC cI a0_0 a0_1 a0_2 a0_3 a0_4 a0_5 a0_6 a0_7 (v0.1, v0.2.1, v0.2.2.1, v0.2.2.2.1, v0.2.2.2.2.1, v0.2.2.2.2.2.1, v0.2.2.2.2.2.2.1, v0.2.2.2.2.2.2.2.1, v0.2.2.2.2.2.2.2.2.1, v0.2.2.2.2.2.2.2.2.2.1, v0.2.2.2.2.2.2.2.2.2.1, v0.2.2.2.2.2.2.2.2.2.2.2.1, v0.2.2.2.2.2.2.2.2.2.2.2.2.1, v0.2.2.2.2.2.2.2.2.2.2.2.2.2.1, v0.2.2.2.2.2.2.2.2.2.2.2.2.2.2.1, v0.2.2.2.2.2.2.2.2.2.2.2.2.2.2.2.1, v0.2.2.2.2.2.2.2.2.2.2.2.2.2.2.2.2.1, v0.2.2.2.2.2.2.2.2.2.2.2.2.2.2.2.2.2.1, v0.2.2.2.2.2.2.2.2.2.2.2.2.2.2.2.2.2.2.1, v0.2.2.2.2.2.2.2.2.2.2.2.2.2.2.2.2.2.2.2.1, v0.2.2.2.2.2.2.2.2.2.2.2.2.2.2.2.2.2.2.2.2.1, v0.2.2.2.2.2.2.2.2.2.2.2.2.2.2.2.2.2.2.2.2.2.1, v0.2.2.2.2.2.2.2.2.2.2.2.2.2.2.2.2.2.2.2.2.2.2)) := hD
  exact w_Model_exponent_49 X (v0.1, v0.2.1, v0.2.2.1, v0.2.2.2.1, v0.2.2.2.2.1, v0.2.2.2.2.2.1, v0.2.2.2.2.2.2.1, v0.2.2.2.2.2.2.2.1, v0.2.2.2.2.2.2.2.2.1, v0.2.2.2.2.2.2.2.2.2.1, v0.2.2.2.2.2.2.2.2.2.1, v0.2.2.2.2.2.2.2.2.2.2.2.1, v0.2.2.2.2.2.2.2.2.2.2.2.2.1, v0.2.2.2.2.2.2.2.2.2.2.2.2.2.1, v0.2.2.2.2.2.2.2.2.2.2.2.2.2.2.1, v0.2.2.2.2.2.2.2.2.2.2.2.2.2.2.2.1, v0.2.2.2.2.2.2.2.2.2.2.2.2.2.2.2.2.1, v0.2.2.2.2.2.2.2.2.2.2.2.2.2.2.2.2.2.1, v0.2.2.2.2.2.2.2.2.2.2.2.2.2.2.2.2.2.2.1, v0.2.2.2.2.2.2.2.2.2.2.2.2.2.2.2.2.2.2.2.1, v0.2.2.2.2.2.2.2.2.2.2.2.2.2.2.2.2.2.2.2.2.1, v0.2.2.2.2.2.2.2.2.2.2.2.2.2.2.2.2.2.2.2.2.2.1, v0.2.2.2.2.2.2.2.2.2.2.2.2.2.2.2.2.2.2.2.2.2.2) x1 x2 ls H locs h (lv_sub hl [0, 1, 2] rfl) hP hD hS

def f_Model_exponent_2   : Nat → T_Model → Int32 → Int32 → Option O_Model_exponent
  | 0, _, _, _ => none
  | n + 1, v0, x1, x2 => (f_Model_is v0 v0.2.2.2.2.2.2.2.2.2.1 (48 : Int32)).bind (fun o9 => (if o9 = 0 then f_Model_exponent_37 v0 x1 x2 else (if (3 : Int32) ≤ x2 then f_Model_exponent_37 v0 x1 x2 else (f_Model_exponent_2  n) (v0.1, v0.2.1, v0.2.2.1, v0.2.2.2.1, v0.2.2.2.2.1, v0.2.2.2.2.2.1, v0.2.2.2.2.2.2.1, v0.2.2.2.2.2.2.2.1, v0.2.2.2.2.2.2.2.2.1, (v0.2.2.2.2.2.2.2.2.2.1 + (1 : Int32)), v0.2.2.2.2.2.2.2.2.2.2.1, v0.2.2.2.2.2.2.2.2.2.2.2.1, v0.2.2.2.2.2.2.2.2.2.2.2.2.1, v0.2.2.2.2.2.2.2.2.2.2.2.2.2.1, v0.2.2.2.2.2.2.2.2.2.2.2.2.2.2.1, v0.2.2.2.2.2.2.2.2.2.2.2.2.2.2.2.1, v0.2.2.2.2.2.2.2.2.2.2.2.2.2.2.2.2.1, v0.2.2.2.2.2.2.2.2.2.2.2.2.2.2.2.2.2.1, v0.2.2.2.2.2.2.2.2.2.2.2.2.2.2.2.2.2.2.1, v0.2.2.2.2.2.2.2.2.2.2.2.2.2.2.2.2.2.2.2.1, v0.2.2.2.2.2.2.2.2.2.2.2.2.2.2.2.2.2.2.2.2.1, v0.2.2.2.2.2.2.2.2.2.2.2.2.2.2.2.2.2.2.2.2.2.1, v0.2.2.2.2.2.2.2.2.2.2.2.2.2.2.2.2.2.2.2.2.2.2) x1 (x2 + (1 : Int32)))))
set_option maxHeartbeats 4000000 in
set_option maxRecDepth 100000 in
theorem w_Model_exponent_2 {p : Program} {l : Launch} {e : Env} {s : State} {m : MethodId} {args : Array Value} {below : List Frame} {meth : Method} {c : Code} {A : Nat → Prop} {D : va_G} {cC cI : ClassId} {a0_0 a0_1 a0_2 a0_3 a0_4 a0_5 a0_6 a0_7 : Nat} (X : xCX p s m args meth c A D cC cI b_Model_exponent 3 R_Model none) {out : O_Model_exponent}   : ∀ n : Nat, J_Model_exponent_2 p l e s m args below meth c A D cC cI a0_0 a0_1 a0_2 a0_3 a0_4 a0_5 a0_6 a0_7 out (f_Model_exponent_2   n) := by
  obtain ⟨hx, hb, hml, hown, htB, ⟨hK, hN⟩, hZ, hA, hr, hlocks⟩ := id X
  intro n
  induction n with
  | zero =>
    intro v0 x1 x2 ls H locs h hl hP hD hS
    cases h
  | succ n ih =>
    intro v0 x1 x2 ls H locs h hl hP hD hS
    refine lv_aload_n hx hb d_Model_exponent_2 rfl (lv_at hl 0 rfl) ?_
    refine lv_aload_n hx hb d_Model_exponent_3 rfl (lv_at hl 0 rfl) ?_
    refine va_get (D := D) (ci := 11) (v := .int v0.2.2.2.2.2.2.2.2.2.1) (C := R_Model) (T := F_Model) (N := 23) hx hb htB in_Model hown hK hP 0 rfl rfl 9 (by decide) (htB _ b_317) (fun _ h9 => h9) rfl d_Model_exponent_4 ?_
    refine lv_bipush (v := 48) hx hb d_Model_exponent_7 (by decide) ?_
    obtain ⟨o9, ho9, h⟩ := x_bnd h
    refine x_calli (r0 := o9) (ws2 := (wd_Model_exponent cC cI a0_0 a0_1 a0_2 a0_3 a0_4 a0_5 a0_6 a0_7 v0)) (x_runV (As := [.int v0.2.2.2.2.2.2.2.2.2.1, .int (48 : Int32)]) (rest := []) X (c_Model_is l D cC cI H.size a0_0 a0_1 a0_2 a0_3 a0_4 a0_5 a0_6 a0_7 v0 v0.2.2.2.2.2.2.2.2.2.1 (48 : Int32) o9 ho9) b_318 2 (htB _ b_322) (htB _ b_320) (htB _ b_321) (htB _ b_319) ⟨by decide, by decide, by decide +kernel⟩ ⟨(Nat.le_of_ble_eq_true rfl), (Nat.le_of_ble_eq_true rfl)⟩ 0 rfl rfl hP hD hS [0, 1, 2, 3, 4, 5, 6, 7] rfl (by decide) rfl rfl hl.1 rfl rfl (Nat.le_of_ble_eq_true rfl) d_Model_exponent_9) hP hD hS hA [0, 1, 2, 3, 4, 5, 6, 7] [] [0, 1, 2, 3, 4, 5, 6, 7] rfl rfl (by decide) (by decide) rfl (by decide) (fun H locs hP hD hS => ?_)
    refine lv_if_eq (tgt := 37) hx hb d_Model_exponent_12 rfl (fun hc => ?_) (fun hc => ?_)
    · have h := (if_pos hc).symm.trans h
      exact w_Model_exponent_37 X v0 x1 x2 ls H locs h (lv_sub hl [0, 1, 2] rfl) hP hD hS
    have h := (if_neg hc).symm.trans h
    refine lv_iload_n hx hb d_Model_exponent_15 rfl (lv_at hl 2 rfl) ?_
    refine lv_iconst (v := 3) hx hb d_Model_exponent_16 (by decide) ?_
    refine lv_icmp_ge (tgt := 37) hx hb d_Model_exponent_17 rfl (fun hc => ?_) (fun hc => ?_)
    · have h := (if_pos hc).symm.trans h
      exact w_Model_exponent_37 X v0 x1 x2 ls H locs h (lv_sub hl [0, 1, 2] rfl) hP hD hS
    have h := (if_neg hc).symm.trans h
    refine lv_iload_n hx hb d_Model_exponent_20 rfl (lv_at hl 2 rfl) ?_
    refine lv_iconst (v := 1) hx hb d_Model_exponent_21 (by decide) ?_
    refine lv_iadd hx hb d_Model_exponent_22 ?_
    refine lv_istore_n (lv' := [(2, .int (x2 + (1 : Int32))), (0, .ref a0_0), (1, .int x1)]) hx hb d_Model_exponent_23 rfl hl (by decide) rfl (fun ls hl => ?_)
    refine lv_aload_n hx hb d_Model_exponent_24 rfl (lv_at hl 1 rfl) ?_
    refine lv_aload_n hx hb d_Model_exponent_25 rfl (lv_at hl 1 rfl) ?_
    refine va_get (D := D) (ci := 11) (v := .int v0.2.2.2.2.2.2.2.2.2.1) (C := R_Model) (T := F_Model) (N := 23) hx hb htB in_Model hown hK hP 0 rfl rfl 9 (by decide) (htB _ b_317) (fun _ h9 => h9) rfl d_Model_exponent_26 ?_
    refine lv_iconst (v := 1) hx hb d_Model_exponent_29 (by decide) ?_
    refine lv_iadd hx hb d_Model_exponent_30 ?_
    refine va_put (D := D) (ci := 11) (v := .int (v0.2.2.2.2.2.2.2.2.2.1 + (1 : Int32))) (ty := .int) (C := R_Model) (T := F_Model) (N := 23) hx hb htB in_Model t_Model t_Model_ok n_Model hown hK hP hD hS 0 rfl rfl 9 (by decide) (htB _ b_317) (fun _ h9 => h9) rfl (by decide +kernel) rfl rfl (Nat.le_of_ble_eq_true rfl) d_Model_exponent_31 (fun H locs hP hD hS => ?_)
    have hP : va_P D classes (wd_Model_exponent cC cI a0_0 a0_1 a0_2 a0_3 a0_4 a0_5 a0_6 a0_7 (v0.1, v0.2.1, v0.2.2.1, v0.2.2.2.1, v0.2.2.2.2.1, v0.2.2.2.2.2.1, v0.2.2.2.2.2.2.1, v0.2.2.2.2.2.2.2.1, v0.2.2.2.2.2.2.2.2.1, (v0.2.2.2.2.2.2.2.2.2.1 + (1 : Int32)), v0.2.2.2.2.2.2.2.2.2.2.1, v0.2.2.2.2.2.2.2.2.2.2.2.1, v0.2.2.2.2.2.2.2.2.2.2.2.2.1, v0.2.2.2.2.2.2.2.2.2.2.2.2.2.1, v0.2.2.2.2.2.2.2.2.2.2.2.2.2.2.1, v0.2.2.2.2.2.2.2.2.2.2.2.2.2.2.2.1, v0.2.2.2.2.2.2.2.2.2.2.2.2.2.2.2.2.1, v0.2.2.2.2.2.2.2.2.2.2.2.2.2.2.2.2.2.1, v0.2.2.2.2.2.2.2.2.2.2.2.2.2.2.2.2.2.2.1, v0.2.2.2.2.2.2.2.2.2.2.2.2.2.2.2.2.2.2.2.1, v0.2.2.2.2.2.2.2.2.2.2.2.2.2.2.2.2.2.2.2.2.1, v0.2.2.2.2.2.2.2.2.2.2.2.2.2.2.2.2.2.2.2.2.2.1, v0.2.2.2.2.2.2.2.2.2.2.2.2.2.2.2.2.2.2.2.2.2.2)) H := hP
    have hD : va_D A (wd_Model_exponent cC cI a0_0 a0_1 a0_2 a0_3 a0_4 a0_5 a0_6 a0_7 (v0.1, v0.2.1, v0.2.2.1, v0.2.2.2.1, v0.2.2.2.2.1, v0.2.2.2.2.2.1, v0.2.2.2.2.2.2.1, v0.2.2.2.2.2.2.2.1, v0.2.2.2.2.2.2.2.2.1, (v0.2.2.2.2.2.2.2.2.2.1 + (1 : Int32)), v0.2.2.2.2.2.2.2.2.2.2.1, v0.2.2.2.2.2.2.2.2.2.2.2.1, v0.2.2.2.2.2.2.2.2.2.2.2.2.1, v0.2.2.2.2.2.2.2.2.2.2.2.2.2.1, v0.2.2.2.2.2.2.2.2.2.2.2.2.2.2.1, v0.2.2.2.2.2.2.2.2.2.2.2.2.2.2.2.1, v0.2.2.2.2.2.2.2.2.2.2.2.2.2.2.2.2.1, v0.2.2.2.2.2.2.2.2.2.2.2.2.2.2.2.2.2.1, v0.2.2.2.2.2.2.2.2.2.2.2.2.2.2.2.2.2.2.1, v0.2.2.2.2.2.2.2.2.2.2.2.2.2.2.2.2.2.2.2.1, v0.2.2.2.2.2.2.2.2.2.2.2.2.2.2.2.2.2.2.2.2.1, v0.2.2.2.2.2.2.2.2.2.2.2.2.2.2.2.2.2.2.2.2.2.1, v0.2.2.2.2.2.2.2.2.2.2.2.2.2.2.2.2.2.2.2.2.2.2)) := hD
    refine lv_goto (tgt := 2) hx hb d_Model_exponent_34 rfl ?_
    exact ih (v0.1, v0.2.1, v0.2.2.1, v0.2.2.2.1, v0.2.2.2.2.1, v0.2.2.2.2.2.1, v0.2.2.2.2.2.2.1, v0.2.2.2.2.2.2.2.1, v0.2.2.2.2.2.2.2.2.1, (v0.2.2.2.2.2.2.2.2.2.1 + (1 : Int32)), v0.2.2.2.2.2.2.2.2.2.2.1, v0.2.2.2.2.2.2.2.2.2.2.2.1, v0.2.2.2.2.2.2.2.2.2.2.2.2.1, v0.2.2.2.2.2.2.2.2.2.2.2.2.2.1, v0.2.2.2.2.2.2.2.2.2.2.2.2.2.2.1, v0.2.2.2.2.2.2.2.2.2.2.2.2.2.2.2.1, v0.2.2.2.2.2.2.2.2.2.2.2.2.2.2.2.2.1, v0.2.2.2.2.2.2.2.2.2.2.2.2.2.2.2.2.2.1, v0.2.2.2.2.2.2.2.2.2.2.2.2.2.2.2.2.2.2.1, v0.2.2.2.2.2.2.2.2.2.2.2.2.2.2.2.2.2.2.2.1, v0.2.2.2.2.2.2.2.2.2.2.2.2.2.2.2.2.2.2.2.2.1, v0.2.2.2.2.2.2.2.2.2.2.2.2.2.2.2.2.2.2.2.2.2.1, v0.2.2.2.2.2.2.2.2.2.2.2.2.2.2.2.2.2.2.2.2.2.2) x1 (x2 + (1 : Int32)) ls H locs h (lv_sub hl [1, 2, 0] rfl) hP hD hS

def f_Model_exponent (v0 : T_Model) (v1 : Int32) : Option O_Model_exponent := f_Model_exponent_2 FU v0 v1 (0 : Int32)
set_option maxHeartbeats 4000000 in
set_option maxRecDepth 100000 in
theorem w_Model_exponent {p : Program} {l : Launch} {e : Env} {s : State} {m : MethodId} {args : Array Value} {below : List Frame} {meth : Method} {c : Code} {A : Nat → Prop} {D : va_G} {cC cI : ClassId} {a0_0 a0_1 a0_2 a0_3 a0_4 a0_5 a0_6 a0_7 : Nat} (X : xCX p s m args meth c A D cC cI b_Model_exponent 3 R_Model none) {out : O_Model_exponent} (v0 : T_Model) (v1 : Int32) {ls : Array Slot} {H : Heap} {locs : List Loc} (h : f_Model_exponent v0 v1 = some out) (hl : lv_has ls 3 [(0, .ref a0_0), (1, .int v1)]) (hP : va_P D classes (wd_Model_exponent cC cI a0_0 a0_1 a0_2 a0_3 a0_4 a0_5 a0_6 a0_7 v0) H) (hD : va_D A (wd_Model_exponent cC cI a0_0 a0_1 a0_2 a0_3 a0_4 a0_5 a0_6 a0_7 v0)) (hS : va_S A s.heap H locs) : W p l e rm_Model_exponent s m args below meth c H locs 0 0 (MQ below (q_Model_exponent D cC cI a0_0 a0_1 a0_2 a0_3 a0_4 a0_5 a0_6 a0_7 out A) args s 0 0 A) (F0 m 0 ls []) := by
  obtain ⟨hx, hb, hml, hown, htB, ⟨hK, hN⟩, hZ, hA, hr, hlocks⟩ := id X
  refine lv_iconst (v := 0) hx hb d_Model_exponent_0 (by decide) ?_
  refine lv_istore_n (lv' := [(2, .int (0 : Int32)), (0, .ref a0_0), (1, .int v1)]) hx hb d_Model_exponent_1 rfl hl (by decide) rfl (fun ls hl => ?_)
  exact w_Model_exponent_2 X FU v0 v1 (0 : Int32) ls H locs h (lv_sub hl [1, 2, 0] rfl) hP hD hS

set_option maxHeartbeats 4000000 in
set_option maxRecDepth 100000 in
theorem c_Model_exponent (l : Launch) (D : va_G) (cC cI : ClassId) (sz : Nat) (a0_0 a0_1 a0_2 a0_3 a0_4 a0_5 a0_6 a0_7 : Nat) (v0 : T_Model) (v1 : Int32) (out : O_Model_exponent) (h : f_Model_exponent v0 v1 = some out) : Met l y_Model_exponent (.code y_Model_exponent b_Model_exponent 3 none :: BIG) rm_Model_exponent (va_Pc [.ref a0_0, .int v1] (xPre D cC cI (wd_Model_exponent cC cI a0_0 a0_1 a0_2 a0_3 a0_4 a0_5 a0_6 a0_7 v0) sz)) (q_Model_exponent D cC cI a0_0 a0_1 a0_2 a0_3 a0_4 a0_5 a0_6 a0_7 out (va_A (wd_Model_exponent cC cI a0_0 a0_1 a0_2 a0_3 a0_4 a0_5 a0_6 a0_7 v0) sz)) 0 0 (va_A (wd_Model_exponent cC cI a0_0 a0_1 a0_2 a0_3 a0_4 a0_5 a0_6 a0_7 v0) sz) := by
  refine Met.ofW (cc := b_Model_exponent) (maxL := 3) (ret := none) (by decide) rfl ?_
  intro p e s m args below meth c s₁ B hml hv
  obtain ⟨rfl, rfl, hP, hD0, hG, hZ⟩ := hv
  have hl := lv_entry [.ref a0_0, .int v1] (n := 3) (Nat.le_of_ble_eq_true rfl)
  rw [lg_entry_eq]
  exact w_Model_exponent (x_cx B hml hG hZ) v0 v1 h hl hP hD0.self va_S.rf

abbrev wd_Model_number (cC cI : ClassId) (a0_0 a0_1 a0_2 a0_3 a0_4 a0_5 a0_6 a0_7 : Nat) (v0 : T_Model) : va_W := [(a0_0, .inr (11, [.ref a0_1, .int v0.2.1, .ref a0_2, .int v0.2.2.2.1, .int v0.2.2.2.2.1, .int v0.2.2.2.2.2.1, .ref a0_3, .ref a0_4, .ref a0_5, .int v0.2.2.2.2.2.2.2.2.2.1, .int v0.2.2.2.2.2.2.2.2.2.2.1, .int v0.2.2.2.2.2.2.2.2.2.2.2.1, .int v0.2.2.2.2.2.2.2.2.2.2.2.2.1, .ref a0_6, .int v0.2.2.2.2.2.2.2.2.2.2.2.2.2.2.1, .int v0.2.2.2.2.2.2.2.2.2.2.2.2.2.2.2.1, .int v0.2.2.2.2.2.2.2.2.2.2.2.2.2.2.2.2.1, .ref a0_7, .long v0.2.2.2.2.2.2.2.2.2.2.2.2.2.2.2.2.2.2.1, .int v0.2.2.2.2.2.2.2.2.2.2.2.2.2.2.2.2.2.2.2.1, .long v0.2.2.2.2.2.2.2.2.2.2.2.2.2.2.2.2.2.2.2.2.1, .int v0.2.2.2.2.2.2.2.2.2.2.2.2.2.2.2.2.2.2.2.2.2.1, .int v0.2.2.2.2.2.2.2.2.2.2.2.2.2.2.2.2.2.2.2.2.2.2])), (a0_1, .inl (cC, 120, .inl v0.1)), (a0_2, .inl (cC, 200, .inl v0.2.2.1)), (a0_3, .inl (cI, 160, .inl v0.2.2.2.2.2.2.1)), (a0_4, .inl (cI, 4, .inl v0.2.2.2.2.2.2.2.1)), (a0_5, .inl (cI, 7, .inl v0.2.2.2.2.2.2.2.2.1)), (a0_6, .inl (cI, 40, .inl v0.2.2.2.2.2.2.2.2.2.2.2.2.2.1)), (a0_7, .inl (cI, 6, .inl v0.2.2.2.2.2.2.2.2.2.2.2.2.2.2.2.2.2.1))]
abbrev O_Model_number : Type := T_Model
abbrev q_Model_number (D : va_G) (cC cI : ClassId) (a0_0 a0_1 a0_2 a0_3 a0_4 a0_5 a0_6 a0_7 : Nat)  (out : O_Model_number) (A : Nat → Prop) : Array Value → State → Outcome → State → Prop := va_Qv (fun _ : Unit => True) (fun _ t => va_P D classes (wd_Model_number cC cI a0_0 a0_1 a0_2 a0_3 a0_4 a0_5 a0_6 a0_7 out) t.heap ∧ va_D A (wd_Model_number cC cI a0_0 a0_1 a0_2 a0_3 a0_4 a0_5 a0_6 a0_7 out)) A
abbrev rm_Model_number : Room := { frames := 2, cells := 0, slots := 0, locals := 48 }
def J_Model_number_41 (p : Program) (l : Launch) (e : Env) (s : State) (m : MethodId) (args : Array Value) (below : List Frame) (meth : Method) (c : Code) (A : Nat → Prop) (D : va_G) (cC cI : ClassId) (a0_0 a0_1 a0_2 a0_3 a0_4 a0_5 a0_6 a0_7 : Nat) (out : O_Model_number) (k : T_Model → Int32 → Int32 → Option O_Model_number) : Prop := ∀ (v0 : T_Model) (x1 : Int32) (x2 : Int32) (ls : Array Slot) (H : Heap) (locs : List Loc), k v0 x1 x2 = some out → lv_has ls 3 [(0, .ref a0_0), (1, .int x1), (2, .int x2)] → va_P D classes (wd_Model_number cC cI a0_0 a0_1 a0_2 a0_3 a0_4 a0_5 a0_6 a0_7 v0) H → va_D A (wd_Model_number cC cI a0_0 a0_1 a0_2 a0_3 a0_4 a0_5 a0_6 a0_7 v0) → va_S A s.heap H locs → W p l e rm_Model_number s m args below meth c H locs 0 0 (MQ below (q_Model_number D cC cI a0_0 a0_1 a0_2 a0_3 a0_4 a0_5 a0_6 a0_7 out A) args s 0 0 A) (F0 m 41 ls [])
def J_Model_number_80 (p : Program) (l : Launch) (e : Env) (s : State) (m : MethodId) (args : Array Value) (below : List Frame) (meth : Method) (c : Code) (A : Nat → Prop) (D : va_G) (cC cI : ClassId) (a0_0 a0_1 a0_2 a0_3 a0_4 a0_5 a0_6 a0_7 : Nat) (out : O_Model_number) (k : T_Model → Option O_Model_number) : Prop := ∀ (v0 : T_Model) (ls : Array Slot) (H : Heap) (locs : List Loc), k v0 = some out → lv_has ls 3 [] → va_P D classes (wd_Model_number cC cI a0_0 a0_1 a0_2 a0_3 a0_4 a0_5 a0_6 a0_7 v0) H → va_D A (wd_Model_number cC cI a0_0 a0_1 a0_2 a0_3 a0_4 a0_5 a0_6 a0_7 v0) → va_S A s.heap H locs → W p l e rm_Model_number s m args below meth c H locs 0 0 (MQ below (q_Model_number D cC cI a0_0 a0_1 a0_2 a0_3 a0_4 a0_5 a0_6 a0_7 out A) args s 0 0 A) (F0 m 80 ls [])
def f_Model_number_80 (v0 : T_Model) : Option O_Model_number := some v0
set_option maxHeartbeats 4000000 in
set_option maxRecDepth 100000 in
theorem w_Model_number_80 {p : Program} {l : Launch} {e : Env} {s : State} {m : MethodId} {args : Array Value} {below : List Frame} {meth : Method} {c : Code} {A : Nat → Prop} {D : va_G} {cC cI : ClassId} {a0_0 a0_1 a0_2 a0_3 a0_4 a0_5 a0_6 a0_7 : Nat} (X : xCX p s m args meth c A D cC cI b_Model_number 3 R_Model none) {out : O_Model_number}   : J_Model_number_80 p l e s m args below meth c A D cC cI a0_0 a0_1 a0_2 a0_3 a0_4 a0_5 a0_6 a0_7 out (f_Model_number_80  ) := by
  obtain ⟨hx, hb, hml, hown, htB, ⟨hK, hN⟩, hZ, hA, hr, hlocks⟩ := id X
  intro v0 ls H locs h hl hP hD hS
  obtain rfl := Option.some.inj h
  exact W.vret hx hb hr (fun t ht hW => ⟨⟨(), rfl, trivial, by rw [ht]; exact hP, hD⟩, hS.F ht⟩) hS.2.2 d_Model_number_80 hlocks

def f_Model_number_41 (v0 : T_Model) (x1 : Int32) (x2 : Int32) : Option O_Model_number := (if 0 ≤ v0.2.2.2.2.2.2.2.2.2.2.1 then f_Model_number_80 v0 else (f_Model_is v0 v0.2.2.2.2.2.2.2.2.2.1 (69 : Int32)).bind (fun o55 => (if o55 = 0 then f_Model_number_80 v0 else (if x2 ≤ 0 then f_Model_number_80 v0 else (f_Model_exponent (v0.1, v0.2.1, v0.2.2.1, v0.2.2.2.1, v0.2.2.2.2.1, v0.2.2.2.2.2.1, v0.2.2.2.2.2.2.1, v0.2.2.2.2.2.2.2.1, v0.2.2.2.2.2.2.2.2.1, (v0.2.2.2.2.2.2.2.2.2.1 + (1 : Int32)), v0.2.2.2.2.2.2.2.2.2.2.1, v0.2.2.2.2.2.2.2.2.2.2.2.1, v0.2.2.2.2.2.2.2.2.2.2.2.2.1, v0.2.2.2.2.2.2.2.2.2.2.2.2.2.1, v0.2.2.2.2.2.2.2.2.2.2.2.2.2.2.1, v0.2.2.2.2.2.2.2.2.2.2.2.2.2.2.2.1, v0.2.2.2.2.2.2.2.2.2.2.2.2.2.2.2.2.1, v0.2.2.2.2.2.2.2.2.2.2.2.2.2.2.2.2.2.1, v0.2.2.2.2.2.2.2.2.2.2.2.2.2.2.2.2.2.2.1, v0.2.2.2.2.2.2.2.2.2.2.2.2.2.2.2.2.2.2.2.1, v0.2.2.2.2.2.2.2.2.2.2.2.2.2.2.2.2.2.2.2.2.1, v0.2.2.2.2.2.2.2.2.2.2.2.2.2.2.2.2.2.2.2.2.2.1, v0.2.2.2.2.2.2.2.2.2.2.2.2.2.2.2.2.2.2.2.2.2.2) x1).bind (fun o77 => f_Model_number_80 o77)))))
set_option maxHeartbeats 4000000 in
set_option maxRecDepth 100000 in
theorem w_Model_number_41 {p : Program} {l : Launch} {e : Env} {s : State} {m : MethodId} {args : Array Value} {below : List Frame} {meth : Method} {c : Code} {A : Nat → Prop} {D : va_G} {cC cI : ClassId} {a0_0 a0_1 a0_2 a0_3 a0_4 a0_5 a0_6 a0_7 : Nat} (X : xCX p s m args meth c A D cC cI b_Model_number 3 R_Model none) {out : O_Model_number}   : J_Model_number_41 p l e s m args below meth c A D cC cI a0_0 a0_1 a0_2 a0_3 a0_4 a0_5 a0_6 a0_7 out (f_Model_number_41  ) := by
  obtain ⟨hx, hb, hml, hown, htB, ⟨hK, hN⟩, hZ, hA, hr, hlocks⟩ := id X
  intro v0 x1 x2 ls H locs h hl hP hD hS
  refine lv_aload_n hx hb d_Model_number_41 rfl (lv_at hl 0 rfl) ?_
  refine va_get (D := D) (ci := 11) (v := .int v0.2.2.2.2.2.2.2.2.2.2.1) (C := R_Model) (T := F_Model) (N := 23) hx hb htB in_Model hown hK hP 0 rfl rfl 10 (by decide) (htB _ b_331) (fun _ h9 => h9) rfl d_Model_number_42 ?_
  refine lv_if_ge (tgt := 80) hx hb d_Model_number_45 rfl (fun hc => ?_) (fun hc => ?_)
  · have h := (if_pos hc).symm.trans h
    exact w_Model_number_80 X v0 ls H locs h (lv_sub hl [] rfl) hP hD hS
  have h := (if_neg hc).symm.trans h
  refine lv_aload_n hx hb d_Model_number_48 rfl (lv_at hl 0 rfl) ?_
  refine lv_aload_n hx hb d_Model_number_49 rfl (lv_at hl 0 rfl) ?_
  refine va_get (D := D) (ci := 11) (v := .int v0.2.2.2.2.2.2.2.2.2.1) (C := R_Model) (T := F_Model) (N := 23) hx hb htB in_Model hown hK hP 0 rfl rfl 9 (by decide) (htB _ b_317) (fun _ h9 => h9) rfl d_Model_number_50 ?_
  refine lv_bipush (v := 69) hx hb d_Model_number_53 (by decide) ?_
  obtain ⟨o55, ho55, h⟩ := x_bnd h
  refine x_calli (r0 := o55) (ws2 := (wd_Model_number cC cI a0_0 a0_1 a0_2 a0_3 a0_4 a0_5 a0_6 a0_7 v0)) (x_runV (As := [.int v0.2.2.2.2.2.2.2.2.2.1, .int (69 : Int32)]) (rest := []) X (c_Model_is l D cC cI H.size a0_0 a0_1 a0_2 a0_3 a0_4 a0_5 a0_6 a0_7 v0 v0.2.2.2.2.2.2.2.2.2.1 (69 : Int32) o55 ho55) b_318 2 (htB _ b_322) (htB _ b_320) (htB _ b_321) (htB _ b_319) ⟨by decide, by decide, by decide +kernel⟩ ⟨(Nat.le_of_ble_eq_true rfl), (Nat.le_of_ble_eq_true rfl)⟩ 0 rfl rfl hP hD hS [0, 1, 2, 3, 4, 5, 6, 7] rfl (by decide) rfl rfl hl.1 rfl rfl (Nat.le_of_ble_eq_true rfl) d_Model_number_55) hP hD hS hA [0, 1, 2, 3, 4, 5, 6, 7] [] [0, 1, 2, 3, 4, 5, 6, 7] rfl rfl (by decide) (by decide) rfl (by decide) (fun H locs hP hD hS => ?_)
  refine lv_if_eq (tgt := 80) hx hb d_Model_number_58 rfl (fun hc => ?_) (fun hc => ?_)
  · have h := (if_pos hc).symm.trans h
    exact w_Model_number_80 X v0 ls H locs h (lv_sub hl [] rfl) hP hD hS
  have h := (if_neg hc).symm.trans h
  refine lv_iload_n hx hb d_Model_number_61 rfl (lv_at hl 2 rfl) ?_
  refine lv_if_le (tgt := 80) hx hb d_Model_number_62 rfl (fun hc => ?_) (fun hc => ?_)
  · have h := (if_pos hc).symm.trans h
    exact w_Model_number_80 X v0 ls H locs h (lv_sub hl [] rfl) hP hD hS
  have h := (if_neg hc).symm.trans h
  refine lv_aload_n hx hb d_Model_number_65 rfl (lv_at hl 0 rfl) ?_
  refine lv_aload_n hx hb d_Model_number_66 rfl (lv_at hl 0 rfl) ?_
  refine va_get (D := D) (ci := 11) (v := .int v0.2.2.2.2.2.2.2.2.2.1) (C := R_Model) (T := F_Model) (N := 23) hx hb htB in_Model hown hK hP 0 rfl rfl 9 (by decide) (htB _ b_317) (fun _ h9 => h9) rfl d_Model_number_67 ?_
  refine lv_iconst (v := 1) hx hb d_Model_number_70 (by decide) ?_
  refine lv_iadd hx hb d_Model_number_71 ?_
  refine va_put (D := D) (ci := 11) (v := .int (v0.2.2.2.2.2.2.2.2.2.1 + (1 : Int32))) (ty := .int) (C := R_Model) (T := F_Model) (N := 23) hx hb htB in_Model t_Model t_Model_ok n_Model hown hK hP hD hS 0 rfl rfl 9 (by decide) (htB _ b_317) (fun _ h9 => h9) rfl (by decide +kernel) rfl rfl (Nat.le_of_ble_eq_true rfl) d_Model_number_72 (fun H locs hP hD hS => ?_)
  have hP : va_P D classes (wd_Model_number cC cI a0_0 a0_1 a0_2 a0_3 a0_4 a0_5 a0_6 a0_7 (v0.1, v0.2.1, v0.2.2.1, v0.2.2.2.1, v0.2.2.2.2.1, v0.2.2.2.2.2.1, v0.2.2.2.2.2.2.1, v0.2.2.2.2.2.2.2.1, v0.2.2.2.2.2.2.2.2.1, (v0.2.2.2.2.2.2.2.2.2.1 + (1 : Int32)), v0.2.2.2.2.2.2.2.2.2.2.1, v0.2.2.2.2.2.2.2.2.2.2.2.1, v0.2.2.2.2.2.2.2.2.2.2.2.2.1, v0.2.2.2.2.2.2.2.2.2.2.2.2.2.1, v0.2.2.2.2.2.2.2.2.2.2.2.2.2.2.1, v0.2.2.2.2.2.2.2.2.2.2.2.2.2.2.2.1, v0.2.2.2.2.2.2.2.2.2.2.2.2.2.2.2.2.1, v0.2.2.2.2.2.2.2.2.2.2.2.2.2.2.2.2.2.1, v0.2.2.2.2.2.2.2.2.2.2.2.2.2.2.2.2.2.2.1, v0.2.2.2.2.2.2.2.2.2.2.2.2.2.2.2.2.2.2.2.1, v0.2.2.2.2.2.2.2.2.2.2.2.2.2.2.2.2.2.2.2.2.1, v0.2.2.2.2.2.2.2.2.2.2.2.2.2.2.2.2.2.2.2.2.2.1, v0.2.2.2.2.2.2.2.2.2.2.2.2.2.2.2.2.2.2.2.2.2.2)) H := hP
  have hD : va_D A (wd_Model_number cC cI a0_0 a0_1 a0_2 a0_3 a0_4 a0_5 a0_6 a0_7 (v0.1, v0.2.1, v0.2.2.1, v0.2.2.2.1, v0.2.2.2.2.1, v0.2.2.2.2.2.1, v0.2.2.2.2.2.2.1, v0.2.2.2.2.2.2.2.1, v0.2.2.2.2.2.2.2.2.1, (v0.2.2.2.2.2.2.2.2.2.1 + (1 : Int32)), v0.2.2.2.2.2.2.2.2.2.2.1, v0.2.2.2.2.2.2.2.2.2.2.2.1, v0.2.2.2.2.2.2.2.2.2.2.2.2.1, v0.2.2.2.2.2.2.2.2.2.2.2.2.2.1, v0.2.2.2.2.2.2.2.2.2.2.2.2.2.2.1, v0.2.2.2.2.2.2.2.2.2.2.2.2.2.2.2.1, v0.2.2.2.2.2.2.2.2.2.2.2.2.2.2.2.2.1, v0.2.2.2.2.2.2.2.2.2.2.2.2.2.2.2.2.2.1, v0.2.2.2.2.2.2.2.2.2.2.2.2.2.2.2.2.2.2.1, v0.2.2.2.2.2.2.2.2.2.2.2.2.2.2.2.2.2.2.2.1, v0.2.2.2.2.2.2.2.2.2.2.2.2.2.2.2.2.2.2.2.2.1, v0.2.2.2.2.2.2.2.2.2.2.2.2.2.2.2.2.2.2.2.2.2.1, v0.2.2.2.2.2.2.2.2.2.2.2.2.2.2.2.2.2.2.2.2.2.2)) := hD
  refine lv_aload_n hx hb d_Model_number_75 rfl (lv_at hl 0 rfl) ?_
  refine lv_iload_n hx hb d_Model_number_76 rfl (lv_at hl 1 rfl) ?_
  obtain ⟨o77, ho77, h⟩ := x_bnd h
  refine x_callv (ws2 := (wd_Model_number cC cI a0_0 a0_1 a0_2 a0_3 a0_4 a0_5 a0_6 a0_7 o77)) (x_runV (As := [.int x1]) (rest := []) X (c_Model_exponent l D cC cI H.size a0_0 a0_1 a0_2 a0_3 a0_4 a0_5 a0_6 a0_7 (v0.1, v0.2.1, v0.2.2.1, v0.2.2.2.1, v0.2.2.2.2.1, v0.2.2.2.2.2.1, v0.2.2.2.2.2.2.1, v0.2.2.2.2.2.2.2.1, v0.2.2.2.2.2.2.2.2.1, (v0.2.2.2.2.2.2.2.2.2.1 + (1 : Int32)), v0.2.2.2.2.2.2.2.2.2.2.1, v0.2.2.2.2.2.2.2.2.2.2.2.1, v0.2.2.2.2.2.2.2.2.2.2.2.2.1, v0.2.2.2.2.2.2.2.2.2.2.2.2.2.1, v0.2.2.2.2.2.2.2.2.2.2.2.2.2.2.1, v0.2.2.2.2.2.2.2.2.2.2.2.2.2.2.2.1, v0.2.2.2.2.2.2.2.2.2.2.2.2.2.2.2.2.1, v0.2.2.2.2.2.2.2.2.2.2.2.2.2.2.2.2.2.1, v0.2.2.2.2.2.2.2.2.2.2.2.2.2.2.2.2.2.2.1, v0.2.2.2.2.2.2.2.2.2.2.2.2.2.2.2.2.2.2.2.1, v0.2.2.2.2.2.2.2.2.2.2.2.2.2.2.2.2.2.2.2.2.1, v0.2.2.2.2.2.2.2.2.2.2.2.2.2.2.2.2.2.2.2.2.2.1, v0.2.2.2.2.2.2.2.2.2.2.2.2.2.2.2.2.2.2.2.2.2.2) x1 o77 ho77) b_336 1 (htB _ b_339) (htB _ b_337) (htB _ b_338) (htB _ b_319) ⟨by decide, by decide, by decide +kernel⟩ ⟨(Nat.le_of_ble_eq_true rfl), (Nat.le_of_ble_eq_true rfl)⟩ 0 rfl rfl hP hD hS [0, 1, 2, 3, 4, 5, 6, 7] rfl (by decide) rfl rfl hl.1 rfl rfl (Nat.le_of_ble_eq_true rfl) d_Model_number_77) hP hD hS hA [0, 1, 2, 3, 4, 5, 6, 7] [] [0, 1, 2, 3, 4, 5, 6, 7] rfl rfl (by decide) (by decide) rfl (by decide) (fun H locs hP hD hS => ?_)
  exact w_Model_number_80 X o77 ls H locs h (lv_sub hl [] rfl) hP hD hS

def f_Model_number (v0 : T_Model) (v1 : Int32) : Option O_Model_number := (f_Model_whole v0 v1).bind (fun o2 => (if 0 ≤ o2.2.2.2.2.2.2.2.2.2.2.2.1 then f_Model_number_41 o2.2 v1 o2.1 else (f_Model_is o2.2 o2.2.2.2.2.2.2.2.2.2.2.1 (46 : Int32)).bind (fun o20 => (if o20 = 0 then f_Model_number_41 o2.2 v1 o2.1 else (f_Model_fraction (o2.2.1, o2.2.2.1, o2.2.2.2.1, o2.2.2.2.2.1, o2.2.2.2.2.2.1, o2.2.2.2.2.2.2.1, o2.2.2.2.2.2.2.2.1, o2.2.2.2.2.2.2.2.2.1, o2.2.2.2.2.2.2.2.2.2.1, (o2.2.2.2.2.2.2.2.2.2.2.1 + (1 : Int32)), o2.2.2.2.2.2.2.2.2.2.2.2.1, o2.2.2.2.2.2.2.2.2.2.2.2.2.1, o2.2.2.2.2.2.2.2.2.2.2.2.2.2.1, o2.2.2.2.2.2.2.2.2.2.2.2.2.2.2.1, o2.2.2.2.2.2.2.2.2.2.2.2.2.2.2.2.1, o2.2.2.2.2.2.2.2.2.2.2.2.2.2.2.2.2.1, o2.2.2.2.2.2.2.2.2.2.2.2.2.2.2.2.2.2.1, o2.2.2.2.2.2.2.2.2.2.2.2.2.2.2.2.2.2.2.1, o2.2.2.2.2.2.2.2.2.2.2.2.2.2.2.2.2.2.2.2.1, o2.2.2.2.2.2.2.2.2.2.2.2.2.2.2.2.2.2.2.2.2.1, o2.2.2.2.2.2.2.2.2.2.2.2.2.2.2.2.2.2.2.2.2.2.1, o2.2.2.2.2.2.2.2.2.2.2.2.2.2.2.2.2.2.2.2.2.2.2.1, o2.2.2.2.2.2.2.2.2.2.2.2.2.2.2.2.2.2.2.2.2.2.2.2) v1).bind (fun o38 => f_Model_number_41 o38 v1 o2.1)))))
set_option maxHeartbeats 4000000 in
set_option maxRecDepth 100000 in
theorem w_Model_number {p : Program} {l : Launch} {e : Env} {s : State} {m : MethodId} {args : Array Value} {below : List Frame} {meth : Method} {c : Code} {A : Nat → Prop} {D : va_G} {cC cI : ClassId} {a0_0 a0_1 a0_2 a0_3 a0_4 a0_5 a0_6 a0_7 : Nat} (X : xCX p s m args meth c A D cC cI b_Model_number 3 R_Model none) {out : O_Model_number} (v0 : T_Model) (v1 : Int32) {ls : Array Slot} {H : Heap} {locs : List Loc} (h : f_Model_number v0 v1 = some out) (hl : lv_has ls 3 [(0, .ref a0_0), (1, .int v1)]) (hP : va_P D classes (wd_Model_number cC cI a0_0 a0_1 a0_2 a0_3 a0_4 a0_5 a0_6 a0_7 v0) H) (hD : va_D A (wd_Model_number cC cI a0_0 a0_1 a0_2 a0_3 a0_4 a0_5 a0_6 a0_7 v0)) (hS : va_S A s.heap H locs) : W p l e rm_Model_number s m args below meth c H locs 0 0 (MQ below (q_Model_number D cC cI a0_0 a0_1 a0_2 a0_3 a0_4 a0_5 a0_6 a0_7 out A) args s 0 0 A) (F0 m 0 ls []) := by
  obtain ⟨hx, hb, hml, hown, htB, ⟨hK, hN⟩, hZ, hA, hr, hlocks⟩ := id X
  refine lv_aload_n hx hb d_Model_number_0 rfl (lv_at hl 0 rfl) ?_
  refine lv_iload_n hx hb d_Model_number_1 rfl (lv_at hl 1 rfl) ?_
  obtain ⟨o2, ho2, h⟩ := x_bnd h
  refine x_calli (r0 := o2.1) (ws2 := (wd_Model_number cC cI a0_0 a0_1 a0_2 a0_3 a0_4 a0_5 a0_6 a0_7 o2.2)) (x_runV (As := [.int v1]) (rest := []) X (c_Model_whole l D cC cI H.size a0_0 a0_1 a0_2 a0_3 a0_4 a0_5 a0_6 a0_7 v0 v1 o2 ho2) b_332 1 (htB _ b_335) (htB _ b_333) (htB _ b_334) (htB _ b_319) ⟨by decide, by decide, by decide +kernel⟩ ⟨(Nat.le_of_ble_eq_true rfl), (Nat.le_of_ble_eq_true rfl)⟩ 0 rfl rfl hP hD hS [0, 1, 2, 3, 4, 5, 6, 7] rfl (by decide) rfl rfl hl.1 rfl rfl (Nat.le_of_ble_eq_true rfl) d_Model_number_2) hP hD hS hA [0, 1, 2, 3, 4, 5, 6, 7] [] [0, 1, 2, 3, 4, 5, 6, 7] rfl rfl (by decide) (by decide) rfl (by decide) (fun H locs hP hD hS => ?_)
  refine lv_istore_n (lv' := [(2, .int o2.1), (0, .ref a0_0), (1, .int v1)]) hx hb d_Model_number_5 rfl hl (by decide) rfl (fun ls hl => ?_)
  refine lv_aload_n hx hb d_Model_number_6 rfl (lv_at hl 1 rfl) ?_
  refine va_get (D := D) (ci := 11) (v := .int o2.2.2.2.2.2.2.2.2.2.2.2.1) (C := R_Model) (T := F_Model) (N := 23) hx hb htB in_Model hown hK hP 0 rfl rfl 10 (by decide) (htB _ b_331) (fun _ h9 => h9) rfl d_Model_number_7 ?_
  refine lv_if_ge (tgt := 41) hx hb d_Model_number_10 rfl (fun hc => ?_) (fun hc => ?_)
  · have h := (if_pos hc).symm.trans h
    exact w_Model_number_41 X o2.2 v1 o2.1 ls H locs h (lv_sub hl [1, 2, 0] rfl) hP hD hS
  have h := (if_neg hc).symm.trans h
  refine lv_aload_n hx hb d_Model_number_13 rfl (lv_at hl 1 rfl) ?_
  refine lv_aload_n hx hb d_Model_number_14 rfl (lv_at hl 1 rfl) ?_
  refine va_get (D := D) (ci := 11) (v := .int o2.2.2.2.2.2.2.2.2.2.2.1) (C := R_Model) (T := F_Model) (N := 23) hx hb htB in_Model hown hK hP 0 rfl rfl 9 (by decide) (htB _ b_317) (fun _ h9 => h9) rfl d_Model_number_15 ?_
  refine lv_bipush (v := 46) hx hb d_Model_number_18 (by decide) ?_
  obtain ⟨o20, ho20, h⟩ := x_bnd h
  refine x_calli (r0 := o20) (ws2 := (wd_Model_number cC cI a0_0 a0_1 a0_2 a0_3 a0_4 a0_5 a0_6 a0_7 o2.2)) (x_runV (As := [.int o2.2.2.2.2.2.2.2.2.2.2.1, .int (46 : Int32)]) (rest := []) X (c_Model_is l D cC cI H.size a0_0 a0_1 a0_2 a0_3 a0_4 a0_5 a0_6 a0_7 o2.2 o2.2.2.2.2.2.2.2.2.2.2.1 (46 : Int32) o20 ho20) b_318 2 (htB _ b_322) (htB _ b_320) (htB _ b_321) (htB _ b_319) ⟨by decide, by decide, by decide +kernel⟩ ⟨(Nat.le_of_ble_eq_true rfl), (Nat.le_of_ble_eq_true rfl)⟩ 0 rfl rfl hP hD hS [0, 1, 2, 3, 4, 5, 6, 7] rfl (by decide) rfl rfl hl.1 rfl rfl (Nat.le_of_ble_eq_true rfl) d_Model_number_20) hP hD hS hA [0, 1, 2, 3, 4, 5, 6, 7] [] [0, 1, 2, 3, 4, 5, 6, 7] rfl rfl (by decide) (by decide) rfl (by decide) (fun H locs hP hD hS => ?_)
  refine lv_if_eq (tgt := 41) hx hb d_Model_number_23 rfl (fun hc => ?_) (fun hc => ?_)
  · have h := (if_pos hc).symm.trans h
    exact w_Model_number_41 X o2.2 v1 o2.1 ls H locs h (lv_sub hl [1, 2, 0] rfl) hP hD hS
  have h := (if_neg hc).symm.trans h
  refine lv_aload_n hx hb d_Model_number_26 rfl (lv_at hl 1 rfl) ?_
  refine lv_aload_n hx hb d_Model_number_27 rfl (lv_at hl 1 rfl) ?_
  refine va_get (D := D) (ci := 11) (v := .int o2.2.2.2.2.2.2.2.2.2.2.1) (C := R_Model) (T := F_Model) (N := 23) hx hb htB in_Model hown hK hP 0 rfl rfl 9 (by decide) (htB _ b_317) (fun _ h9 => h9) rfl d_Model_number_28 ?_
  refine lv_iconst (v := 1) hx hb d_Model_number_31 (by decide) ?_
  refine lv_iadd hx hb d_Model_number_32 ?_
  refine va_put (D := D) (ci := 11) (v := .int (o2.2.2.2.2.2.2.2.2.2.2.1 + (1 : Int32))) (ty := .int) (C := R_Model) (T := F_Model) (N := 23) hx hb htB in_Model t_Model t_Model_ok n_Model hown hK hP hD hS 0 rfl rfl 9 (by decide) (htB _ b_317) (fun _ h9 => h9) rfl (by decide +kernel) rfl rfl (Nat.le_of_ble_eq_true rfl) d_Model_number_33 (fun H locs hP hD hS => ?_)
  have hP : va_P D classes (wd_Model_number cC cI a0_0 a0_1 a0_2 a0_3 a0_4 a0_5 a0_6 a0_7 (o2.2.1, o2.2.2.1, o2.2.2.2.1, o2.2.2.2.2.1, o2.2.2.2.2.2.1, o2.2.2.2.2.2.2.1, o2.2.2.2.2.2.2.2.1, o2.2.2.2.2.2.2.2.2.1, o2.2.2.2.2.2.2.2.2.2.1, (o2.2.2.2.2.2.2.2.2.2.2.1 + (1 : Int32)), o2.2.2.2.2.2.2.2.2.2.2.2.1, o2.2.2.2.2.2.2.2.2.2.2.2.2.1, o2.2.2.2.2.2.2.2.2.2.2.2.2.2.1, o2.2.2.2.2.2.2.2.2.2.2.2.2.2.2.1, o2.2.2.2.2.2.2.2.2.2.2.2.2.2.2.2.1, o2.2.2.2.2.2.2.2.2.2.2.2.2.2.2.2.2.1, o2.2.2.2.2.2.2.2.2.2.2.2.2.2.2.2.2.2.1, o2.2.2.2.2.2.2.2.2.2.2.2.2.2.2.2.2.2.2.1, o2.2.2.2.2.2.2.2.2.2.2.2.2.2.2.2.2.2.2.2.1, o2.2.2.2.2.2.2.2.2.2.2.2.2.2.2.2.2.2.2.2.2.1, o2.2.2.2.2.2.2.2.2.2.2.2.2.2.2.2.2.2.2.2.2.2.1, o2.2.2.2.2.2.2.2.2.2.2.2.2.2.2.2.2.2.2.2.2.2.2.1, o2.2.2.2.2.2.2.2.2.2.2.2.2.2.2.2.2.2.2.2.2.2.2.2)) H := hP
  have hD : va_D A (wd_Model_number cC cI a0_0 a0_1 a0_2 a0_3 a0_4 a0_5 a0_6 a0_7 (o2.2.1, o2.2.2.1, o2.2.2.2.1, o2.2.2.2.2.1, o2.2.2.2.2.2.1, o2.2.2.2.2.2.2.1, o2.2.2.2.2.2.2.2.1, o2.2.2.2.2.2.2.2.2.1, o2.2.2.2.2.2.2.2.2.2.1, (o2.2.2.2.2.2.2.2.2.2.2.1 + (1 : Int32)), o2.2.2.2.2.2.2.2.2.2.2.2.1, o2.2.2.2.2.2.2.2.2.2.2.2.2.1, o2.2.2.2.2.2.2.2.2.2.2.2.2.2.1, o2.2.2.2.2.2.2.2.2.2.2.2.2.2.2.1, o2.2.2.2.2.2.2.2.2.2.2.2.2.2.2.2.1, o2.2.2.2.2.2.2.2.2.2.2.2.2.2.2.2.2.1, o2.2.2.2.2.2.2.2.2.2.2.2.2.2.2.2.2.2.1, o2.2.2.2.2.2.2.2.2.2.2.2.2.2.2.2.2.2.2.1, o2.2.2.2.2.2.2.2.2.2.2.2.2.2.2.2.2.2.2.2.1, o2.2.2.2.2.2.2.2.2.2.2.2.2.2.2.2.2.2.2.2.2.1, o2.2.2.2.2.2.2.2.2.2.2.2.2.2.2.2.2.2.2.2.2.2.1, o2.2.2.2.2.2.2.2.2.2.2.2.2.2.2.2.2.2.2.2.2.2.2.1, o2.2.2.2.2.2.2.2.2.2.2.2.2.2.2.2.2.2.2.2.2.2.2.2)) := hD
  refine lv_aload_n hx hb d_Model_number_36 rfl (lv_at hl 1 rfl) ?_
  refine lv_iload_n hx hb d_Model_number_37 rfl (lv_at hl 2 rfl) ?_
  obtain ⟨o38, ho38, h⟩ := x_bnd h
  refine x_callv (ws2 := (wd_Model_number cC cI a0_0 a0_1 a0_2 a0_3 a0_4 a0_5 a0_6 a0_7 o38)) (x_runV (As := [.int v1]) (rest := []) X (c_Model_fraction l D cC cI H.size a0_0 a0_1 a0_2 a0_3 a0_4 a0_5 a0_6 a0_7 (o2.2.1, o2.2.2.1, o2.2.2.2.1, o2.2.2.2.2.1, o2.2.2.2.2.2.1, o2.2.2.2.2.2.2.1, o2.2.2.2.2.2.2.2.1, o2.2.2.2.2.2.2.2.2.1, o2.2.2.2.2.2.2.2.2.2.1, (o2.2.2.2.2.2.2.2.2.2.2.1 + (1 : Int32)), o2.2.2.2.2.2.2.2.2.2.2.2.1, o2.2.2.2.2.2.2.2.2.2.2.2.2.1, o2.2.2.2.2.2.2.2.2.2.2.2.2.2.1, o2.2.2.2.2.2.2.2.2.2.2.2.2.2.2.1, o2.2.2.2.2.2.2.2.2.2.2.2.2.2.2.2.1, o2.2.2.2.2.2.2.2.2.2.2.2.2.2.2.2.2.1, o2.2.2.2.2.2.2.2.2.2.2.2.2.2.2.2.2.2.1, o2.2.2.2.2.2.2.2.2.2.2.2.2.2.2.2.2.2.2.1, o2.2.2.2.2.2.2.2.2.2.2.2.2.2.2.2.2.2.2.2.1, o2.2.2.2.2.2.2.2.2.2.2.2.2.2.2.2.2.2.2.2.2.1, o2.2.2.2.2.2.2.2.2.2.2.2.2.2.2.2.2.2.2.2.2.2.1, o2.2.2.2.2.2.2.2.2.2.2.2.2.2.2.2.2.2.2.2.2.2.2.1, o2.2.2.2.2.2.2.2.2.2.2.2.2.2.2.2.2.2.2.2.2.2.2.2) v1 o38 ho38) b_340 1 (htB _ b_343) (htB _ b_341) (htB _ b_342) (htB _ b_319) ⟨by decide, by decide, by decide +kernel⟩ ⟨(Nat.le_of_ble_eq_true rfl), (Nat.le_of_ble_eq_true rfl)⟩ 0 rfl rfl hP hD hS [0, 1, 2, 3, 4, 5, 6, 7] rfl (by decide) rfl rfl hl.1 rfl rfl (Nat.le_of_ble_eq_true rfl) d_Model_number_38) hP hD hS hA [0, 1, 2, 3, 4, 5, 6, 7] [] [0, 1, 2, 3, 4, 5, 6, 7] rfl rfl (by decide) (by decide) rfl (by decide) (fun H locs hP hD hS => ?_)
  exact w_Model_number_41 X o38 v1 o2.1 ls H locs h (lv_sub hl [1, 2, 0] rfl) hP hD hS

set_option maxHeartbeats 4000000 in
set_option maxRecDepth 100000 in
theorem c_Model_number (l : Launch) (D : va_G) (cC cI : ClassId) (sz : Nat) (a0_0 a0_1 a0_2 a0_3 a0_4 a0_5 a0_6 a0_7 : Nat) (v0 : T_Model) (v1 : Int32) (out : O_Model_number) (h : f_Model_number v0 v1 = some out) : Met l y_Model_number (.code y_Model_number b_Model_number 3 none :: BIG) rm_Model_number (va_Pc [.ref a0_0, .int v1] (xPre D cC cI (wd_Model_number cC cI a0_0 a0_1 a0_2 a0_3 a0_4 a0_5 a0_6 a0_7 v0) sz)) (q_Model_number D cC cI a0_0 a0_1 a0_2 a0_3 a0_4 a0_5 a0_6 a0_7 out (va_A (wd_Model_number cC cI a0_0 a0_1 a0_2 a0_3 a0_4 a0_5 a0_6 a0_7 v0) sz)) 0 0 (va_A (wd_Model_number cC cI a0_0 a0_1 a0_2 a0_3 a0_4 a0_5 a0_6 a0_7 v0) sz) := by
  refine Met.ofW (cc := b_Model_number) (maxL := 3) (ret := none) (by decide) rfl ?_
  intro p e s m args below meth c s₁ B hml hv
  obtain ⟨rfl, rfl, hP, hD0, hG, hZ⟩ := hv
  have hl := lv_entry [.ref a0_0, .int v1] (n := 3) (Nat.le_of_ble_eq_true rfl)
  rw [lg_entry_eq]
  exact w_Model_number (x_cx B hml hG hZ) v0 v1 h hl hP hD0.self va_S.rf

abbrev wd_Model_part (cC cI : ClassId) (a0_0 a0_1 a0_2 a0_3 a0_4 a0_5 a0_6 a0_7 : Nat) (v0 : T_Model) : va_W := [(a0_0, .inr (11, [.ref a0_1, .int v0.2.1, .ref a0_2, .int v0.2.2.2.1, .int v0.2.2.2.2.1, .int v0.2.2.2.2.2.1, .ref a0_3, .ref a0_4, .ref a0_5, .int v0.2.2.2.2.2.2.2.2.2.1, .int v0.2.2.2.2.2.2.2.2.2.2.1, .int v0.2.2.2.2.2.2.2.2.2.2.2.1, .int v0.2.2.2.2.2.2.2.2.2.2.2.2.1, .ref a0_6, .int v0.2.2.2.2.2.2.2.2.2.2.2.2.2.2.1, .int v0.2.2.2.2.2.2.2.2.2.2.2.2.2.2.2.1, .int v0.2.2.2.2.2.2.2.2.2.2.2.2.2.2.2.2.1, .ref a0_7, .long v0.2.2.2.2.2.2.2.2.2.2.2.2.2.2.2.2.2.2.1, .int v0.2.2.2.2.2.2.2.2.2.2.2.2.2.2.2.2.2.2.2.1, .long v0.2.2.2.2.2.2.2.2.2.2.2.2.2.2.2.2.2.2.2.2.1, .int v0.2.2.2.2.2.2.2.2.2.2.2.2.2.2.2.2.2.2.2.2.2.1, .int v0.2.2.2.2.2.2.2.2.2.2.2.2.2.2.2.2.2.2.2.2.2.2])), (a0_1, .inl (cC, 120, .inl v0.1)), (a0_2, .inl (cC, 200, .inl v0.2.2.1)), (a0_3, .inl (cI, 160, .inl v0.2.2.2.2.2.2.1)), (a0_4, .inl (cI, 4, .inl v0.2.2.2.2.2.2.2.1)), (a0_5, .inl (cI, 7, .inl v0.2.2.2.2.2.2.2.2.1)), (a0_6, .inl (cI, 40, .inl v0.2.2.2.2.2.2.2.2.2.2.2.2.2.1)), (a0_7, .inl (cI, 6, .inl v0.2.2.2.2.2.2.2.2.2.2.2.2.2.2.2.2.2.1))]
abbrev O_Model_part : Type := T_Model
abbrev q_Model_part (D : va_G) (cC cI : ClassId) (a0_0 a0_1 a0_2 a0_3 a0_4 a0_5 a0_6 a0_7 : Nat)  (out : O_Model_part) (A : Nat → Prop) : Array Value → State → Outcome → State → Prop := va_Qv (fun _ : Unit => True) (fun _ t => va_P D classes (wd_Model_part cC cI a0_0 a0_1 a0_2 a0_3 a0_4 a0_5 a0_6 a0_7 out) t.heap ∧ va_D A (wd_Model_part cC cI a0_0 a0_1 a0_2 a0_3 a0_4 a0_5 a0_6 a0_7 out)) A
abbrev rm_Model_part : Room := { frames := 3, cells := 0, slots := 0, locals := 70 }
def J_Model_part_17 (p : Program) (l : Launch) (e : Env) (s : State) (m : MethodId) (args : Array Value) (below : List Frame) (meth : Method) (c : Code) (A : Nat → Prop) (D : va_G) (cC cI : ClassId) (a0_0 a0_1 a0_2 a0_3 a0_4 a0_5 a0_6 a0_7 : Nat) (out : O_Model_part) (k : T_Model → Int32 → Int32 → Option O_Model_part) : Prop := ∀ (v0 : T_Model) (x1 : Int32) (s1 : Int32) (ls : Array Slot) (H : Heap) (locs : List Loc), k v0 x1 s1 = some out → lv_has ls 2 [(0, .ref a0_0), (1, .int x1)] → va_P D classes (wd_Model_part cC cI a0_0 a0_1 a0_2 a0_3 a0_4 a0_5 a0_6 a0_7 v0) H → va_D A (wd_Model_part cC cI a0_0 a0_1 a0_2 a0_3 a0_4 a0_5 a0_6 a0_7 v0) → va_S A s.heap H locs → W p l e rm_Model_part s m args below meth c H locs 0 0 (MQ below (q_Model_part D cC cI a0_0 a0_1 a0_2 a0_3 a0_4 a0_5 a0_6 a0_7 out A) args s 0 0 A) (F0 m 17 ls [.int s1, .ref a0_0])
def J_Model_part_36 (p : Program) (l : Launch) (e : Env) (s : State) (m : MethodId) (args : Array Value) (below : List Frame) (meth : Method) (c : Code) (A : Nat → Prop) (D : va_G) (cC cI : ClassId) (a0_0 a0_1 a0_2 a0_3 a0_4 a0_5 a0_6 a0_7 : Nat) (out : O_Model_part) (k : T_Model → Option O_Model_part) : Prop := ∀ (v0 : T_Model) (ls : Array Slot) (H : Heap) (locs : List Loc), k v0 = some out → lv_has ls 2 [] → va_P D classes (wd_Model_part cC cI a0_0 a0_1 a0_2 a0_3 a0_4 a0_5 a0_6 a0_7 v0) H → va_D A (wd_Model_part cC cI a0_0 a0_1 a0_2 a0_3 a0_4 a0_5 a0_6 a0_7 v0) → va_S A s.heap H locs → W p l e rm_Model_part s m args below meth c H locs 0 0 (MQ below (q_Model_part D cC cI a0_0 a0_1 a0_2 a0_3 a0_4 a0_5 a0_6 a0_7 out A) args s 0 0 A) (F0 m 36 ls [])
def f_Model_part_36 (v0 : T_Model) : Option O_Model_part := some v0
set_option maxHeartbeats 4000000 in
set_option maxRecDepth 100000 in
theorem w_Model_part_36 {p : Program} {l : Launch} {e : Env} {s : State} {m : MethodId} {args : Array Value} {below : List Frame} {meth : Method} {c : Code} {A : Nat → Prop} {D : va_G} {cC cI : ClassId} {a0_0 a0_1 a0_2 a0_3 a0_4 a0_5 a0_6 a0_7 : Nat} (X : xCX p s m args meth c A D cC cI b_Model_part 2 R_Model none) {out : O_Model_part}   : J_Model_part_36 p l e s m args below meth c A D cC cI a0_0 a0_1 a0_2 a0_3 a0_4 a0_5 a0_6 a0_7 out (f_Model_part_36  ) := by
  obtain ⟨hx, hb, hml, hown, htB, ⟨hK, hN⟩, hZ, hA, hr, hlocks⟩ := id X
  intro v0 ls H locs h hl hP hD hS
  obtain rfl := Option.some.inj h
  exact W.vret hx hb hr (fun t ht hW => ⟨⟨(), rfl, trivial, by rw [ht]; exact hP, hD⟩, hS.F ht⟩) hS.2.2 d_Model_part_36 hlocks

def f_Model_part_17 (v0 : T_Model) (x1 : Int32) (s1 : Int32) : Option O_Model_part := (f_Model_number v0 s1).bind (fun o17 => (if 0 ≤ o17.2.2.2.2.2.2.2.2.2.2.1 then f_Model_part_36 o17 else (f_Model_affix o17 (((2 : Int32) * x1) + (1 : Int32))).bind (fun o33 => f_Model_part_36 o33)))
set_option maxHeartbeats 4000000 in
set_option maxRecDepth 100000 in
theorem w_Model_part_17 {p : Program} {l : Launch} {e : Env} {s : State} {m : MethodId} {args : Array Value} {below : List Frame} {meth : Method} {c : Code} {A : Nat → Prop} {D : va_G} {cC cI : ClassId} {a0_0 a0_1 a0_2 a0_3 a0_4 a0_5 a0_6 a0_7 : Nat} (X : xCX p s m args meth c A D cC cI b_Model_part 2 R_Model none) {out : O_Model_part}   : J_Model_part_17 p l e s m args below meth c A D cC cI a0_0 a0_1 a0_2 a0_3 a0_4 a0_5 a0_6 a0_7 out (f_Model_part_17  ) := by
  obtain ⟨hx, hb, hml, hown, htB, ⟨hK, hN⟩, hZ, hA, hr, hlocks⟩ := id X
  intro v0 x1 s1 ls H locs h hl hP hD hS
  obtain ⟨o17, ho17, h⟩ := x_bnd h
  refine x_callv (ws2 := (wd_Model_part cC cI a0_0 a0_1 a0_2 a0_3 a0_4 a0_5 a0_6 a0_7 o17)) (x_runV (As := [.int s1]) (rest := []) X (c_Model_number l D cC cI H.size a0_0 a0_1 a0_2 a0_3 a0_4 a0_5 a0_6 a0_7 v0 s1 o17 ho17) b_348 1 (htB _ b_351) (htB _ b_349) (htB _ b_350) (htB _ b_319) ⟨by decide, by decide, by decide +kernel⟩ ⟨(Nat.le_of_ble_eq_true rfl), (Nat.le_of_ble_eq_true rfl)⟩ 0 rfl rfl hP hD hS [0, 1, 2, 3, 4, 5, 6, 7] rfl (by decide) rfl rfl hl.1 rfl rfl (Nat.le_of_ble_eq_true rfl) d_Model_part_17) hP hD hS hA [0, 1, 2, 3, 4, 5, 6, 7] [] [0, 1, 2, 3, 4, 5, 6, 7] rfl rfl (by decide) (by decide) rfl (by decide) (fun H locs hP hD hS => ?_)
  refine lv_aload_n hx hb d_Model_part_20 rfl (lv_at hl 0 rfl) ?_
  refine va_get (D := D) (ci := 11) (v := .int o17.2.2.2.2.2.2.2.2.2.2.1) (C := R_Model) (T := F_Model) (N := 23) hx hb htB in_Model hown hK hP 0 rfl rfl 10 (by decide) (htB _ b_331) (fun _ h9 => h9) rfl d_Model_part_21 ?_
  refine lv_if_ge (tgt := 36) hx hb d_Model_part_24 rfl (fun hc => ?_) (fun hc => ?_)
  · have h := (if_pos hc).symm.trans h
    exact w_Model_part_36 X o17 ls H locs h (lv_sub hl [] rfl) hP hD hS
  have h := (if_neg hc).symm.trans h
  refine lv_aload_n hx hb d_Model_part_27 rfl (lv_at hl 0 rfl) ?_
  refine lv_iconst (v := 2) hx hb d_Model_part_28 (by decide) ?_
  refine lv_iload_n hx hb d_Model_part_29 rfl (lv_at hl 1 rfl) ?_
  refine lv_imul hx hb d_Model_part_30 ?_
  refine lv_iconst (v := 1) hx hb d_Model_part_31 (by decide) ?_
  refine lv_iadd hx hb d_Model_part_32 ?_
  obtain ⟨o33, ho33, h⟩ := x_bnd h
  refine x_callv (ws2 := (wd_Model_part cC cI a0_0 a0_1 a0_2 a0_3 a0_4 a0_5 a0_6 a0_7 o33)) (x_runV (As := [.int (((2 : Int32) * x1) + (1 : Int32))]) (rest := []) X (c_Model_affix l D cC cI H.size a0_0 a0_1 a0_2 a0_3 a0_4 a0_5 a0_6 a0_7 o17 (((2 : Int32) * x1) + (1 : Int32)) o33 ho33) b_344 1 (htB _ b_347) (htB _ b_345) (htB _ b_346) (htB _ b_319) ⟨by decide, by decide, by decide +kernel⟩ ⟨(Nat.le_of_ble_eq_true rfl), (Nat.le_of_ble_eq_true rfl)⟩ 0 rfl rfl hP hD hS [0, 1, 2, 3, 4, 5, 6, 7] rfl (by decide) rfl rfl hl.1 rfl rfl (Nat.le_of_ble_eq_true rfl) d_Model_part_33) hP hD hS hA [0, 1, 2, 3, 4, 5, 6, 7] [] [0, 1, 2, 3, 4, 5, 6, 7] rfl rfl (by decide) (by decide) rfl (by decide) (fun H locs hP hD hS => ?_)
  exact w_Model_part_36 X o33 ls H locs h (lv_sub hl [] rfl) hP hD hS

def f_Model_part (v0 : T_Model) (v1 : Int32) : Option O_Model_part := (f_Model_affix v0 ((2 : Int32) * v1)).bind (fun o4 => (if v1 = 0 then f_Model_part_17 o4 v1 (1 : Int32) else f_Model_part_17 o4 v1 (0 : Int32)))
set_option maxHeartbeats 4000000 in
set_option maxRecDepth 100000 in
theorem w_Model_part {p : Program} {l : Launch} {e : Env} {s : State} {m : MethodId} {args : Array Value} {below : List Frame} {meth : Method} {c : Code} {A : Nat → Prop} {D : va_G} {cC cI : ClassId} {a0_0 a0_1 a0_2 a0_3 a0_4 a0_5 a0_6 a0_7 : Nat} (X : xCX p s m args meth c A D cC cI b_Model_part 2 R_Model none) {out : O_Model_part} (v0 : T_Model) (v1 : Int32) {ls : Array Slot} {H : Heap} {locs : List Loc} (h : f_Model_part v0 v1 = some out) (hl : lv_has ls 2 [(0, .ref a0_0), (1, .int v1)]) (hP : va_P D classes (wd_Model_part cC cI a0_0 a0_1 a0_2 a0_3 a0_4 a0_5 a0_6 a0_7 v0) H) (hD : va_D A (wd_Model_part cC cI a0_0 a0_1 a0_2 a0_3 a0_4 a0_5 a0_6 a0_7 v0)) (hS : va_S A s.heap H locs) : W p l e rm_Model_part s m args below meth c H locs 0 0 (MQ below (q_Model_part D cC cI a0_0 a0_1 a0_2 a0_3 a0_4 a0_5 a0_6 a0_7 out A) args s 0 0 A) (F0 m 0 ls []) := by
  obtain ⟨hx, hb, hml, hown, htB, ⟨hK, hN⟩, hZ, hA, hr, hlocks⟩ := id X
  refine lv_aload_n hx hb d_Model_part_0 rfl (lv_at hl 0 rfl) ?_
  refine lv_iconst (v := 2) hx hb d_Model_part_1 (by decide) ?_
  refine lv_iload_n hx hb d_Model_part_2 rfl (lv_at hl 1 rfl) ?_
  refine lv_imul hx hb d_Model_part_3 ?_
  obtain ⟨o4, ho4, h⟩ := x_bnd h
  refine x_callv (ws2 := (wd_Model_part cC cI a0_0 a0_1 a0_2 a0_3 a0_4 a0_5 a0_6 a0_7 o4)) (x_runV (As := [.int ((2 : Int32) * v1)]) (rest := []) X (c_Model_affix l D cC cI H.size a0_0 a0_1 a0_2 a0_3 a0_4 a0_5 a0_6 a0_7 v0 ((2 : Int32) * v1) o4 ho4) b_344 1 (htB _ b_347) (htB _ b_345) (htB _ b_346) (htB _ b_319) ⟨by decide, by decide, by decide +kernel⟩ ⟨(Nat.le_of_ble_eq_true rfl), (Nat.le_of_ble_eq_true rfl)⟩ 0 rfl rfl hP hD hS [0, 1, 2, 3, 4, 5, 6, 7] rfl (by decide) rfl rfl hl.1 rfl rfl (Nat.le_of_ble_eq_true rfl) d_Model_part_4) hP hD hS hA [0, 1, 2, 3, 4, 5, 6, 7] [] [0, 1, 2, 3, 4, 5, 6, 7] rfl rfl (by decide) (by decide) rfl (by decide) (fun H locs hP hD hS => ?_)
  refine lv_aload_n hx hb d_Model_part_7 rfl (lv_at hl 0 rfl) ?_
  refine lv_iload_n hx hb d_Model_part_8 rfl (lv_at hl 1 rfl) ?_
  refine lv_if_ne (tgt := 16) hx hb d_Model_part_9 rfl (fun hc => ?_) (fun hc => ?_)
  · have h := (if_neg hc).symm.trans h
    refine lv_iconst (v := 0) hx hb d_Model_part_16 (by decide) ?_
    exact w_Model_part_17 X o4 v1 (0 : Int32) ls H locs h (lv_sub hl [0, 1] rfl) hP hD hS
  have h := (if_pos hc).symm.trans h
  refine lv_iconst (v := 1) hx hb d_Model_part_12 (by decide) ?_
  refine lv_goto (tgt := 17) hx hb d_Model_part_13 rfl ?_
  exact w_Model_part_17 X o4 v1 (1 : Int32) ls H locs h (lv_sub hl [0, 1] rfl) hP hD hS

set_option maxHeartbeats 4000000 in
set_option maxRecDepth 100000 in
theorem c_Model_part (l : Launch) (D : va_G) (cC cI : ClassId) (sz : Nat) (a0_0 a0_1 a0_2 a0_3 a0_4 a0_5 a0_6 a0_7 : Nat) (v0 : T_Model) (v1 : Int32) (out : O_Model_part) (h : f_Model_part v0 v1 = some out) : Met l y_Model_part (.code y_Model_part b_Model_part 2 none :: BIG) rm_Model_part (va_Pc [.ref a0_0, .int v1] (xPre D cC cI (wd_Model_part cC cI a0_0 a0_1 a0_2 a0_3 a0_4 a0_5 a0_6 a0_7 v0) sz)) (q_Model_part D cC cI a0_0 a0_1 a0_2 a0_3 a0_4 a0_5 a0_6 a0_7 out (va_A (wd_Model_part cC cI a0_0 a0_1 a0_2 a0_3 a0_4 a0_5 a0_6 a0_7 v0) sz)) 0 0 (va_A (wd_Model_part cC cI a0_0 a0_1 a0_2 a0_3 a0_4 a0_5 a0_6 a0_7 v0) sz) := by
  refine Met.ofW (cc := b_Model_part) (maxL := 2) (ret := none) (by decide) rfl ?_
  intro p e s m args below meth c s₁ B hml hv
  obtain ⟨rfl, rfl, hP, hD0, hG, hZ⟩ := hv
  have hl := lv_entry [.ref a0_0, .int v1] (n := 2) (Nat.le_of_ble_eq_true rfl)
  rw [lg_entry_eq]
  exact w_Model_part (x_cx B hml hG hZ) v0 v1 h hl hP hD0.self va_S.rf

abbrev wd_Model_go (cC cI : ClassId) (a0_0 a0_1 a0_2 a0_3 a0_4 a0_5 a0_6 a0_7 : Nat) (v0 : T_Model) : va_W := [(a0_0, .inr (11, [.ref a0_1, .int v0.2.1, .ref a0_2, .int v0.2.2.2.1, .int v0.2.2.2.2.1, .int v0.2.2.2.2.2.1, .ref a0_3, .ref a0_4, .ref a0_5, .int v0.2.2.2.2.2.2.2.2.2.1, .int v0.2.2.2.2.2.2.2.2.2.2.1, .int v0.2.2.2.2.2.2.2.2.2.2.2.1, .int v0.2.2.2.2.2.2.2.2.2.2.2.2.1, .ref a0_6, .int v0.2.2.2.2.2.2.2.2.2.2.2.2.2.2.1, .int v0.2.2.2.2.2.2.2.2.2.2.2.2.2.2.2.1, .int v0.2.2.2.2.2.2.2.2.2.2.2.2.2.2.2.2.1, .ref a0_7, .long v0.2.2.2.2.2.2.2.2.2.2.2.2.2.2.2.2.2.2.1, .int v0.2.2.2.2.2.2.2.2.2.2.2.2.2.2.2.2.2.2.2.1, .long v0.2.2.2.2.2.2.2.2.2.2.2.2.2.2.2.2.2.2.2.2.1, .int v0.2.2.2.2.2.2.2.2.2.2.2.2.2.2.2.2.2.2.2.2.2.1, .int v0.2.2.2.2.2.2.2.2.2.2.2.2.2.2.2.2.2.2.2.2.2.2])), (a0_1, .inl (cC, 120, .inl v0.1)), (a0_2, .inl (cC, 200, .inl v0.2.2.1)), (a0_3, .inl (cI, 160, .inl v0.2.2.2.2.2.2.1)), (a0_4, .inl (cI, 4, .inl v0.2.2.2.2.2.2.2.1)), (a0_5, .inl (cI, 7, .inl v0.2.2.2.2.2.2.2.2.1)), (a0_6, .inl (cI, 40, .inl v0.2.2.2.2.2.2.2.2.2.2.2.2.2.1)), (a0_7, .inl (cI, 6, .inl v0.2.2.2.2.2.2.2.2.2.2.2.2.2.2.2.2.2.1))]
abbrev O_Model_go : Type := T_Model
abbrev q_Model_go (D : va_G) (cC cI : ClassId) (a0_0 a0_1 a0_2 a0_3 a0_4 a0_5 a0_6 a0_7 : Nat)  (out : O_Model_go) (A : Nat → Prop) : Array Value → State → Outcome → State → Prop := va_Qv (fun _ : Unit => True) (fun _ t => va_P D classes (wd_Model_go cC cI a0_0 a0_1 a0_2 a0_3 a0_4 a0_5 a0_6 a0_7 out) t.heap ∧ va_D A (wd_Model_go cC cI a0_0 a0_1 a0_2 a0_3 a0_4 a0_5 a0_6 a0_7 out)) A
abbrev rm_Model_go : Room := { frames := 4, cells := 0, slots := 0, locals := 91 }
def J_Model_go_44 (p : Program) (l : Launch) (e : Env) (s : State) (m : MethodId) (args : Array Value) (below : List Frame) (meth : Method) (c : Code) (A : Nat → Prop) (D : va_G) (cC cI : ClassId) (a0_0 a0_1 a0_2 a0_3 a0_4 a0_5 a0_6 a0_7 : Nat) (out : O_Model_go) (k : T_Model → Option O_Model_go) : Prop := ∀ (v0 : T_Model) (ls : Array Slot) (H : Heap) (locs : List Loc), k v0 = some out → lv_has ls 3 [(0, .ref a0_0)] → va_P D classes (wd_Model_go cC cI a0_0 a0_1 a0_2 a0_3 a0_4 a0_5 a0_6 a0_7 v0) H → va_D A (wd_Model_go cC cI a0_0 a0_1 a0_2 a0_3 a0_4 a0_5 a0_6 a0_7 v0) → va_S A s.heap H locs → W p l e rm_Model_go s m args below meth c H locs 0 0 (MQ below (q_Model_go D cC cI a0_0 a0_1 a0_2 a0_3 a0_4 a0_5 a0_6 a0_7 out A) args s 0 0 A) (F0 m 44 ls [])
def J_Model_go_45 (p : Program) (l : Launch) (e : Env) (s : State) (m : MethodId) (args : Array Value) (below : List Frame) (meth : Method) (c : Code) (A : Nat → Prop) (D : va_G) (cC cI : ClassId) (a0_0 a0_1 a0_2 a0_3 a0_4 a0_5 a0_6 a0_7 : Nat) (out : O_Model_go) (k : T_Model → Int32 → Option O_Model_go) : Prop := ∀ (v0 : T_Model) (s0 : Int32) (ls : Array Slot) (H : Heap) (locs : List Loc), k v0 s0 = some out → lv_has ls 3 [(0, .ref a0_0)] → va_P D classes (wd_Model_go cC cI a0_0 a0_1 a0_2 a0_3 a0_4 a0_5 a0_6 a0_7 v0) H → va_D A (wd_Model_go cC cI a0_0 a0_1 a0_2 a0_3 a0_4 a0_5 a0_6 a0_7 v0) → va_S A s.heap H locs → W p l e rm_Model_go s m args below meth c H locs 0 0 (MQ below (q_Model_go D cC cI a0_0 a0_1 a0_2 a0_3 a0_4 a0_5 a0_6 a0_7 out A) args s 0 0 A) (F0 m 45 ls [.int s0])
def J_Model_go_65 (p : Program) (l : Launch) (e : Env) (s : State) (m : MethodId) (args : Array Value) (below : List Frame) (meth : Method) (c : Code) (A : Nat → Prop) (D : va_G) (cC cI : ClassId) (a0_0 a0_1 a0_2 a0_3 a0_4 a0_5 a0_6 a0_7 : Nat) (out : O_Model_go) (k : T_Model → Int32 → Option O_Model_go) : Prop := ∀ (v0 : T_Model) (x2 : Int32) (ls : Array Slot) (H : Heap) (locs : List Loc), k v0 x2 = some out → lv_has ls 3 [(0, .ref a0_0), (2, .int x2)] → va_P D classes (wd_Model_go cC cI a0_0 a0_1 a0_2 a0_3 a0_4 a0_5 a0_6 a0_7 v0) H → va_D A (wd_Model_go cC cI a0_0 a0_1 a0_2 a0_3 a0_4 a0_5 a0_6 a0_7 v0) → va_S A s.heap H locs → W p l e rm_Model_go s m args below meth c H locs 0 0 (MQ below (q_Model_go D cC cI a0_0 a0_1 a0_2 a0_3 a0_4 a0_5 a0_6 a0_7 out A) args s 0 0 A) (F0 m 65 ls [])
def J_Model_go_98 (p : Program) (l : Launch) (e : Env) (s : State) (m : MethodId) (args : Array Value) (below : List Frame) (meth : Method) (c : Code) (A : Nat → Prop) (D : va_G) (cC cI : ClassId) (a0_0 a0_1 a0_2 a0_3 a0_4 a0_5 a0_6 a0_7 : Nat) (out : O_Model_go) (k : T_Model → Int32 → Option O_Model_go) : Prop := ∀ (v0 : T_Model) (x2 : Int32) (ls : Array Slot) (H : Heap) (locs : List Loc), k v0 x2 = some out → lv_has ls 3 [(0, .ref a0_0), (2, .int x2)] → va_P D classes (wd_Model_go cC cI a0_0 a0_1 a0_2 a0_3 a0_4 a0_5 a0_6 a0_7 v0) H → va_D A (wd_Model_go cC cI a0_0 a0_1 a0_2 a0_3 a0_4 a0_5 a0_6 a0_7 v0) → va_S A s.heap H locs → W p l e rm_Model_go s m args below meth c H locs 0 0 (MQ below (q_Model_go D cC cI a0_0 a0_1 a0_2 a0_3 a0_4 a0_5 a0_6 a0_7 out A) args s 0 0 A) (F0 m 98 ls [])
def J_Model_go_121 (p : Program) (l : Launch) (e : Env) (s : State) (m : MethodId) (args : Array Value) (below : List Frame) (meth : Method) (c : Code) (A : Nat → Prop) (D : va_G) (cC cI : ClassId) (a0_0 a0_1 a0_2 a0_3 a0_4 a0_5 a0_6 a0_7 : Nat) (out : O_Model_go) (k : T_Model → Option O_Model_go) : Prop := ∀ (v0 : T_Model) (ls : Array Slot) (H : Heap) (locs : List Loc), k v0 = some out → lv_has ls 3 [] → va_P D classes (wd_Model_go cC cI a0_0 a0_1 a0_2 a0_3 a0_4 a0_5 a0_6 a0_7 v0) H → va_D A (wd_Model_go cC cI a0_0 a0_1 a0_2 a0_3 a0_4 a0_5 a0_6 a0_7 v0) → va_S A s.heap H locs → W p l e rm_Model_go s m args below meth c H locs 0 0 (MQ below (q_Model_go D cC cI a0_0 a0_1 a0_2 a0_3 a0_4 a0_5 a0_6 a0_7 out A) args s 0 0 A) (F0 m 121 ls [])
def f_Model_go_121 (v0 : T_Model) : Option O_Model_go := some v0
set_option maxHeartbeats 4000000 in
set_option maxRecDepth 100000 in
theorem w_Model_go_121 {p : Program} {l : Launch} {e : Env} {s : State} {m : MethodId} {args : Array Value} {below : List Frame} {meth : Method} {c : Code} {A : Nat → Prop} {D : va_G} {cC cI : ClassId} {a0_0 a0_1 a0_2 a0_3 a0_4 a0_5 a0_6 a0_7 : Nat} (X : xCX p s m args meth c A D cC cI b_Model_go 3 R_Model none) {out : O_Model_go}   : J_Model_go_121 p l e s m args below meth c A D cC cI a0_0 a0_1 a0_2 a0_3 a0_4 a0_5 a0_6 a0_7 out (f_Model_go_121  ) := by
  obtain ⟨hx, hb, hml, hown, htB, ⟨hK, hN⟩, hZ, hA, hr, hlocks⟩ := id X
  intro v0 ls H locs h hl hP hD hS
  obtain rfl := Option.some.inj h
  exact W.vret hx hb hr (fun t ht hW => ⟨⟨(), rfl, trivial, by rw [ht]; exact hP, hD⟩, hS.F ht⟩) hS.2.2 d_Model_go_121 hlocks

def J_Model_go_120 (p : Program) (l : Launch) (e : Env) (s : State) (m : MethodId) (args : Array Value) (below : List Frame) (meth : Method) (c : Code) (A : Nat → Prop) (D : va_G) (cC cI : ClassId) (a0_0 a0_1 a0_2 a0_3 a0_4 a0_5 a0_6 a0_7 : Nat) (out : O_Model_go) (k : T_Model → Int32 → Int32 → Option O_Model_go) : Prop := ∀ (v0 : T_Model) (s1 : Int32) (s2 : Int32) (ls : Array Slot) (H : Heap) (locs : List Loc), k v0 s1 s2 = some out → lv_has ls 3 [] → va_P D classes (wd_Model_go cC cI a0_0 a0_1 a0_2 a0_3 a0_4 a0_5 a0_6 a0_7 v0) H → va_D A (wd_Model_go cC cI a0_0 a0_1 a0_2 a0_3 a0_4 a0_5 a0_6 a0_7 v0) → va_S A s.heap H locs → W p l e rm_Model_go s m args below meth c H locs 0 0 (MQ below (q_Model_go D cC cI a0_0 a0_1 a0_2 a0_3 a0_4 a0_5 a0_6 a0_7 out A) args s 0 0 A) (F0 m 120 ls [.int s2, .int s1, .ref a0_5])
def f_Model_go_120 (v0 : T_Model) (s1 : Int32) (s2 : Int32) : Option O_Model_go := if ix s1 7 then f_Model_go_121 (v0.1, v0.2.1, v0.2.2.1, v0.2.2.2.1, v0.2.2.2.2.1, v0.2.2.2.2.2.1, v0.2.2.2.2.2.2.1, v0.2.2.2.2.2.2.2.1, (upd v0.2.2.2.2.2.2.2.2.1 s1.toNatClampNeg s2), v0.2.2.2.2.2.2.2.2.2.1, v0.2.2.2.2.2.2.2.2.2.2.1, v0.2.2.2.2.2.2.2.2.2.2.2.1, v0.2.2.2.2.2.2.2.2.2.2.2.2.1, v0.2.2.2.2.2.2.2.2.2.2.2.2.2.1, v0.2.2.2.2.2.2.2.2.2.2.2.2.2.2.1, v0.2.2.2.2.2.2.2.2.2.2.2.2.2.2.2.1, v0.2.2.2.2.2.2.2.2.2.2.2.2.2.2.2.2.1, v0.2.2.2.2.2.2.2.2.2.2.2.2.2.2.2.2.2.1, v0.2.2.2.2.2.2.2.2.2.2.2.2.2.2.2.2.2.2.1, v0.2.2.2.2.2.2.2.2.2.2.2.2.2.2.2.2.2.2.2.1, v0.2.2.2.2.2.2.2.2.2.2.2.2.2.2.2.2.2.2.2.2.1, v0.2.2.2.2.2.2.2.2.2.2.2.2.2.2.2.2.2.2.2.2.2.1, v0.2.2.2.2.2.2.2.2.2.2.2.2.2.2.2.2.2.2.2.2.2.2) else none
set_option maxHeartbeats 4000000 in
set_option maxRecDepth 100000 in
theorem w_Model_go_120 {p : Program} {l : Launch} {e : Env} {s : State} {m : MethodId} {args : Array Value} {below : List Frame} {meth : Method} {c : Code} {A : Nat → Prop} {D : va_G} {cC cI : ClassId} {a0_0 a0_1 a0_2 a0_3 a0_4 a0_5 a0_6 a0_7 : Nat} (X : xCX p s m args meth c A D cC cI b_Model_go 3 R_Model none) {out : O_Model_go}   : J_Model_go_120 p l e s m args below meth c A D cC cI a0_0 a0_1 a0_2 a0_3 a0_4 a0_5 a0_6 a0_7 out (f_Model_go_120  ) := by
  obtain ⟨hx, hb, hml, hown, htB, ⟨hK, hN⟩, hZ, hA, hr, hlocks⟩ := id X
  intro v0 s1 s2 ls H locs h hl hP hD hS
  obtain ⟨hc, h⟩ := x_chk h
  refine va_iast hx hb hK hP hD hS 5 1 rfl rfl hc d_Model_go_120 (fun H locs hP hD hS => ?_)
  have hP : va_P D classes (wd_Model_go cC cI a0_0 a0_1 a0_2 a0_3 a0_4 a0_5 a0_6 a0_7 (v0.1, v0.2.1, v0.2.2.1, v0.2.2.2.1, v0.2.2.2.2.1, v0.2.2.2.2.2.1, v0.2.2.2.2.2.2.1, v0.2.2.2.2.2.2.2.1, (upd v0.2.2.2.2.2.2.2.2.1 s1.toNatClampNeg s2), v0.2.2.2.2.2.2.2.2.2.1, v0.2.2.2.2.2.2.2.2.2.2.1, v0.2.2.2.2.2.2.2.2.2.2.2.1, v0.2.2.2.2.2.2.2.2.2.2.2.2.1, v0.2.2.2.2.2.2.2.2.2.2.2.2.2.1, v0.2.2.2.2.2.2.2.2.2.2.2.2.2.2.1, v0.2.2.2.2.2.2.2.2.2.2.2.2.2.2.2.1, v0.2.2.2.2.2.2.2.2.2.2.2.2.2.2.2.2.1, v0.2.2.2.2.2.2.2.2.2.2.2.2.2.2.2.2.2.1, v0.2.2.2.2.2.2.2.2.2.2.2.2.2.2.2.2.2.2.1, v0.2.2.2.2.2.2.2.2.2.2.2.2.2.2.2.2.2.2.2.1, v0.2.2.2.2.2.2.2.2.2.2.2.2.2.2.2.2.2.2.2.2.1, v0.2.2.2.2.2.2.2.2.2.2.2.2.2.2.2.2.2.2.2.2.2.1, v0.2.2.2.2.2.2.2.2.2.2.2.2.2.2.2.2.2.2.2.2.2.2)) H := hP
  have hD : va_D A (wd_Model_go cC cI a0_0 a0_1 a0_2 a0_3 a0_4 a0_5 a0_6 a0_7 (v0.1, v0.2.1, v0.2.2.1, v0.2.2.2.1, v0.2.2.2.2.1, v0.2.2.2.2.2.1, v0.2.2.2.2.2.2.1, v0.2.2.2.2.2.2.2.1, (upd v0.2.2.2.2.2.2.2.2.1 s1.toNatClampNeg s2), v0.2.2.2.2.2.2.2.2.2.1, v0.2.2.2.2.2.2.2.2.2.2.1, v0.2.2.2.2.2.2.2.2.2.2.2.1, v0.2.2.2.2.2.2.2.2.2.2.2.2.1, v0.2.2.2.2.2.2.2.2.2.2.2.2.2.1, v0.2.2.2.2.2.2.2.2.2.2.2.2.2.2.1, v0.2.2.2.2.2.2.2.2.2.2.2.2.2.2.2.1, v0.2.2.2.2.2.2.2.2.2.2.2.2.2.2.2.2.1, v0.2.2.2.2.2.2.2.2.2.2.2.2.2.2.2.2.2.1, v0.2.2.2.2.2.2.2.2.2.2.2.2.2.2.2.2.2.2.1, v0.2.2.2.2.2.2.2.2.2.2.2.2.2.2.2.2.2.2.2.1, v0.2.2.2.2.2.2.2.2.2.2.2.2.2.2.2.2.2.2.2.2.1, v0.2.2.2.2.2.2.2.2.2.2.2.2.2.2.2.2.2.2.2.2.2.1, v0.2.2.2.2.2.2.2.2.2.2.2.2.2.2.2.2.2.2.2.2.2.2)) := hD
  exact w_Model_go_121 X (v0.1, v0.2.1, v0.2.2.1, v0.2.2.2.1, v0.2.2.2.2.1, v0.2.2.2.2.2.1, v0.2.2.2.2.2.2.1, v0.2.2.2.2.2.2.2.1, (upd v0.2.2.2.2.2.2.2.2.1 s1.toNatClampNeg s2), v0.2.2.2.2.2.2.2.2.2.1, v0.2.2.2.2.2.2.2.2.2.2.1, v0.2.2.2.2.2.2.2.2.2.2.2.1, v0.2.2.2.2.2.2.2.2.2.2.2.2.1, v0.2.2.2.2.2.2.2.2.2.2.2.2.2.1, v0.2.2.2.2.2.2.2.2.2.2.2.2.2.2.1, v0.2.2.2.2.2.2.2.2.2.2.2.2.2.2.2.1, v0.2.2.2.2.2.2.2.2.2.2.2.2.2.2.2.2.1, v0.2.2.2.2.2.2.2.2.2.2.2.2.2.2.2.2.2.1, v0.2.2.2.2.2.2.2.2.2.2.2.2.2.2.2.2.2.2.1, v0.2.2.2.2.2.2.2.2.2.2.2.2.2.2.2.2.2.2.2.1, v0.2.2.2.2.2.2.2.2.2.2.2.2.2.2.2.2.2.2.2.2.1, v0.2.2.2.2.2.2.2.2.2.2.2.2.2.2.2.2.2.2.2.2.2.1, v0.2.2.2.2.2.2.2.2.2.2.2.2.2.2.2.2.2.2.2.2.2.2) ls H locs h (lv_sub hl [] rfl) hP hD hS

def f_Model_go_98 (v0 : T_Model) (x2 : Int32) : Option O_Model_go := (if v0.2.2.2.2.2.2.2.2.2.2.2.2.1 = 0 then f_Model_go_121 v0 else (if x2 = 0 then f_Model_go_120 v0 (6 : Int32) (0 : Int32) else f_Model_go_120 v0 (6 : Int32) (1 : Int32)))
set_option maxHeartbeats 4000000 in
set_option maxRecDepth 100000 in
theorem w_Model_go_98 {p : Program} {l : Launch} {e : Env} {s : State} {m : MethodId} {args : Array Value} {below : List Frame} {meth : Method} {c : Code} {A : Nat → Prop} {D : va_G} {cC cI : ClassId} {a0_0 a0_1 a0_2 a0_3 a0_4 a0_5 a0_6 a0_7 : Nat} (X : xCX p s m args meth c A D cC cI b_Model_go 3 R_Model none) {out : O_Model_go}   : J_Model_go_98 p l e s m args below meth c A D cC cI a0_0 a0_1 a0_2 a0_3 a0_4 a0_5 a0_6 a0_7 out (f_Model_go_98  ) := by
  obtain ⟨hx, hb, hml, hown, htB, ⟨hK, hN⟩, hZ, hA, hr, hlocks⟩ := id X
  intro v0 x2 ls H locs h hl hP hD hS
  refine lv_aload_n hx hb d_Model_go_98 rfl (lv_at hl 0 rfl) ?_
  refine va_get (D := D) (ci := 11) (v := .int v0.2.2.2.2.2.2.2.2.2.2.2.2.1) (C := R_Model) (T := F_Model) (N := 23) hx hb htB in_Model hown hK hP 0 rfl rfl 12 (by decide) (htB _ b_313) (fun _ h9 => h9) rfl d_Model_go_99 ?_
  refine lv_if_eq (tgt := 121) hx hb d_Model_go_102 rfl (fun hc => ?_) (fun hc => ?_)
  · have h := (if_pos hc).symm.trans h
    exact w_Model_go_121 X v0 ls H locs h (lv_sub hl [] rfl) hP hD hS
  have h := (if_neg hc).symm.trans h
  refine lv_aload_n hx hb d_Model_go_105 rfl (lv_at hl 0 rfl) ?_
  refine va_get (D := D) (ci := 11) (v := .ref a0_5) (C := R_Model) (T := F_Model) (N := 23) hx hb htB in_Model hown hK hP 0 rfl rfl 8 (by decide) (htB _ b_330) (fun _ h9 => h9) rfl d_Model_go_106 ?_
  refine lv_bipush (v := 6) hx hb d_Model_go_109 (by decide) ?_
  refine lv_iload_n hx hb d_Model_go_111 rfl (lv_at hl 1 rfl) ?_
  refine lv_if_eq (tgt := 119) hx hb d_Model_go_112 rfl (fun hc => ?_) (fun hc => ?_)
  · have h := (if_pos hc).symm.trans h
    refine lv_iconst (v := 0) hx hb d_Model_go_119 (by decide) ?_
    exact w_Model_go_120 X v0 (6 : Int32) (0 : Int32) ls H locs h (lv_sub hl [] rfl) hP hD hS
  have h := (if_neg hc).symm.trans h
  refine lv_iconst (v := 1) hx hb d_Model_go_115 (by decide) ?_
  refine lv_goto (tgt := 120) hx hb d_Model_go_116 rfl ?_
  exact w_Model_go_120 X v0 (6 : Int32) (1 : Int32) ls H locs h (lv_sub hl [] rfl) hP hD hS

def J_Model_go_90 (p : Program) (l : Launch) (e : Env) (s : State) (m : MethodId) (args : Array Value) (below : List Frame) (meth : Method) (c : Code) (A : Nat → Prop) (D : va_G) (cC cI : ClassId) (a0_0 a0_1 a0_2 a0_3 a0_4 a0_5 a0_6 a0_7 : Nat) (out : O_Model_go) (k : T_Model → Int32 → Option O_Model_go) : Prop := ∀ (v0 : T_Model) (x2 : Int32) (ls : Array Slot) (H : Heap) (locs : List Loc), k v0 x2 = some out → lv_has ls 3 [(0, .ref a0_0), (2, .int x2)] → va_P D classes (wd_Model_go cC cI a0_0 a0_1 a0_2 a0_3 a0_4 a0_5 a0_6 a0_7 v0) H → va_D A (wd_Model_go cC cI a0_0 a0_1 a0_2 a0_3 a0_4 a0_5 a0_6 a0_7 v0) → va_S A s.heap H locs → W p l e rm_Model_go s m args below meth c H locs 0 0 (MQ below (q_Model_go D cC cI a0_0 a0_1 a0_2 a0_3 a0_4 a0_5 a0_6 a0_7 out A) args s 0 0 A) (F0 m 90 ls [])
def f_Model_go_90 (v0 : T_Model) (x2 : Int32) : Option O_Model_go := f_Model_go_98 (v0.1, v0.2.1, v0.2.2.1, v0.2.2.2.1, v0.2.2.2.2.1, v0.2.2.2.2.2.1, v0.2.2.2.2.2.2.1, v0.2.2.2.2.2.2.2.1, v0.2.2.2.2.2.2.2.2.1, v0.2.2.2.2.2.2.2.2.2.1, v0.2.2.2.2.2.2.2.2.2.1, v0.2.2.2.2.2.2.2.2.2.2.2.1, v0.2.2.2.2.2.2.2.2.2.2.2.2.1, v0.2.2.2.2.2.2.2.2.2.2.2.2.2.1, v0.2.2.2.2.2.2.2.2.2.2.2.2.2.2.1, v0.2.2.2.2.2.2.2.2.2.2.2.2.2.2.2.1, v0.2.2.2.2.2.2.2.2.2.2.2.2.2.2.2.2.1, v0.2.2.2.2.2.2.2.2.2.2.2.2.2.2.2.2.2.1, v0.2.2.2.2.2.2.2.2.2.2.2.2.2.2.2.2.2.2.1, v0.2.2.2.2.2.2.2.2.2.2.2.2.2.2.2.2.2.2.2.1, v0.2.2.2.2.2.2.2.2.2.2.2.2.2.2.2.2.2.2.2.2.1, v0.2.2.2.2.2.2.2.2.2.2.2.2.2.2.2.2.2.2.2.2.2.1, v0.2.2.2.2.2.2.2.2.2.2.2.2.2.2.2.2.2.2.2.2.2.2) x2
set_option maxHeartbeats 4000000 in
set_option maxRecDepth 100000 in
theorem w_Model_go_90 {p : Program} {l : Launch} {e : Env} {s : State} {m : MethodId} {args : Array Value} {below : List Frame} {meth : Method} {c : Code} {A : Nat → Prop} {D : va_G} {cC cI : ClassId} {a0_0 a0_1 a0_2 a0_3 a0_4 a0_5 a0_6 a0_7 : Nat} (X : xCX p s m args meth c A D cC cI b_Model_go 3 R_Model none) {out : O_Model_go}   : J_Model_go_90 p l e s m args below meth c A D cC cI a0_0 a0_1 a0_2 a0_3 a0_4 a0_5 a0_6 a0_7 out (f_Model_go_90  ) := by
  obtain ⟨hx, hb, hml, hown, htB, ⟨hK, hN⟩, hZ, hA, hr, hlocks⟩ := id X
  intro v0 x2 ls H locs h hl hP hD hS
  refine lv_aload_n hx hb d_Model_go_90 rfl (lv_at hl 0 rfl) ?_
  refine lv_aload_n hx hb d_Model_go_91 rfl (lv_at hl 0 rfl) ?_
  refine va_get (D := D) (ci := 11) (v := .int v0.2.2.2.2.2.2.2.2.2.1) (C := R_Model) (T := F_Model) (N := 23) hx hb htB in_Model hown hK hP 0 rfl rfl 9 (by decide) (htB _ b_317) (fun _ h9 => h9) rfl d_Model_go_92 ?_
  refine va_put (D := D) (ci := 11) (v := .int v0.2.2.2.2.2.2.2.2.2.1) (ty := .int) (C := R_Model) (T := F_Model) (N := 23) hx hb htB in_Model t_Model t_Model_ok n_Model hown hK hP hD hS 0 rfl rfl 10 (by decide) (htB _ b_331) (fun _ h9 => h9) rfl (by decide +kernel) rfl rfl (Nat.le_of_ble_eq_true rfl) d_Model_go_95 (fun H locs hP hD hS => ?_)
  have hP : va_P D classes (wd_Model_go cC cI a0_0 a0_1 a0_2 a0_3 a0_4 a0_5 a0_6 a0_7 (v0.1, v0.2.1, v0.2.2.1, v0.2.2.2.1, v0.2.2.2.2.1, v0.2.2.2.2.2.1, v0.2.2.2.2.2.2.1, v0.2.2.2.2.2.2.2.1, v0.2.2.2.2.2.2.2.2.1, v0.2.2.2.2.2.2.2.2.2.1, v0.2.2.2.2.2.2.2.2.2.1, v0.2.2.2.2.2.2.2.2.2.2.2.1, v0.2.2.2.2.2.2.2.2.2.2.2.2.1, v0.2.2.2.2.2.2.2.2.2.2.2.2.2.1, v0.2.2.2.2.2.2.2.2.2.2.2.2.2.2.1, v0.2.2.2.2.2.2.2.2.2.2.2.2.2.2.2.1, v0.2.2.2.2.2.2.2.2.2.2.2.2.2.2.2.2.1, v0.2.2.2.2.2.2.2.2.2.2.2.2.2.2.2.2.2.1, v0.2.2.2.2.2.2.2.2.2.2.2.2.2.2.2.2.2.2.1, v0.2.2.2.2.2.2.2.2.2.2.2.2.2.2.2.2.2.2.2.1, v0.2.2.2.2.2.2.2.2.2.2.2.2.2.2.2.2.2.2.2.2.1, v0.2.2.2.2.2.2.2.2.2.2.2.2.2.2.2.2.2.2.2.2.2.1, v0.2.2.2.2.2.2.2.2.2.2.2.2.2.2.2.2.2.2.2.2.2.2)) H := hP
  have hD : va_D A (wd_Model_go cC cI a0_0 a0_1 a0_2 a0_3 a0_4 a0_5 a0_6 a0_7 (v0.1, v0.2.1, v0.2.2.1, v0.2.2.2.1, v0.2.2.2.2.1, v0.2.2.2.2.2.1, v0.2.2.2.2.2.2.1, v0.2.2.2.2.2.2.2.1, v0.2.2.2.2.2.2.2.2.1, v0.2.2.2.2.2.2.2.2.2.1, v0.2.2.2.2.2.2.2.2.2.1, v0.2.2.2.2.2.2.2.2.2.2.2.1, v0.2.2.2.2.2.2.2.2.2.2.2.2.1, v0.2.2.2.2.2.2.2.2.2.2.2.2.2.1, v0.2.2.2.2.2.2.2.2.2.2.2.2.2.2.1, v0.2.2.2.2.2.2.2.2.2.2.2.2.2.2.2.1, v0.2.2.2.2.2.2.2.2.2.2.2.2.2.2.2.2.1, v0.2.2.2.2.2.2.2.2.2.2.2.2.2.2.2.2.2.1, v0.2.2.2.2.2.2.2.2.2.2.2.2.2.2.2.2.2.2.1, v0.2.2.2.2.2.2.2.2.2.2.2.2.2.2.2.2.2.2.2.1, v0.2.2.2.2.2.2.2.2.2.2.2.2.2.2.2.2.2.2.2.2.1, v0.2.2.2.2.2.2.2.2.2.2.2.2.2.2.2.2.2.2.2.2.2.1, v0.2.2.2.2.2.2.2.2.2.2.2.2.2.2.2.2.2.2.2.2.2.2)) := hD
  exact w_Model_go_98 X (v0.1, v0.2.1, v0.2.2.1, v0.2.2.2.1, v0.2.2.2.2.1, v0.2.2.2.2.2.1, v0.2.2.2.2.2.2.1, v0.2.2.2.2.2.2.2.1, v0.2.2.2.2.2.2.2.2.1, v0.2.2.2.2.2.2.2.2.2.1, v0.2.2.2.2.2.2.2.2.2.1, v0.2.2.2.2.2.2.2.2.2.2.2.1, v0.2.2.2.2.2.2.2.2.2.2.2.2.1, v0.2.2.2.2.2.2.2.2.2.2.2.2.2.1, v0.2.2.2.2.2.2.2.2.2.2.2.2.2.2.1, v0.2.2.2.2.2.2.2.2.2.2.2.2.2.2.2.1, v0.2.2.2.2.2.2.2.2.2.2.2.2.2.2.2.2.1, v0.2.2.2.2.2.2.2.2.2.2.2.2.2.2.2.2.2.1, v0.2.2.2.2.2.2.2.2.2.2.2.2.2.2.2.2.2.2.1, v0.2.2.2.2.2.2.2.2.2.2.2.2.2.2.2.2.2.2.2.1, v0.2.2.2.2.2.2.2.2.2.2.2.2.2.2.2.2.2.2.2.2.1, v0.2.2.2.2.2.2.2.2.2.2.2.2.2.2.2.2.2.2.2.2.2.1, v0.2.2.2.2.2.2.2.2.2.2.2.2.2.2.2.2.2.2.2.2.2.2) x2 ls H locs h (lv_sub hl [0, 1] rfl) hP hD hS

def f_Model_go_65 (v0 : T_Model) (x2 : Int32) : Option O_Model_go := (if 0 ≤ v0.2.2.2.2.2.2.2.2.2.2.1 then f_Model_go_98 v0 x2 else (if v0.2.2.2.2.2.2.2.2.2.1 < v0.2.1 then f_Model_go_90 v0 x2 else (if v0.2.2.2.2.2.2.2.2.2.2.2.1 = 0 then f_Model_go_98 v0 x2 else f_Model_go_90 v0 x2)))
set_option maxHeartbeats 4000000 in
set_option maxRecDepth 100000 in
theorem w_Model_go_65 {p : Program} {l : Launch} {e : Env} {s : State} {m : MethodId} {args : Array Value} {below : List Frame} {meth : Method} {c : Code} {A : Nat → Prop} {D : va_G} {cC cI : ClassId} {a0_0 a0_1 a0_2 a0_3 a0_4 a0_5 a0_6 a0_7 : Nat} (X : xCX p s m args meth c A D cC cI b_Model_go 3 R_Model none) {out : O_Model_go}   : J_Model_go_65 p l e s m args below meth c A D cC cI a0_0 a0_1 a0_2 a0_3 a0_4 a0_5 a0_6 a0_7 out (f_Model_go_65  ) := by
  obtain ⟨hx, hb, hml, hown, htB, ⟨hK, hN⟩, hZ, hA, hr, hlocks⟩ := id X
  intro v0 x2 ls H locs h hl hP hD hS
  refine lv_aload_n hx hb d_Model_go_65 rfl (lv_at hl 0 rfl) ?_
  refine va_get (D := D) (ci := 11) (v := .int v0.2.2.2.2.2.2.2.2.2.2.1) (C := R_Model) (T := F_Model) (N := 23) hx hb htB in_Model hown hK hP 0 rfl rfl 10 (by decide) (htB _ b_331) (fun _ h9 => h9) rfl d_Model_go_66 ?_
  refine lv_if_ge (tgt := 98) hx hb d_Model_go_69 rfl (fun hc => ?_) (fun hc => ?_)
  · have h := (if_pos hc).symm.trans h
    exact w_Model_go_98 X v0 x2 ls H locs h (lv_sub hl [0, 1] rfl) hP hD hS
  have h := (if_neg hc).symm.trans h
  refine lv_aload_n hx hb d_Model_go_72 rfl (lv_at hl 0 rfl) ?_
  refine va_get (D := D) (ci := 11) (v := .int v0.2.2.2.2.2.2.2.2.2.1) (C := R_Model) (T := F_Model) (N := 23) hx hb htB in_Model hown hK hP 0 rfl rfl 9 (by decide) (htB _ b_317) (fun _ h9 => h9) rfl d_Model_go_73 ?_
  refine lv_aload_n hx hb d_Model_go_76 rfl (lv_at hl 0 rfl) ?_
  refine va_get (D := D) (ci := 11) (v := .int v0.2.1) (C := R_Model) (T := F_Model) (N := 23) hx hb htB in_Model hown hK hP 0 rfl rfl 1 (by decide) (htB _ b_309) (fun _ h9 => h9) rfl d_Model_go_77 ?_
  refine lv_icmp_lt (tgt := 90) hx hb d_Model_go_80 rfl (fun hc => ?_) (fun hc => ?_)
  · have h := (if_pos hc).symm.trans h
    exact w_Model_go_90 X v0 x2 ls H locs h (lv_sub hl [0, 1] rfl) hP hD hS
  have h := (if_neg hc).symm.trans h
  refine lv_aload_n hx hb d_Model_go_83 rfl (lv_at hl 0 rfl) ?_
  refine va_get (D := D) (ci := 11) (v := .int v0.2.2.2.2.2.2.2.2.2.2.2.1) (C := R_Model) (T := F_Model) (N := 23) hx hb htB in_Model hown hK hP 0 rfl rfl 11 (by decide) (htB _ b_316) (fun _ h9 => h9) rfl d_Model_go_84 ?_
  refine lv_if_eq (tgt := 98) hx hb d_Model_go_87 rfl (fun hc => ?_) (fun hc => ?_)
  · have h := (if_pos hc).symm.trans h
    exact w_Model_go_98 X v0 x2 ls H locs h (lv_sub hl [0, 1] rfl) hP hD hS
  have h := (if_neg hc).symm.trans h
  exact w_Model_go_90 X v0 x2 ls H locs h (lv_sub hl [0, 1] rfl) hP hD hS

def f_Model_go_45 (v0 : T_Model) (s0 : Int32) : Option O_Model_go := (if s0 = 0 then f_Model_go_65 v0 s0 else (f_Model_part (v0.1, v0.2.1, v0.2.2.1, v0.2.2.2.1, v0.2.2.2.2.1, v0.2.2.2.2.2.1, v0.2.2.2.2.2.2.1, v0.2.2.2.2.2.2.2.1, v0.2.2.2.2.2.2.2.2.1, (v0.2.2.2.2.2.2.2.2.2.1 + (1 : Int32)), v0.2.2.2.2.2.2.2.2.2.2.1, v0.2.2.2.2.2.2.2.2.2.2.2.1, v0.2.2.2.2.2.2.2.2.2.2.2.2.1, v0.2.2.2.2.2.2.2.2.2.2.2.2.2.1, v0.2.2.2.2.2.2.2.2.2.2.2.2.2.2.1, v0.2.2.2.2.2.2.2.2.2.2.2.2.2.2.2.1, v0.2.2.2.2.2.2.2.2.2.2.2.2.2.2.2.2.1, v0.2.2.2.2.2.2.2.2.2.2.2.2.2.2.2.2.2.1, v0.2.2.2.2.2.2.2.2.2.2.2.2.2.2.2.2.2.2.1, v0.2.2.2.2.2.2.2.2.2.2.2.2.2.2.2.2.2.2.2.1, v0.2.2.2.2.2.2.2.2.2.2.2.2.2.2.2.2.2.2.2.2.1, v0.2.2.2.2.2.2.2.2.2.2.2.2.2.2.2.2.2.2.2.2.2.1, v0.2.2.2.2.2.2.2.2.2.2.2.2.2.2.2.2.2.2.2.2.2.2) (1 : Int32)).bind (fun o62 => f_Model_go_65 o62 s0))
set_option maxHeartbeats 4000000 in
set_option maxRecDepth 100000 in
theorem w_Model_go_45 {p : Program} {l : Launch} {e : Env} {s : State} {m : MethodId} {args : Array Value} {below : List Frame} {meth : Method} {c : Code} {A : Nat → Prop} {D : va_G} {cC cI : ClassId} {a0_0 a0_1 a0_2 a0_3 a0_4 a0_5 a0_6 a0_7 : Nat} (X : xCX p s m args meth c A D cC cI b_Model_go 3 R_Model none) {out : O_Model_go}   : J_Model_go_45 p l e s m args below meth c A D cC cI a0_0 a0_1 a0_2 a0_3 a0_4 a0_5 a0_6 a0_7 out (f_Model_go_45  ) := by
  obtain ⟨hx, hb, hml, hown, htB, ⟨hK, hN⟩, hZ, hA, hr, hlocks⟩ := id X
  intro v0 s0 ls H locs h hl hP hD hS
  refine lv_istore_n (lv' := [(2, .int s0), (0, .ref a0_0)]) hx hb d_Model_go_45 rfl hl (by decide) rfl (fun ls hl => ?_)
  refine lv_iload_n hx hb d_Model_go_46 rfl (lv_at hl 0 rfl) ?_
  refine lv_if_eq (tgt := 65) hx hb d_Model_go_47 rfl (fun hc => ?_) (fun hc => ?_)
  · have h := (if_pos hc).symm.trans h
    exact w_Model_go_65 X v0 s0 ls H locs h (lv_sub hl [1, 0] rfl) hP hD hS
  have h := (if_neg hc).symm.trans h
  refine lv_aload_n hx hb d_Model_go_50 rfl (lv_at hl 1 rfl) ?_
  refine lv_aload_n hx hb d_Model_go_51 rfl (lv_at hl 1 rfl) ?_
  refine va_get (D := D) (ci := 11) (v := .int v0.2.2.2.2.2.2.2.2.2.1) (C := R_Model) (T := F_Model) (N := 23) hx hb htB in_Model hown hK hP 0 rfl rfl 9 (by decide) (htB _ b_317) (fun _ h9 => h9) rfl d_Model_go_52 ?_
  refine lv_iconst (v := 1) hx hb d_Model_go_55 (by decide) ?_
  refine lv_iadd hx hb d_Model_go_56 ?_
  refine va_put (D := D) (ci := 11) (v := .int (v0.2.2.2.2.2.2.2.2.2.1 + (1 : Int32))) (ty := .int) (C := R_Model) (T := F_Model) (N := 23) hx hb htB in_Model t_Model t_Model_ok n_Model hown hK hP hD hS 0 rfl rfl 9 (by decide) (htB _ b_317) (fun _ h9 => h9) rfl (by decide +kernel) rfl rfl (Nat.le_of_ble_eq_true rfl) d_Model_go_57 (fun H locs hP hD hS => ?_)
  have hP : va_P D classes (wd_Model_go cC cI a0_0 a0_1 a0_2 a0_3 a0_4 a0_5 a0_6 a0_7 (v0.1, v0.2.1, v0.2.2.1, v0.2.2.2.1, v0.2.2.2.2.1, v0.2.2.2.2.2.1, v0.2.2.2.2.2.2.1, v0.2.2.2.2.2.2.2.1, v0.2.2.2.2.2.2.2.2.1, (v0.2.2.2.2.2.2.2.2.2.1 + (1 : Int32)), v0.2.2.2.2.2.2.2.2.2.2.1, v0.2.2.2.2.2.2.2.2.2.2.2.1, v0.2.2.2.2.2.2.2.2.2.2.2.2.1, v0.2.2.2.2.2.2.2.2.2.2.2.2.2.1, v0.2.2.2.2.2.2.2.2.2.2.2.2.2.2.1, v0.2.2.2.2.2.2.2.2.2.2.2.2.2.2.2.1, v0.2.2.2.2.2.2.2.2.2.2.2.2.2.2.2.2.1, v0.2.2.2.2.2.2.2.2.2.2.2.2.2.2.2.2.2.1, v0.2.2.2.2.2.2.2.2.2.2.2.2.2.2.2.2.2.2.1, v0.2.2.2.2.2.2.2.2.2.2.2.2.2.2.2.2.2.2.2.1, v0.2.2.2.2.2.2.2.2.2.2.2.2.2.2.2.2.2.2.2.2.1, v0.2.2.2.2.2.2.2.2.2.2.2.2.2.2.2.2.2.2.2.2.2.1, v0.2.2.2.2.2.2.2.2.2.2.2.2.2.2.2.2.2.2.2.2.2.2)) H := hP
  have hD : va_D A (wd_Model_go cC cI a0_0 a0_1 a0_2 a0_3 a0_4 a0_5 a0_6 a0_7 (v0.1, v0.2.1, v0.2.2.1, v0.2.2.2.1, v0.2.2.2.2.1, v0.2.2.2.2.2.1, v0.2.2.2.2.2.2.1, v0.2.2.2.2.2.2.2.1, v0.2.2.2.2.2.2.2.2.1, (v0.2.2.2.2.2.2.2.2.2.1 + (1 : Int32)), v0.2.2.2.2.2.2.2.2.2.2.1, v0.2.2.2.2.2.2.2.2.2.2.2.1, v0.2.2.2.2.2.2.2.2.2.2.2.2.1, v0.2.2.2.2.2.2.2.2.2.2.2.2.2.1, v0.2.2.2.2.2.2.2.2.2.2.2.2.2.2.1, v0.2.2.2.2.2.2.2.2.2.2.2.2.2.2.2.1, v0.2.2.2.2.2.2.2.2.2.2.2.2.2.2.2.2.1, v0.2.2.2.2.2.2.2.2.2.2.2.2.2.2.2.2.2.1, v0.2.2.2.2.2.2.2.2.2.2.2.2.2.2.2.2.2.2.1, v0.2.2.2.2.2.2.2.2.2.2.2.2.2.2.2.2.2.2.2.1, v0.2.2.2.2.2.2.2.2.2.2.2.2.2.2.2.2.2.2.2.2.1, v0.2.2.2.2.2.2.2.2.2.2.2.2.2.2.2.2.2.2.2.2.2.1, v0.2.2.2.2.2.2.2.2.2.2.2.2.2.2.2.2.2.2.2.2.2.2)) := hD
  refine lv_aload_n hx hb d_Model_go_60 rfl (lv_at hl 1 rfl) ?_
  refine lv_iconst (v := 1) hx hb d_Model_go_61 (by decide) ?_
  obtain ⟨o62, ho62, h⟩ := x_bnd h
  refine x_callv (ws2 := (wd_Model_go cC cI a0_0 a0_1 a0_2 a0_3 a0_4 a0_5 a0_6 a0_7 o62)) (x_runV (As := [.int (1 : Int32)]) (rest := []) X (c_Model_part l D cC cI H.size a0_0 a0_1 a0_2 a0_3 a0_4 a0_5 a0_6 a0_7 (v0.1, v0.2.1, v0.2.2.1, v0.2.2.2.1, v0.2.2.2.2.1, v0.2.2.2.2.2.1, v0.2.2.2.2.2.2.1, v0.2.2.2.2.2.2.2.1, v0.2.2.2.2.2.2.2.2.1, (v0.2.2.2.2.2.2.2.2.2.1 + (1 : Int32)), v0.2.2.2.2.2.2.2.2.2.2.1, v0.2.2.2.2.2.2.2.2.2.2.2.1, v0.2.2.2.2.2.2.2.2.2.2.2.2.1, v0.2.2.2.2.2.2.2.2.2.2.2.2.2.1, v0.2.2.2.2.2.2.2.2.2.2.2.2.2.2.1, v0.2.2.2.2.2.2.2.2.2.2.2.2.2.2.2.1, v0.2.2.2.2.2.2.2.2.2.2.2.2.2.2.2.2.1, v0.2.2.2.2.2.2.2.2.2.2.2.2.2.2.2.2.2.1, v0.2.2.2.2.2.2.2.2.2.2.2.2.2.2.2.2.2.2.1, v0.2.2.2.2.2.2.2.2.2.2.2.2.2.2.2.2.2.2.2.1, v0.2.2.2.2.2.2.2.2.2.2.2.2.2.2.2.2.2.2.2.2.1, v0.2.2.2.2.2.2.2.2.2.2.2.2.2.2.2.2.2.2.2.2.2.1, v0.2.2.2.2.2.2.2.2.2.2.2.2.2.2.2.2.2.2.2.2.2.2) (1 : Int32) o62 ho62) b_352 1 (htB _ b_355) (htB _ b_353) (htB _ b_354) (htB _ b_319) ⟨by decide, by decide, by decide +kernel⟩ ⟨(Nat.le_of_ble_eq_true rfl), (Nat.le_of_ble_eq_true rfl)⟩ 0 rfl rfl hP hD hS [0, 1, 2, 3, 4, 5, 6, 7] rfl (by decide) rfl rfl hl.1 rfl rfl (Nat.le_of_ble_eq_true rfl) d_Model_go_62) hP hD hS hA [0, 1, 2, 3, 4, 5, 6, 7] [] [0, 1, 2, 3, 4, 5, 6, 7] rfl rfl (by decide) (by decide) rfl (by decide) (fun H locs hP hD hS => ?_)
  exact w_Model_go_65 X o62 s0 ls H locs h (lv_sub hl [1, 0] rfl) hP hD hS

def f_Model_go_44 (v0 : T_Model) : Option O_Model_go := f_Model_go_45 v0 (0 : Int32)
set_option maxHeartbeats 4000000 in
set_option maxRecDepth 100000 in
theorem w_Model_go_44 {p : Program} {l : Launch} {e : Env} {s : State} {m : MethodId} {args : Array Value} {below : List Frame} {meth : Method} {c : Code} {A : Nat → Prop} {D : va_G} {cC cI : ClassId} {a0_0 a0_1 a0_2 a0_3 a0_4 a0_5 a0_6 a0_7 : Nat} (X : xCX p s m args meth c A D cC cI b_Model_go 3 R_Model none) {out : O_Model_go}   : J_Model_go_44 p l e s m args below meth c A D cC cI a0_0 a0_1 a0_2 a0_3 a0_4 a0_5 a0_6 a0_7 out (f_Model_go_44  ) := by
  obtain ⟨hx, hb, hml, hown, htB, ⟨hK, hN⟩, hZ, hA, hr, hlocks⟩ := id X
  intro v0 ls H locs h hl hP hD hS
  refine lv_iconst (v := 0) hx hb d_Model_go_44 (by decide) ?_
  exact w_Model_go_45 X v0 (0 : Int32) ls H locs h (lv_sub hl [0] rfl) hP hD hS

def f_Model_go (v0 : T_Model) (v1 : Int32) : Option O_Model_go := if (v1 = 0 ∨ v1 = 1) then (f_Model_part (v0.1, v0.2.1, v0.2.2.1, v0.2.2.2.1, v0.2.2.2.2.1, v0.2.2.2.2.2.1, v0.2.2.2.2.2.2.1, v0.2.2.2.2.2.2.2.1, v0.2.2.2.2.2.2.2.2.1, (0 : Int32), (-1 : Int32), v0.2.2.2.2.2.2.2.2.2.2.2.1, v1, v0.2.2.2.2.2.2.2.2.2.2.2.2.2.1, v0.2.2.2.2.2.2.2.2.2.2.2.2.2.2.1, v0.2.2.2.2.2.2.2.2.2.2.2.2.2.2.2.1, v0.2.2.2.2.2.2.2.2.2.2.2.2.2.2.2.2.1, v0.2.2.2.2.2.2.2.2.2.2.2.2.2.2.2.2.2.1, v0.2.2.2.2.2.2.2.2.2.2.2.2.2.2.2.2.2.2.1, v0.2.2.2.2.2.2.2.2.2.2.2.2.2.2.2.2.2.2.2.1, v0.2.2.2.2.2.2.2.2.2.2.2.2.2.2.2.2.2.2.2.2.1, v0.2.2.2.2.2.2.2.2.2.2.2.2.2.2.2.2.2.2.2.2.2.1, v0.2.2.2.2.2.2.2.2.2.2.2.2.2.2.2.2.2.2.2.2.2.2) (0 : Int32)).bind (fun o17 => (if 0 ≤ o17.2.2.2.2.2.2.2.2.2.2.1 then f_Model_go_44 o17 else (f_Model_is o17 o17.2.2.2.2.2.2.2.2.2.1 (59 : Int32)).bind (fun o34 => (if o34 = 0 then f_Model_go_44 o17 else f_Model_go_45 o17 (1 : Int32))))) else none
set_option maxHeartbeats 4000000 in
set_option maxRecDepth 100000 in
theorem w_Model_go {p : Program} {l : Launch} {e : Env} {s : State} {m : MethodId} {args : Array Value} {below : List Frame} {meth : Method} {c : Code} {A : Nat → Prop} {D : va_G} {cC cI : ClassId} {a0_0 a0_1 a0_2 a0_3 a0_4 a0_5 a0_6 a0_7 : Nat} (X : xCX p s m args meth c A D cC cI b_Model_go 3 R_Model none) {out : O_Model_go} (v0 : T_Model) (v1 : Int32) {ls : Array Slot} {H : Heap} {locs : List Loc} (h : f_Model_go v0 v1 = some out) (hl : lv_has ls 3 [(0, .ref a0_0), (1, .int v1)]) (hP : va_P D classes (wd_Model_go cC cI a0_0 a0_1 a0_2 a0_3 a0_4 a0_5 a0_6 a0_7 v0) H) (hD : va_D A (wd_Model_go cC cI a0_0 a0_1 a0_2 a0_3 a0_4 a0_5 a0_6 a0_7 v0)) (hS : va_S A s.heap H locs) : W p l e rm_Model_go s m args below meth c H locs 0 0 (MQ below (q_Model_go D cC cI a0_0 a0_1 a0_2 a0_3 a0_4 a0_5 a0_6 a0_7 out A) args s 0 0 A) (F0 m 0 ls []) := by
  obtain ⟨hx, hb, hml, hown, htB, ⟨hK, hN⟩, hZ, hA, hr, hlocks⟩ := id X
  refine lv_aload_n hx hb d_Model_go_0 rfl (lv_at hl 0 rfl) ?_
  refine lv_iload_n hx hb d_Model_go_1 rfl (lv_at hl 1 rfl) ?_
  obtain ⟨hc, h⟩ := x_chk h
  refine va_put (D := D) (ci := 11) (v := .int v1) (ty := .boolean) (C := R_Model) (T := F_Model) (N := 23) hx hb htB in_Model t_Model t_Model_ok n_Model hown hK hP hD hS 0 rfl rfl 12 (by decide) (htB _ b_313) (fun _ h9 => h9) rfl (by decide +kernel) (x_zn hc) (x_zf hc) (Nat.le_of_ble_eq_true rfl) d_Model_go_2 (fun H locs hP hD hS => ?_)
  have hP : va_P D classes (wd_Model_go cC cI a0_0 a0_1 a0_2 a0_3 a0_4 a0_5 a0_6 a0_7 (v0.1, v0.2.1, v0.2.2.1, v0.2.2.2.1, v0.2.2.2.2.1, v0.2.2.2.2.2.1, v0.2.2.2.2.2.2.1, v0.2.2.2.2.2.2.2.1, v0.2.2.2.2.2.2.2.2.1, v0.2.2.2.2.2.2.2.2.2.1, v0.2.2.2.2.2.2.2.2.2.2.1, v0.2.2.2.2.2.2.2.2.2.2.2.1, v1, v0.2.2.2.2.2.2.2.2.2.2.2.2.2.1, v0.2.2.2.2.2.2.2.2.2.2.2.2.2.2.1, v0.2.2.2.2.2.2.2.2.2.2.2.2.2.2.2.1, v0.2.2.2.2.2.2.2.2.2.2.2.2.2.2.2.2.1, v0.2.2.2.2.2.2.2.2.2.2.2.2.2.2.2.2.2.1, v0.2.2.2.2.2.2.2.2.2.2.2.2.2.2.2.2.2.2.1, v0.2.2.2.2.2.2.2.2.2.2.2.2.2.2.2.2.2.2.2.1, v0.2.2.2.2.2.2.2.2.2.2.2.2.2.2.2.2.2.2.2.2.1, v0.2.2.2.2.2.2.2.2.2.2.2.2.2.2.2.2.2.2.2.2.2.1, v0.2.2.2.2.2.2.2.2.2.2.2.2.2.2.2.2.2.2.2.2.2.2)) H := hP
  have hD : va_D A (wd_Model_go cC cI a0_0 a0_1 a0_2 a0_3 a0_4 a0_5 a0_6 a0_7 (v0.1, v0.2.1, v0.2.2.1, v0.2.2.2.1, v0.2.2.2.2.1, v0.2.2.2.2.2.1, v0.2.2.2.2.2.2.1, v0.2.2.2.2.2.2.2.1, v0.2.2.2.2.2.2.2.2.1, v0.2.2.2.2.2.2.2.2.2.1, v0.2.2.2.2.2.2.2.2.2.2.1, v0.2.2.2.2.2.2.2.2.2.2.2.1, v1, v0.2.2.2.2.2.2.2.2.2.2.2.2.2.1, v0.2.2.2.2.2.2.2.2.2.2.2.2.2.2.1, v0.2.2.2.2.2.2.2.2.2.2.2.2.2.2.2.1, v0.2.2.2.2.2.2.2.2.2.2.2.2.2.2.2.2.1, v0.2.2.2.2.2.2.2.2.2.2.2.2.2.2.2.2.2.1, v0.2.2.2.2.2.2.2.2.2.2.2.2.2.2.2.2.2.2.1, v0.2.2.2.2.2.2.2.2.2.2.2.2.2.2.2.2.2.2.2.1, v0.2.2.2.2.2.2.2.2.2.2.2.2.2.2.2.2.2.2.2.2.1, v0.2.2.2.2.2.2.2.2.2.2.2.2.2.2.2.2.2.2.2.2.2.1, v0.2.2.2.2.2.2.2.2.2.2.2.2.2.2.2.2.2.2.2.2.2.2)) := hD
  refine lv_aload_n hx hb d_Model_go_5 rfl (lv_at hl 0 rfl) ?_
  refine lv_iconst (v := 0) hx hb d_Model_go_6 (by decide) ?_
  refine va_put (D := D) (ci := 11) (v := .int (0 : Int32)) (ty := .int) (C := R_Model) (T := F_Model) (N := 23) hx hb htB in_Model t_Model t_Model_ok n_Model hown hK hP hD hS 0 rfl rfl 9 (by decide) (htB _ b_317) (fun _ h9 => h9) rfl (by decide +kernel) rfl rfl (Nat.le_of_ble_eq_true rfl) d_Model_go_7 (fun H locs hP hD hS => ?_)
  have hP : va_P D classes (wd_Model_go cC cI a0_0 a0_1 a0_2 a0_3 a0_4 a0_5 a0_6 a0_7 (v0.1, v0.2.1, v0.2.2.1, v0.2.2.2.1, v0.2.2.2.2.1, v0.2.2.2.2.2.1, v0.2.2.2.2.2.2.1, v0.2.2.2.2.2.2.2.1, v0.2.2.2.2.2.2.2.2.1, (0 : Int32), v0.2.2.2.2.2.2.2.2.2.2.1, v0.2.2.2.2.2.2.2.2.2.2.2.1, v1, v0.2.2.2.2.2.2.2.2.2.2.2.2.2.1, v0.2.2.2.2.2.2.2.2.2.2.2.2.2.2.1, v0.2.2.2.2.2.2.2.2.2.2.2.2.2.2.2.1, v0.2.2.2.2.2.2.2.2.2.2.2.2.2.2.2.2.1, v0.2.2.2.2.2.2.2.2.2.2.2.2.2.2.2.2.2.1, v0.2.2.2.2.2.2.2.2.2.2.2.2.2.2.2.2.2.2.1, v0.2.2.2.2.2.2.2.2.2.2.2.2.2.2.2.2.2.2.2.1, v0.2.2.2.2.2.2.2.2.2.2.2.2.2.2.2.2.2.2.2.2.1, v0.2.2.2.2.2.2.2.2.2.2.2.2.2.2.2.2.2.2.2.2.2.1, v0.2.2.2.2.2.2.2.2.2.2.2.2.2.2.2.2.2.2.2.2.2.2)) H := hP
  have hD : va_D A (wd_Model_go cC cI a0_0 a0_1 a0_2 a0_3 a0_4 a0_5 a0_6 a0_7 (v0.1, v0.2.1, v0.2.2.1, v0.2.2.2.1, v0.2.2.2.2.1, v0.2.2.2.2.2.1, v0.2.2.2.2.2.2.1, v0.2.2.2.2.2.2.2.1, v0.2.2.2.2.2.2.2.2.1, (0 : Int32), v0.2.2.2.2.2.2.2.2.2.2.1, v0.2.2.2.2.2.2.2.2.2.2.2.1, v1, v0.2.2.2.2.2.2.2.2.2.2.2.2.2.1, v0.2.2.2.2.2.2.2.2.2.2.2.2.2.2.1, v0.2.2.2.2.2.2.2.2.2.2.2.2.2.2.2.1, v0.2.2.2.2.2.2.2.2.2.2.2.2.2.2.2.2.1, v0.2.2.2.2.2.2.2.2.2.2.2.2.2.2.2.2.2.1, v0.2.2.2.2.2.2.2.2.2.2.2.2.2.2.2.2.2.2.1, v0.2.2.2.2.2.2.2.2.2.2.2.2.2.2.2.2.2.2.2.1, v0.2.2.2.2.2.2.2.2.2.2.2.2.2.2.2.2.2.2.2.2.1, v0.2.2.2.2.2.2.2.2.2.2.2.2.2.2.2.2.2.2.2.2.2.1, v0.2.2.2.2.2.2.2.2.2.2.2.2.2.2.2.2.2.2.2.2.2.2)) := hD
  refine lv_aload_n hx hb d_Model_go_10 rfl (lv_at hl 0 rfl) ?_
  refine lv_iconst (v := -1) hx hb d_Model_go_11 (by decide) ?_
  refine va_put (D := D) (ci := 11) (v := .int (-1 : Int32)) (ty := .int) (C := R_Model) (T := F_Model) (N := 23) hx hb htB in_Model t_Model t_Model_ok n_Model hown hK hP hD hS 0 rfl rfl 10 (by decide) (htB _ b_331) (fun _ h9 => h9) rfl (by decide +kernel) rfl rfl (Nat.le_of_ble_eq_true rfl) d_Model_go_12 (fun H locs hP hD hS => ?_)
  have hP : va_P D classes (wd_Model_go cC cI a0_0 a0_1 a0_2 a0_3 a0_4 a0_5 a0_6 a0_7 (v0.1, v0.2.1, v0.2.2.1, v0.2.2.2.1, v0.2.2.2.2.1, v0.2.2.2.2.2.1, v0.2.2.2.2.2.2.1, v0.2.2.2.2.2.2.2.1, v0.2.2.2.2.2.2.2.2.1, (0 : Int32), (-1 : Int32), v0.2.2.2.2.2.2.2.2.2.2.2.1, v1, v0.2.2.2.2.2.2.2.2.2.2.2.2.2.1, v0.2.2.2.2.2.2.2.2.2.2.2.2.2.2.1, v0.2.2.2.2.2.2.2.2.2.2.2.2.2.2.2.1, v0.2.2.2.2.2.2.2.2.2.2.2.2.2.2.2.2.1, v0.2.2.2.2.2.2.2.2.2.2.2.2.2.2.2.2.2.1, v0.2.2.2.2.2.2.2.2.2.2.2.2.2.2.2.2.2.2.1, v0.2.2.2.2.2.2.2.2.2.2.2.2.2.2.2.2.2.2.2.1, v0.2.2.2.2.2.2.2.2.2.2.2.2.2.2.2.2.2.2.2.2.1, v0.2.2.2.2.2.2.2.2.2.2.2.2.2.2.2.2.2.2.2.2.2.1, v0.2.2.2.2.2.2.2.2.2.2.2.2.2.2.2.2.2.2.2.2.2.2)) H := hP
  have hD : va_D A (wd_Model_go cC cI a0_0 a0_1 a0_2 a0_3 a0_4 a0_5 a0_6 a0_7 (v0.1, v0.2.1, v0.2.2.1, v0.2.2.2.1, v0.2.2.2.2.1, v0.2.2.2.2.2.1, v0.2.2.2.2.2.2.1, v0.2.2.2.2.2.2.2.1, v0.2.2.2.2.2.2.2.2.1, (0 : Int32), (-1 : Int32), v0.2.2.2.2.2.2.2.2.2.2.2.1, v1, v0.2.2.2.2.2.2.2.2.2.2.2.2.2.1, v0.2.2.2.2.2.2.2.2.2.2.2.2.2.2.1, v0.2.2.2.2.2.2.2.2.2.2.2.2.2.2.2.1, v0.2.2.2.2.2.2.2.2.2.2.2.2.2.2.2.2.1, v0.2.2.2.2.2.2.2.2.2.2.2.2.2.2.2.2.2.1, v0.2.2.2.2.2.2.2.2.2.2.2.2.2.2.2.2.2.2.1, v0.2.2.2.2.2.2.2.2.2.2.2.2.2.2.2.2.2.2.2.1, v0.2.2.2.2.2.2.2.2.2.2.2.2.2.2.2.2.2.2.2.2.1, v0.2.2.2.2.2.2.2.2.2.2.2.2.2.2.2.2.2.2.2.2.2.1, v0.2.2.2.2.2.2.2.2.2.2.2.2.2.2.2.2.2.2.2.2.2.2)) := hD
  refine lv_aload_n hx hb d_Model_go_15 rfl (lv_at hl 0 rfl) ?_
  refine lv_iconst (v := 0) hx hb d_Model_go_16 (by decide) ?_
  obtain ⟨o17, ho17, h⟩ := x_bnd h
  refine x_callv (ws2 := (wd_Model_go cC cI a0_0 a0_1 a0_2 a0_3 a0_4 a0_5 a0_6 a0_7 o17)) (x_runV (As := [.int (0 : Int32)]) (rest := []) X (c_Model_part l D cC cI H.size a0_0 a0_1 a0_2 a0_3 a0_4 a0_5 a0_6 a0_7 (v0.1, v0.2.1, v0.2.2.1, v0.2.2.2.1, v0.2.2.2.2.1, v0.2.2.2.2.2.1, v0.2.2.2.2.2.2.1, v0.2.2.2.2.2.2.2.1, v0.2.2.2.2.2.2.2.2.1, (0 : Int32), (-1 : Int32), v0.2.2.2.2.2.2.2.2.2.2.2.1, v1, v0.2.2.2.2.2.2.2.2.2.2.2.2.2.1, v0.2.2.2.2.2.2.2.2.2.2.2.2.2.2.1, v0.2.2.2.2.2.2.2.2.2.2.2.2.2.2.2.1, v0.2.2.2.2.2.2.2.2.2.2.2.2.2.2.2.2.1, v0.2.2.2.2.2.2.2.2.2.2.2.2.2.2.2.2.2.1, v0.2.2.2.2.2.2.2.2.2.2.2.2.2.2.2.2.2.2.1, v0.2.2.2.2.2.2.2.2.2.2.2.2.2.2.2.2.2.2.2.1, v0.2.2.2.2.2.2.2.2.2.2.2.2.2.2.2.2.2.2.2.2.1, v0.2.2.2.2.2.2.2.2.2.2.2.2.2.2.2.2.2.2.2.2.2.1, v0.2.2.2.2.2.2.2.2.2.2.2.2.2.2.2.2.2.2.2.2.2.2) (0 : Int32) o17 ho17) b_352 1 (htB _ b_355) (htB _ b_353) (htB _ b_354) (htB _ b_319) ⟨by decide, by decide, by decide +kernel⟩ ⟨(Nat.le_of_ble_eq_true rfl), (Nat.le_of_ble_eq_true rfl)⟩ 0 rfl rfl hP hD hS [0, 1, 2, 3, 4, 5, 6, 7] rfl (by decide) rfl rfl hl.1 rfl rfl (Nat.le_of_ble_eq_true rfl) d_Model_go_17) hP hD hS hA [0, 1, 2, 3, 4, 5, 6, 7] [] [0, 1, 2, 3, 4, 5, 6, 7] rfl rfl (by decide) (by decide) rfl (by decide) (fun H locs hP hD hS => ?_)
  refine lv_aload_n hx hb d_Model_go_20 rfl (lv_at hl 0 rfl) ?_
  refine va_get (D := D) (ci := 11) (v := .int o17.2.2.2.2.2.2.2.2.2.2.1) (C := R_Model) (T := F_Model) (N := 23) hx hb htB in_Model hown hK hP 0 rfl rfl 10 (by decide) (htB _ b_331) (fun _ h9 => h9) rfl d_Model_go_21 ?_
  refine lv_if_ge (tgt := 44) hx hb d_Model_go_24 rfl (fun hc => ?_) (fun hc => ?_)
  · have h := (if_pos hc).symm.trans h
    exact w_Model_go_44 X o17 ls H locs h (lv_sub hl [0] rfl) hP hD hS
  have h := (if_neg hc).symm.trans h
  refine lv_aload_n hx hb d_Model_go_27 rfl (lv_at hl 0 rfl) ?_
  refine lv_aload_n hx hb d_Model_go_28 rfl (lv_at hl 0 rfl) ?_
  refine va_get (D := D) (ci := 11) (v := .int o17.2.2.2.2.2.2.2.2.2.1) (C := R_Model) (T := F_Model) (N := 23) hx hb htB in_Model hown hK hP 0 rfl rfl 9 (by decide) (htB _ b_317) (fun _ h9 => h9) rfl d_Model_go_29 ?_
  refine lv_bipush (v := 59) hx hb d_Model_go_32 (by decide) ?_
  obtain ⟨o34, ho34, h⟩ := x_bnd h
  refine x_calli (r0 := o34) (ws2 := (wd_Model_go cC cI a0_0 a0_1 a0_2 a0_3 a0_4 a0_5 a0_6 a0_7 o17)) (x_runV (As := [.int o17.2.2.2.2.2.2.2.2.2.1, .int (59 : Int32)]) (rest := []) X (c_Model_is l D cC cI H.size a0_0 a0_1 a0_2 a0_3 a0_4 a0_5 a0_6 a0_7 o17 o17.2.2.2.2.2.2.2.2.2.1 (59 : Int32) o34 ho34) b_318 2 (htB _ b_322) (htB _ b_320) (htB _ b_321) (htB _ b_319) ⟨by decide, by decide, by decide +kernel⟩ ⟨(Nat.le_of_ble_eq_true rfl), (Nat.le_of_ble_eq_true rfl)⟩ 0 rfl rfl hP hD hS [0, 1, 2, 3, 4, 5, 6, 7] rfl (by decide) rfl rfl hl.1 rfl rfl (Nat.le_of_ble_eq_true rfl) d_Model_go_34) hP hD hS hA [0, 1, 2, 3, 4, 5, 6, 7] [] [0, 1, 2, 3, 4, 5, 6, 7] rfl rfl (by decide) (by decide) rfl (by decide) (fun H locs hP hD hS => ?_)
  refine lv_if_eq (tgt := 44) hx hb d_Model_go_37 rfl (fun hc => ?_) (fun hc => ?_)
  · have h := (if_pos hc).symm.trans h
    exact w_Model_go_44 X o17 ls H locs h (lv_sub hl [0] rfl) hP hD hS
  have h := (if_neg hc).symm.trans h
  refine lv_iconst (v := 1) hx hb d_Model_go_40 (by decide) ?_
  refine lv_goto (tgt := 45) hx hb d_Model_go_41 rfl ?_
  exact w_Model_go_45 X o17 (1 : Int32) ls H locs h (lv_sub hl [0] rfl) hP hD hS

set_option maxHeartbeats 4000000 in
set_option maxRecDepth 100000 in
theorem c_Model_go (l : Launch) (D : va_G) (cC cI : ClassId) (sz : Nat) (a0_0 a0_1 a0_2 a0_3 a0_4 a0_5 a0_6 a0_7 : Nat) (v0 : T_Model) (v1 : Int32) (out : O_Model_go) (h : f_Model_go v0 v1 = some out) : Met l y_Model_go (.code y_Model_go b_Model_go 3 none :: BIG) rm_Model_go (va_Pc [.ref a0_0, .int v1] (xPre D cC cI (wd_Model_go cC cI a0_0 a0_1 a0_2 a0_3 a0_4 a0_5 a0_6 a0_7 v0) sz)) (q_Model_go D cC cI a0_0 a0_1 a0_2 a0_3 a0_4 a0_5 a0_6 a0_7 out (va_A (wd_Model_go cC cI a0_0 a0_1 a0_2 a0_3 a0_4 a0_5 a0_6 a0_7 v0) sz)) 0 0 (va_A (wd_Model_go cC cI a0_0 a0_1 a0_2 a0_3 a0_4 a0_5 a0_6 a0_7 v0) sz) := by
  refine Met.ofW (cc := b_Model_go) (maxL := 3) (ret := none) (by decide) rfl ?_
  intro p e s m args below meth c s₁ B hml hv
  obtain ⟨rfl, rfl, hP, hD0, hG, hZ⟩ := hv
  have hl := lv_entry [.ref a0_0, .int v1] (n := 3) (Nat.le_of_ble_eq_true rfl)
  rw [lg_entry_eq]
  exact w_Model_go (x_cx B hml hG hZ) v0 v1 h hl hP hD0.self va_S.rf

abbrev wd_Model_hasPercent (cC cI : ClassId) (a0_0 a0_1 a0_2 a0_3 a0_4 a0_5 a0_6 a0_7 : Nat) (v0 : T_Model) : va_W := [(a0_0, .inr (11, [.ref a0_1, .int v0.2.1, .ref a0_2, .int v0.2.2.2.1, .int v0.2.2.2.2.1, .int v0.2.2.2.2.2.1, .ref a0_3, .ref a0_4, .ref a0_5, .int v0.2.2.2.2.2.2.2.2.2.1, .int v0.2.2.2.2.2.2.2.2.2.2.1, .int v0.2.2.2.2.2.2.2.2.2.2.2.1, .int v0.2.2.2.2.2.2.2.2.2.2.2.2.1, .ref a0_6, .int v0.2.2.2.2.2.2.2.2.2.2.2.2.2.2.1, .int v0.2.2.2.2.2.2.2.2.2.2.2.2.2.2.2.1, .int v0.2.2.2.2.2.2.2.2.2.2.2.2.2.2.2.2.1, .ref a0_7, .long v0.2.2.2.2.2.2.2.2.2.2.2.2.2.2.2.2.2.2.1, .int v0.2.2.2.2.2.2.2.2.2.2.2.2.2.2.2.2.2.2.2.1, .long v0.2.2.2.2.2.2.2.2.2.2.2.2.2.2.2.2.2.2.2.2.1, .int v0.2.2.2.2.2.2.2.2.2.2.2.2.2.2.2.2.2.2.2.2.2.1, .int v0.2.2.2.2.2.2.2.2.2.2.2.2.2.2.2.2.2.2.2.2.2.2])), (a0_1, .inl (cC, 120, .inl v0.1)), (a0_2, .inl (cC, 200, .inl v0.2.2.1)), (a0_3, .inl (cI, 160, .inl v0.2.2.2.2.2.2.1)), (a0_4, .inl (cI, 4, .inl v0.2.2.2.2.2.2.2.1)), (a0_5, .inl (cI, 7, .inl v0.2.2.2.2.2.2.2.2.1)), (a0_6, .inl (cI, 40, .inl v0.2.2.2.2.2.2.2.2.2.2.2.2.2.1)), (a0_7, .inl (cI, 6, .inl v0.2.2.2.2.2.2.2.2.2.2.2.2.2.2.2.2.2.1))]
abbrev O_Model_hasPercent : Type := Int32
abbrev q_Model_hasPercent (D : va_G) (cC cI : ClassId) (a0_0 a0_1 a0_2 a0_3 a0_4 a0_5 a0_6 a0_7 : Nat) (v0 : T_Model) (out : O_Model_hasPercent) (A : Nat → Prop) : Array Value → State → Outcome → State → Prop := va_Qi (fun r (_ : Unit) => r = out) (fun _ t => va_P D classes (wd_Model_hasPercent cC cI a0_0 a0_1 a0_2 a0_3 a0_4 a0_5 a0_6 a0_7 v0) t.heap ∧ va_D A (wd_Model_hasPercent cC cI a0_0 a0_1 a0_2 a0_3 a0_4 a0_5 a0_6 a0_7 v0)) A
abbrev rm_Model_hasPercent : Room := { frames := 0, cells := 0, slots := 0, locals := 0 }
def J_Model_hasPercent_4 (p : Program) (l : Launch) (e : Env) (s : State) (m : MethodId) (args : Array Value) (below : List Frame) (meth : Method) (c : Code) (A : Nat → Prop) (D : va_G) (cC cI : ClassId) (a0_0 a0_1 a0_2 a0_3 a0_4 a0_5 a0_6 a0_7 : Nat) (v0 : T_Model) (out : O_Model_hasPercent) (k : Int32 → Int32 → Int32 → Option O_Model_hasPercent) : Prop := ∀ (x1 : Int32) (x2 : Int32) (x3 : Int32) (ls : Array Slot) (H : Heap) (locs : List Loc), k x1 x2 x3 = some out → lv_has ls 4 [(0, .ref a0_0), (1, .int x1), (2, .int x2), (3, .int x3)] → va_P D classes (wd_Model_hasPercent cC cI a0_0 a0_1 a0_2 a0_3 a0_4 a0_5 a0_6 a0_7 v0) H → va_D A (wd_Model_hasPercent cC cI a0_0 a0_1 a0_2 a0_3 a0_4 a0_5 a0_6 a0_7 v0) → va_S A s.heap H locs → W p l e rm_Model_hasPercent s m args below meth c H locs 0 0 (MQ below (q_Model_hasPercent D cC cI a0_0 a0_1 a0_2 a0_3 a0_4 a0_5 a0_6 a0_7 v0 out A) args s 0 0 A) (F0 m 4 ls [])
def J_Model_hasPercent_35 (p : Program) (l : Launch) (e : Env) (s : State) (m : MethodId) (args : Array Value) (below : List Frame) (meth : Method) (c : Code) (A : Nat → Prop) (D : va_G) (cC cI : ClassId) (a0_0 a0_1 a0_2 a0_3 a0_4 a0_5 a0_6 a0_7 : Nat) (v0 : T_Model) (out : O_Model_hasPercent) (k : Int32 → Int32 → Option O_Model_hasPercent) : Prop := ∀ (x1 : Int32) (x3 : Int32) (ls : Array Slot) (H : Heap) (locs : List Loc), k x1 x3 = some out → lv_has ls 4 [(0, .ref a0_0), (1, .int x1), (3, .int x3)] → va_P D classes (wd_Model_hasPercent cC cI a0_0 a0_1 a0_2 a0_3 a0_4 a0_5 a0_6 a0_7 v0) H → va_D A (wd_Model_hasPercent cC cI a0_0 a0_1 a0_2 a0_3 a0_4 a0_5 a0_6 a0_7 v0) → va_S A s.heap H locs → W p l e rm_Model_hasPercent s m args below meth c H locs 0 0 (MQ below (q_Model_hasPercent D cC cI a0_0 a0_1 a0_2 a0_3 a0_4 a0_5 a0_6 a0_7 v0 out A) args s 0 0 A) (F0 m 35 ls [])
def J_Model_hasPercent_40 (p : Program) (l : Launch) (e : Env) (s : State) (m : MethodId) (args : Array Value) (below : List Frame) (meth : Method) (c : Code) (A : Nat → Prop) (D : va_G) (cC cI : ClassId) (a0_0 a0_1 a0_2 a0_3 a0_4 a0_5 a0_6 a0_7 : Nat) (v0 : T_Model) (out : O_Model_hasPercent) (k : Int32 → Int32 → Int32 → Option O_Model_hasPercent) : Prop := ∀ (x1 : Int32) (x3 : Int32) (s0 : Int32) (ls : Array Slot) (H : Heap) (locs : List Loc), k x1 x3 s0 = some out → lv_has ls 4 [(0, .ref a0_0), (1, .int x1), (3, .int x3)] → va_P D classes (wd_Model_hasPercent cC cI a0_0 a0_1 a0_2 a0_3 a0_4 a0_5 a0_6 a0_7 v0) H → va_D A (wd_Model_hasPercent cC cI a0_0 a0_1 a0_2 a0_3 a0_4 a0_5 a0_6 a0_7 v0) → va_S A s.heap H locs → W p l e rm_Model_hasPercent s m args below meth c H locs 0 0 (MQ below (q_Model_hasPercent D cC cI a0_0 a0_1 a0_2 a0_3 a0_4 a0_5 a0_6 a0_7 v0 out A) args s 0 0 A) (F0 m 40 ls [.int s0])
def f_Model_hasPercent_40 (v0 : T_Model) (k4 : Int32 → Int32 → Int32 → Option O_Model_hasPercent) (x1 : Int32) (x3 : Int32) (s0 : Int32) : Option O_Model_hasPercent := k4 x1 s0 (x3 + (1 : Int32))
set_option maxHeartbeats 4000000 in
set_option maxRecDepth 100000 in
theorem w_Model_hasPercent_40 {p : Program} {l : Launch} {e : Env} {s : State} {m : MethodId} {args : Array Value} {below : List Frame} {meth : Method} {c : Code} {A : Nat → Prop} {D : va_G} {cC cI : ClassId} {a0_0 a0_1 a0_2 a0_3 a0_4 a0_5 a0_6 a0_7 : Nat} {v0 : T_Model} (X : xCX p s m args meth c A D cC cI b_Model_hasPercent 4 R_Model (some .boolean)) {out : O_Model_hasPercent} {k4 : Int32 → Int32 → Int32 → Option O_Model_hasPercent} (hk4 : J_Model_hasPercent_4 p l e s m args below meth c A D cC cI a0_0 a0_1 a0_2 a0_3 a0_4 a0_5 a0_6 a0_7 v0 out k4) : J_Model_hasPercent_40 p l e s m args below meth c A D cC cI a0_0 a0_1 a0_2 a0_3 a0_4 a0_5 a0_6 a0_7 v0 out (f_Model_hasPercent_40 v0 k4) := by
  obtain ⟨hx, hb, hml, hown, htB, ⟨hK, hN⟩, hZ, hA, hr, hlocks⟩ := id X
  intro x1 x3 s0 ls H locs h hl hP hD hS
  refine lv_istore_n (lv' := [(2, .int s0), (0, .ref a0_0), (1, .int x1), (3, .int x3)]) hx hb d_Model_hasPercent_40 rfl hl (by decide) rfl (fun ls hl => ?_)
  refine lv_iinc (k := 3) (v := (x3 + (1 : Int32))) (lv' := [(3, .int (x3 + (1 : Int32))), (2, .int s0), (0, .ref a0_0), (1, .int x1)]) hx hb d_Model_hasPercent_41 hl rfl (congrArg (fun z => x3 + z) (by decide : Int32.ofInt 1 = (1 : Int32))) (by decide) rfl (fun ls hl => ?_)
  refine lv_goto (tgt := 4) hx hb d_Model_hasPercent_44 rfl ?_
  exact hk4 x1 s0 (x3 + (1 : Int32)) ls H locs h (lv_sub hl [2, 3, 1, 0] rfl) hP hD hS

def f_Model_hasPercent_35 (v0 : T_Model) (k4 : Int32 → Int32 → Int32 → Option O_Model_hasPercent) (x1 : Int32) (x3 : Int32) : Option O_Model_hasPercent := f_Model_hasPercent_40 v0 k4 x1 x3 (1 : Int32)
set_option maxHeartbeats 4000000 in
set_option maxRecDepth 100000 in
theorem w_Model_hasPercent_35 {p : Program} {l : Launch} {e : Env} {s : State} {m : MethodId} {args : Array Value} {below : List Frame} {meth : Method} {c : Code} {A : Nat → Prop} {D : va_G} {cC cI : ClassId} {a0_0 a0_1 a0_2 a0_3 a0_4 a0_5 a0_6 a0_7 : Nat} {v0 : T_Model} (X : xCX p s m args meth c A D cC cI b_Model_hasPercent 4 R_Model (some .boolean)) {out : O_Model_hasPercent} {k4 : Int32 → Int32 → Int32 → Option O_Model_hasPercent} (hk4 : J_Model_hasPercent_4 p l e s m args below meth c A D cC cI a0_0 a0_1 a0_2 a0_3 a0_4 a0_5 a0_6 a0_7 v0 out k4) : J_Model_hasPercent_35 p l e s m args below meth c A D cC cI a0_0 a0_1 a0_2 a0_3 a0_4 a0_5 a0_6 a0_7 v0 out (f_Model_hasPercent_35 v0 k4) := by
  obtain ⟨hx, hb, hml, hown, htB, ⟨hK, hN⟩, hZ, hA, hr, hlocks⟩ := id X
  intro x1 x3 ls H locs h hl hP hD hS
  refine lv_iconst (v := 1) hx hb d_Model_hasPercent_35 (by decide) ?_
  refine lv_goto (tgt := 40) hx hb d_Model_hasPercent_36 rfl ?_
  exact w_Model_hasPercent_40 X hk4 x1 x3 (1 : Int32) ls H locs h (lv_sub hl [0, 1, 2] rfl) hP hD hS

def f_Model_hasPercent_4 (v0 : T_Model)  : Nat → Int32 → Int32 → Int32 → Option O_Model_hasPercent
  | 0, _, _, _ => none
  | n + 1, x1, x2, x3 => if ix x1 4 then (if (v0.2.2.2.2.2.2.2.1 x1.toNatClampNeg) ≤ x3 then if (x2 = 0 ∨ x2 = 1) then some x2 else none else (if x2 = 0 then if ix (((40 : Int32) * x1) + x3) 160 then (if (v0.2.2.2.2.2.2.1 (((40 : Int32) * x1) + x3).toNatClampNeg) = (200 : Int32) then f_Model_hasPercent_35 v0 (f_Model_hasPercent_4 v0 n) x1 x3 else f_Model_hasPercent_40 v0 (f_Model_hasPercent_4 v0 n) x1 x3 (0 : Int32)) else none else f_Model_hasPercent_35 v0 (f_Model_hasPercent_4 v0 n) x1 x3)) else none
set_option maxHeartbeats 4000000 in
set_option maxRecDepth 100000 in
theorem w_Model_hasPercent_4 {p : Program} {l : Launch} {e : Env} {s : State} {m : MethodId} {args : Array Value} {below : List Frame} {meth : Method} {c : Code} {A : Nat → Prop} {D : va_G} {cC cI : ClassId} {a0_0 a0_1 a0_2 a0_3 a0_4 a0_5 a0_6 a0_7 : Nat} {v0 : T_Model} (X : xCX p s m args meth c A D cC cI b_Model_hasPercent 4 R_Model (some .boolean)) {out : O_Model_hasPercent}   : ∀ n : Nat, J_Model_hasPercent_4 p l e s m args below meth c A D cC cI a0_0 a0_1 a0_2 a0_3 a0_4 a0_5 a0_6 a0_7 v0 out (f_Model_hasPercent_4 v0  n) := by
  obtain ⟨hx, hb, hml, hown, htB, ⟨hK, hN⟩, hZ, hA, hr, hlocks⟩ := id X
  intro n
  induction n with
  | zero =>
    intro x1 x2 x3 ls H locs h hl hP hD hS
    cases h
  | succ n ih =>
    intro x1 x2 x3 ls H locs h hl hP hD hS
    refine lv_iload_n hx hb d_Model_hasPercent_4 rfl (lv_at hl 3 rfl) ?_
    refine lv_aload_n hx hb d_Model_hasPercent_5 rfl (lv_at hl 0 rfl) ?_
    refine va_get (D := D) (ci := 11) (v := .ref a0_4) (C := R_Model) (T := F_Model) (N := 23) hx hb htB in_Model hown hK hP 0 rfl rfl 7 (by decide) (htB _ b_315) (fun _ h9 => h9) rfl d_Model_hasPercent_6 ?_
    refine lv_iload_n hx hb d_Model_hasPercent_9 rfl (lv_at hl 1 rfl) ?_
    obtain ⟨hc, h⟩ := x_chk h
    refine va_iald hx hb hK hP 4 1 rfl rfl hc d_Model_hasPercent_10 ?_
    refine lv_icmp_ge (tgt := 47) hx hb d_Model_hasPercent_11 rfl (fun hc => ?_) (fun hc => ?_)
    · have h := (if_pos hc).symm.trans h
      refine lv_iload_n hx hb d_Model_hasPercent_47 rfl (lv_at hl 2 rfl) ?_
      obtain ⟨hc, h⟩ := x_chk h
      obtain rfl := Option.some.inj h
      exact W.zret (v := x2) (ty := .boolean) hx hb hr (x_zn hc) (fun t ht hW => ⟨⟨x2, (), rfl, rfl, by rw [ht]; exact hP, hD⟩, hS.F ht⟩) hS.2.2 d_Model_hasPercent_48 hlocks
    have h := (if_neg hc).symm.trans h
    refine lv_iload_n hx hb d_Model_hasPercent_14 rfl (lv_at hl 2 rfl) ?_
    refine lv_if_ne (tgt := 35) hx hb d_Model_hasPercent_15 rfl (fun hc => ?_) (fun hc => ?_)
    · have h := (if_neg hc).symm.trans h
      exact w_Model_hasPercent_35 X ih x1 x3 ls H locs h (lv_sub hl [0, 1, 3] rfl) hP hD hS
    have h := (if_pos hc).symm.trans h
    refine lv_aload_n hx hb d_Model_hasPercent_18 rfl (lv_at hl 0 rfl) ?_
    refine va_get (D := D) (ci := 11) (v := .ref a0_3) (C := R_Model) (T := F_Model) (N := 23) hx hb htB in_Model hown hK hP 0 rfl rfl 6 (by decide) (htB _ b_314) (fun _ h9 => h9) rfl d_Model_hasPercent_19 ?_
    refine lv_bipush (v := 40) hx hb d_Model_hasPercent_22 (by decide) ?_
    refine lv_iload_n hx hb d_Model_hasPercent_24 rfl (lv_at hl 1 rfl) ?_
    refine lv_imul hx hb d_Model_hasPercent_25 ?_
    refine lv_iload_n hx hb d_Model_hasPercent_26 rfl (lv_at hl 3 rfl) ?_
    refine lv_iadd hx hb d_Model_hasPercent_27 ?_
    obtain ⟨hc, h⟩ := x_chk h
    refine va_iald hx hb hK hP 3 1 rfl rfl hc d_Model_hasPercent_28 ?_
    refine lv_sipush (v := 200) hx hb d_Model_hasPercent_29 (by decide) ?_
    refine lv_icmp_ne (tgt := 39) hx hb d_Model_hasPercent_32 rfl (fun hc => ?_) (fun hc => ?_)
    · have h := (if_neg hc).symm.trans h
      refine lv_iconst (v := 0) hx hb d_Model_hasPercent_39 (by decide) ?_
      exact w_Model_hasPercent_40 X ih x1 x3 (0 : Int32) ls H locs h (lv_sub hl [0, 1, 3] rfl) hP hD hS
    have h := (if_pos hc).symm.trans h
    exact w_Model_hasPercent_35 X ih x1 x3 ls H locs h (lv_sub hl [0, 1, 3] rfl) hP hD hS

def f_Model_hasPercent (v0 : T_Model) (v1 : Int32) : Option O_Model_hasPercent := f_Model_hasPercent_4 v0 FU v1 (0 : Int32) (0 : Int32)
set_option maxHeartbeats 4000000 in
set_option maxRecDepth 100000 in
theorem w_Model_hasPercent {p : Program} {l : Launch} {e : Env} {s : State} {m : MethodId} {args : Array Value} {below : List Frame} {meth : Method} {c : Code} {A : Nat → Prop} {D : va_G} {cC cI : ClassId} {a0_0 a0_1 a0_2 a0_3 a0_4 a0_5 a0_6 a0_7 : Nat} {v0 : T_Model} (X : xCX p s m args meth c A D cC cI b_Model_hasPercent 4 R_Model (some .boolean)) {out : O_Model_hasPercent} (v1 : Int32) {ls : Array Slot} {H : Heap} {locs : List Loc} (h : f_Model_hasPercent v0 v1 = some out) (hl : lv_has ls 4 [(0, .ref a0_0), (1, .int v1)]) (hP : va_P D classes (wd_Model_hasPercent cC cI a0_0 a0_1 a0_2 a0_3 a0_4 a0_5 a0_6 a0_7 v0) H) (hD : va_D A (wd_Model_hasPercent cC cI a0_0 a0_1 a0_2 a0_3 a0_4 a0_5 a0_6 a0_7 v0)) (hS : va_S A s.heap H locs) : W p l e rm_Model_hasPercent s m args below meth c H locs 0 0 (MQ below (q_Model_hasPercent D cC cI a0_0 a0_1 a0_2 a0_3 a0_4 a0_5 a0_6 a0_7 v0 out A) args s 0 0 A) (F0 m 0 ls []) := by
  obtain ⟨hx, hb, hml, hown, htB, ⟨hK, hN⟩, hZ, hA, hr, hlocks⟩ := id X
  refine lv_iconst (v := 0) hx hb d_Model_hasPercent_0 (by decide) ?_
  refine lv_istore_n (lv' := [(2, .int (0 : Int32)), (0, .ref a0_0), (1, .int v1)]) hx hb d_Model_hasPercent_1 rfl hl (by decide) rfl (fun ls hl => ?_)
  refine lv_iconst (v := 0) hx hb d_Model_hasPercent_2 (by decide) ?_
  refine lv_istore_n (lv' := [(3, .int (0 : Int32)), (2, .int (0 : Int32)), (0, .ref a0_0), (1, .int v1)]) hx hb d_Model_hasPercent_3 rfl hl (by decide) rfl (fun ls hl => ?_)
  exact w_Model_hasPercent_4 X FU v1 (0 : Int32) (0 : Int32) ls H locs h (lv_sub hl [2, 3, 1, 0] rfl) hP hD hS

set_option maxHeartbeats 4000000 in
set_option maxRecDepth 100000 in
theorem c_Model_hasPercent (l : Launch) (D : va_G) (cC cI : ClassId) (sz : Nat) (a0_0 a0_1 a0_2 a0_3 a0_4 a0_5 a0_6 a0_7 : Nat) (v0 : T_Model) (v1 : Int32) (out : O_Model_hasPercent) (h : f_Model_hasPercent v0 v1 = some out) : Met l y_Model_hasPercent (.code y_Model_hasPercent b_Model_hasPercent 4 (some .boolean) :: BIG) rm_Model_hasPercent (va_Pc [.ref a0_0, .int v1] (xPre D cC cI (wd_Model_hasPercent cC cI a0_0 a0_1 a0_2 a0_3 a0_4 a0_5 a0_6 a0_7 v0) sz)) (q_Model_hasPercent D cC cI a0_0 a0_1 a0_2 a0_3 a0_4 a0_5 a0_6 a0_7 v0 out (va_A (wd_Model_hasPercent cC cI a0_0 a0_1 a0_2 a0_3 a0_4 a0_5 a0_6 a0_7 v0) sz)) 0 0 (va_A (wd_Model_hasPercent cC cI a0_0 a0_1 a0_2 a0_3 a0_4 a0_5 a0_6 a0_7 v0) sz) := by
  refine Met.ofW (cc := b_Model_hasPercent) (maxL := 4) (ret := (some .boolean)) (by decide) rfl ?_
  intro p e s m args below meth c s₁ B hml hv
  obtain ⟨rfl, rfl, hP, hD0, hG, hZ⟩ := hv
  have hl := lv_entry [.ref a0_0, .int v1] (n := 4) (Nat.le_of_ble_eq_true rfl)
  rw [lg_entry_eq]
  exact w_Model_hasPercent (x_cx B hml hG hZ) v1 h hl hP hD0.self va_S.rf

