abbrev wd_Model_writeExponent (cC cI : ClassId) (a0_0 a0_1 a0_2 a0_3 a0_4 a0_5 a0_6 a0_7 : Nat) (v0 : T_Model) : va_W := [(a0_0, .inr (11, [.ref a0_1, .int v0.2.1, .ref a0_2, .int v0.2.2.2.1, .int v0.2.2.2.2.1, .int v0.2.2.2.2.2.1, .ref a0_3, .ref a0_4, .ref a0_5, .int v0.2.2.2.2.2.2.2.2.2.1, .int v0.2.2.2.2.2.2.2.2.2.2.1, .int v0.2.2.2.2.2.2.2.2.2.2.2.1, .int v0.2.2.2.2.2.2.2.2.2.2.2.2.1, .ref a0_6, .int v0.2.2.2.2.2.2.2.2.2.2.2.2.2.2.1, .int v0.2.2.2.2.2.2.2.2.2.2.2.2.2.2.2.1, .int v0.2.2.2.2.2.2.2.2.2.2.2.2.2.2.2.2.1, .ref a0_7, .long v0.2.2.2.2.2.2.2.2.2.2.2.2.2.2.2.2.2.2.1, .int v0.2.2.2.2.2.2.2.2.2.2.2.2.2.2.2.2.2.2.2.1, .long v0.2.2.2.2.2.2.2.2.2.2.2.2.2.2.2.2.2.2.2.2.1, .int v0.2.2.2.2.2.2.2.2.2.2.2.2.2.2.2.2.2.2.2.2.2.1, .int v0.2.2.2.2.2.2.2.2.2.2.2.2.2.2.2.2.2.2.2.2.2.2])), (a0_1, .inl (cC, 120, .inl v0.1)), (a0_2, .inl (cC, 200, .inl v0.2.2.1)), (a0_3, .inl (cI, 160, .inl v0.2.2.2.2.2.2.1)), (a0_4, .inl (cI, 4, .inl v0.2.2.2.2.2.2.2.1)), (a0_5, .inl (cI, 7, .inl v0.2.2.2.2.2.2.2.2.1)), (a0_6, .inl (cI, 40, .inl v0.2.2.2.2.2.2.2.2.2.2.2.2.2.1)), (a0_7, .inl (cI, 6, .inl v0.2.2.2.2.2.2.2.2.2.2.2.2.2.2.2.2.2.1))]
abbrev O_Model_writeExponent : Type := T_Model
abbrev q_Model_writeExponent (D : va_G) (cC cI : ClassId) (a0_0 a0_1 a0_2 a0_3 a0_4 a0_5 a0_6 a0_7 : Nat)  (out : O_Model_writeExponent) (A : Nat → Prop) : Array Value → State → Outcome → State → Prop := va_Qv (fun _ : Unit => True) (fun _ t => va_P D classes (wd_Model_writeExponent cC cI a0_0 a0_1 a0_2 a0_3 a0_4 a0_5 a0_6 a0_7 out) t.heap ∧ va_D A (wd_Model_writeExponent cC cI a0_0 a0_1 a0_2 a0_3 a0_4 a0_5 a0_6 a0_7 out)) A
abbrev rm_Model_writeExponent : Room := { frames := 1, cells := 0, slots := 0, locals := 21 }
def J_Model_writeExponent_15 (p : Program) (l : Launch) (e : Env) (s : State) (m : MethodId) (args : Array Value) (below : List Frame) (meth : Method) (c : Code) (A : Nat → Prop) (D : va_G) (cC cI : ClassId) (a0_0 a0_1 a0_2 a0_3 a0_4 a0_5 a0_6 a0_7 : Nat) (out : O_Model_writeExponent) (k : T_Model → Int32 → Option O_Model_writeExponent) : Prop := ∀ (v0 : T_Model) (x1 : Int32) (ls : Array Slot) (H : Heap) (locs : List Loc), k v0 x1 = some out → lv_has ls 3 [(0, .ref a0_0), (1, .int x1)] → va_P D classes (wd_Model_writeExponent cC cI a0_0 a0_1 a0_2 a0_3 a0_4 a0_5 a0_6 a0_7 v0) H → va_D A (wd_Model_writeExponent cC cI a0_0 a0_1 a0_2 a0_3 a0_4 a0_5 a0_6 a0_7 v0) → va_S A s.heap H locs → W p l e rm_Model_writeExponent s m args below meth c H locs 0 0 (MQ below (q_Model_writeExponent D cC cI a0_0 a0_1 a0_2 a0_3 a0_4 a0_5 a0_6 a0_7 out A) args s 0 0 A) (F0 m 15 ls [])
def J_Model_writeExponent_123 (p : Program) (l : Launch) (e : Env) (s : State) (m : MethodId) (args : Array Value) (below : List Frame) (meth : Method) (c : Code) (A : Nat → Prop) (D : va_G) (cC cI : ClassId) (a0_0 a0_1 a0_2 a0_3 a0_4 a0_5 a0_6 a0_7 : Nat) (out : O_Model_writeExponent) (k : T_Model → Option O_Model_writeExponent) : Prop := ∀ (v0 : T_Model) (ls : Array Slot) (H : Heap) (locs : List Loc), k v0 = some out → lv_has ls 3 [(0, .ref a0_0)] → va_P D classes (wd_Model_writeExponent cC cI a0_0 a0_1 a0_2 a0_3 a0_4 a0_5 a0_6 a0_7 v0) H → va_D A (wd_Model_writeExponent cC cI a0_0 a0_1 a0_2 a0_3 a0_4 a0_5 a0_6 a0_7 v0) → va_S A s.heap H locs → W p l e rm_Model_writeExponent s m args below meth c H locs 0 0 (MQ below (q_Model_writeExponent D cC cI a0_0 a0_1 a0_2 a0_3 a0_4 a0_5 a0_6 a0_7 out A) args s 0 0 A) (F0 m 123 ls [])
def f_Model_writeExponent_123 (v0 : T_Model) : Option O_Model_writeExponent := some (v0.1, v0.2.1, v0.2.2.1, v0.2.2.2.1, v0.2.2.2.2.1, v0.2.2.2.2.2.1, v0.2.2.2.2.2.2.1, v0.2.2.2.2.2.2.2.1, v0.2.2.2.2.2.2.2.2.1, v0.2.2.2.2.2.2.2.2.2.1, v0.2.2.2.2.2.2.2.2.2.2.1, v0.2.2.2.2.2.2.2.2.2.2.2.1, v0.2.2.2.2.2.2.2.2.2.2.2.2.1, v0.2.2.2.2.2.2.2.2.2.2.2.2.2.1, v0.2.2.2.2.2.2.2.2.2.2.2.2.2.2.1, v0.2.2.2.2.2.2.2.2.2.2.2.2.2.2.2.1, v0.2.2.2.2.2.2.2.2.2.2.2.2.2.2.2.2.1, (upd v0.2.2.2.2.2.2.2.2.2.2.2.2.2.2.2.2.2.1 (5 : Int32).toNatClampNeg v0.2.2.2.1), v0.2.2.2.2.2.2.2.2.2.2.2.2.2.2.2.2.2.2.1, v0.2.2.2.2.2.2.2.2.2.2.2.2.2.2.2.2.2.2.2.1, v0.2.2.2.2.2.2.2.2.2.2.2.2.2.2.2.2.2.2.2.2.1, v0.2.2.2.2.2.2.2.2.2.2.2.2.2.2.2.2.2.2.2.2.2.1, v0.2.2.2.2.2.2.2.2.2.2.2.2.2.2.2.2.2.2.2.2.2.2)
set_option maxHeartbeats 4000000 in
set_option maxRecDepth 100000 in
theorem w_Model_writeExponent_123 {p : Program} {l : Launch} {e : Env} {s : State} {m : MethodId} {args : Array Value} {below : List Frame} {meth : Method} {c : Code} {A : Nat → Prop} {D : va_G} {cC cI : ClassId} {a0_0 a0_1 a0_2 a0_3 a0_4 a0_5 a0_6 a0_7 : Nat} (X : xCX p s m args meth c A D cC cI b_Model_writeExponent 3 R_Model none) {out : O_Model_writeExponent}   : J_Model_writeExponent_123 p l e s m args below meth c A D cC cI a0_0 a0_1 a0_2 a0_3 a0_4 a0_5 a0_6 a0_7 out (f_Model_writeExponent_123  ) := by
  obtain ⟨hx, hb, hml, hown, htB, ⟨hK, hN⟩, hZ, hA, hr, hlocks⟩ := id X
  intro v0 ls H locs h hl hP hD hS
  refine lv_aload_n hx hb d_Model_writeExponent_123 rfl (lv_at hl 0 rfl) ?_
  refine va_get (D := D) (ci := 11) (v := .ref a0_7) (C := R_Model) (T := F_Model) (N := 23) hx hb htB in_Model hown hK hP 0 rfl rfl 17 (by decide) (htB _ b_395) (fun _ h9 => h9) rfl d_Model_writeExponent_124 ?_
  refine lv_iconst (v := 5) hx hb d_Model_writeExponent_127 (by decide) ?_
  refine lv_aload_n hx hb d_Model_writeExponent_128 rfl (lv_at hl 0 rfl) ?_
  refine va_get (D := D) (ci := 11) (v := .int v0.2.2.2.1) (C := R_Model) (T := F_Model) (N := 23) hx hb htB in_Model hown hK hP 0 rfl rfl 3 (by decide) (htB _ b_311) (fun _ h9 => h9) rfl d_Model_writeExponent_129 ?_
  refine va_iast hx hb hK hP hD hS 7 1 rfl rfl (show ¬ (((5 : Int32) : Int32) < 0 ∨ 6 ≤ ((5 : Int32) : Int32).toNatClampNeg) by decide) d_Model_writeExponent_132 (fun H locs hP hD hS => ?_)
  have hP : va_P D classes (wd_Model_writeExponent cC cI a0_0 a0_1 a0_2 a0_3 a0_4 a0_5 a0_6 a0_7 (v0.1, v0.2.1, v0.2.2.1, v0.2.2.2.1, v0.2.2.2.2.1, v0.2.2.2.2.2.1, v0.2.2.2.2.2.2.1, v0.2.2.2.2.2.2.2.1, v0.2.2.2.2.2.2.2.2.1, v0.2.2.2.2.2.2.2.2.2.1, v0.2.2.2.2.2.2.2.2.2.2.1, v0.2.2.2.2.2.2.2.2.2.2.2.1, v0.2.2.2.2.2.2.2.2.2.2.2.2.1, v0.2.2.2.2.2.2.2.2.2.2.2.2.2.1, v0.2.2.2.2.2.2.2.2.2.2.2.2.2.2.1, v0.2.2.2.2.2.2.2.2.2.2.2.2.2.2.2.1, v0.2.2.2.2.2.2.2.2.2.2.2.2.2.2.2.2.1, (upd v0.2.2.2.2.2.2.2.2.2.2.2.2.2.2.2.2.2.1 (5 : Int32).toNatClampNeg v0.2.2.2.1), v0.2.2.2.2.2.2.2.2.2.2.2.2.2.2.2.2.2.2.1, v0.2.2.2.2.2.2.2.2.2.2.2.2.2.2.2.2.2.2.2.1, v0.2.2.2.2.2.2.2.2.2.2.2.2.2.2.2.2.2.2.2.2.1, v0.2.2.2.2.2.2.2.2.2.2.2.2.2.2.2.2.2.2.2.2.2.1, v0.2.2.2.2.2.2.2.2.2.2.2.2.2.2.2.2.2.2.2.2.2.2)) H := hP
  have hD : va_D A (wd_Model_writeExponent cC cI a0_0 a0_1 a0_2 a0_3 a0_4 a0_5 a0_6 a0_7 (v0.1, v0.2.1, v0.2.2.1, v0.2.2.2.1, v0.2.2.2.2.1, v0.2.2.2.2.2.1, v0.2.2.2.2.2.2.1, v0.2.2.2.2.2.2.2.1, v0.2.2.2.2.2.2.2.2.1, v0.2.2.2.2.2.2.2.2.2.1, v0.2.2.2.2.2.2.2.2.2.2.1, v0.2.2.2.2.2.2.2.2.2.2.2.1, v0.2.2.2.2.2.2.2.2.2.2.2.2.1, v0.2.2.2.2.2.2.2.2.2.2.2.2.2.1, v0.2.2.2.2.2.2.2.2.2.2.2.2.2.2.1, v0.2.2.2.2.2.2.2.2.2.2.2.2.2.2.2.1, v0.2.2.2.2.2.2.2.2.2.2.2.2.2.2.2.2.1, (upd v0.2.2.2.2.2.2.2.2.2.2.2.2.2.2.2.2.2.1 (5 : Int32).toNatClampNeg v0.2.2.2.1), v0.2.2.2.2.2.2.2.2.2.2.2.2.2.2.2.2.2.2.1, v0.2.2.2.2.2.2.2.2.2.2.2.2.2.2.2.2.2.2.2.1, v0.2.2.2.2.2.2.2.2.2.2.2.2.2.2.2.2.2.2.2.2.1, v0.2.2.2.2.2.2.2.2.2.2.2.2.2.2.2.2.2.2.2.2.2.1, v0.2.2.2.2.2.2.2.2.2.2.2.2.2.2.2.2.2.2.2.2.2.2)) := hD
  obtain rfl := Option.some.inj h
  exact W.vret hx hb hr (fun t ht hW => ⟨⟨(), rfl, trivial, by rw [ht]; exact hP, hD⟩, hS.F ht⟩) hS.2.2 d_Model_writeExponent_133 hlocks

def J_Model_writeExponent_44 (p : Program) (l : Launch) (e : Env) (s : State) (m : MethodId) (args : Array Value) (below : List Frame) (meth : Method) (c : Code) (A : Nat → Prop) (D : va_G) (cC cI : ClassId) (a0_0 a0_1 a0_2 a0_3 a0_4 a0_5 a0_6 a0_7 : Nat) (out : O_Model_writeExponent) (k : T_Model → Int32 → Int32 → Option O_Model_writeExponent) : Prop := ∀ (v0 : T_Model) (x1 : Int32) (s0 : Int32) (ls : Array Slot) (H : Heap) (locs : List Loc), k v0 x1 s0 = some out → lv_has ls 3 [(0, .ref a0_0), (1, .int x1)] → va_P D classes (wd_Model_writeExponent cC cI a0_0 a0_1 a0_2 a0_3 a0_4 a0_5 a0_6 a0_7 v0) H → va_D A (wd_Model_writeExponent cC cI a0_0 a0_1 a0_2 a0_3 a0_4 a0_5 a0_6 a0_7 v0) → va_S A s.heap H locs → W p l e rm_Model_writeExponent s m args below meth c H locs 0 0 (MQ below (q_Model_writeExponent D cC cI a0_0 a0_1 a0_2 a0_3 a0_4 a0_5 a0_6 a0_7 out A) args s 0 0 A) (F0 m 44 ls [.int s0])
def J_Model_writeExponent_55 (p : Program) (l : Launch) (e : Env) (s : State) (m : MethodId) (args : Array Value) (below : List Frame) (meth : Method) (c : Code) (A : Nat → Prop) (D : va_G) (cC cI : ClassId) (a0_0 a0_1 a0_2 a0_3 a0_4 a0_5 a0_6 a0_7 : Nat) (out : O_Model_writeExponent) (k : T_Model → Int32 → Option O_Model_writeExponent) : Prop := ∀ (v0 : T_Model) (x2 : Int32) (ls : Array Slot) (H : Heap) (locs : List Loc), k v0 x2 = some out → lv_has ls 3 [(0, .ref a0_0), (2, .int x2)] → va_P D classes (wd_Model_writeExponent cC cI a0_0 a0_1 a0_2 a0_3 a0_4 a0_5 a0_6 a0_7 v0) H → va_D A (wd_Model_writeExponent cC cI a0_0 a0_1 a0_2 a0_3 a0_4 a0_5 a0_6 a0_7 v0) → va_S A s.heap H locs → W p l e rm_Model_writeExponent s m args below meth c H locs 0 0 (MQ below (q_Model_writeExponent D cC cI a0_0 a0_1 a0_2 a0_3 a0_4 a0_5 a0_6 a0_7 out A) args s 0 0 A) (F0 m 55 ls [])
def J_Model_writeExponent_71 (p : Program) (l : Launch) (e : Env) (s : State) (m : MethodId) (args : Array Value) (below : List Frame) (meth : Method) (c : Code) (A : Nat → Prop) (D : va_G) (cC cI : ClassId) (a0_0 a0_1 a0_2 a0_3 a0_4 a0_5 a0_6 a0_7 : Nat) (out : O_Model_writeExponent) (k : T_Model → Int32 → Option O_Model_writeExponent) : Prop := ∀ (v0 : T_Model) (x2 : Int32) (ls : Array Slot) (H : Heap) (locs : List Loc), k v0 x2 = some out → lv_has ls 3 [(0, .ref a0_0), (2, .int x2)] → va_P D classes (wd_Model_writeExponent cC cI a0_0 a0_1 a0_2 a0_3 a0_4 a0_5 a0_6 a0_7 v0) H → va_D A (wd_Model_writeExponent cC cI a0_0 a0_1 a0_2 a0_3 a0_4 a0_5 a0_6 a0_7 v0) → va_S A s.heap H locs → W p l e rm_Model_writeExponent s m args below meth c H locs 0 0 (MQ below (q_Model_writeExponent D cC cI a0_0 a0_1 a0_2 a0_3 a0_4 a0_5 a0_6 a0_7 out A) args s 0 0 A) (F0 m 71 ls [])
def J_Model_writeExponent_82 (p : Program) (l : Launch) (e : Env) (s : State) (m : MethodId) (args : Array Value) (below : List Frame) (meth : Method) (c : Code) (A : Nat → Prop) (D : va_G) (cC cI : ClassId) (a0_0 a0_1 a0_2 a0_3 a0_4 a0_5 a0_6 a0_7 : Nat) (out : O_Model_writeExponent) (k : T_Model → Int32 → Option O_Model_writeExponent) : Prop := ∀ (v0 : T_Model) (x2 : Int32) (ls : Array Slot) (H : Heap) (locs : List Loc), k v0 x2 = some out → lv_has ls 3 [(0, .ref a0_0), (2, .int x2)] → va_P D classes (wd_Model_writeExponent cC cI a0_0 a0_1 a0_2 a0_3 a0_4 a0_5 a0_6 a0_7 v0) H → va_D A (wd_Model_writeExponent cC cI a0_0 a0_1 a0_2 a0_3 a0_4 a0_5 a0_6 a0_7 v0) → va_S A s.heap H locs → W p l e rm_Model_writeExponent s m args below meth c H locs 0 0 (MQ below (q_Model_writeExponent D cC cI a0_0 a0_1 a0_2 a0_3 a0_4 a0_5 a0_6 a0_7 out A) args s 0 0 A) (F0 m 82 ls [])
def J_Model_writeExponent_98 (p : Program) (l : Launch) (e : Env) (s : State) (m : MethodId) (args : Array Value) (below : List Frame) (meth : Method) (c : Code) (A : Nat → Prop) (D : va_G) (cC cI : ClassId) (a0_0 a0_1 a0_2 a0_3 a0_4 a0_5 a0_6 a0_7 : Nat) (out : O_Model_writeExponent) (k : T_Model → Int32 → Option O_Model_writeExponent) : Prop := ∀ (v0 : T_Model) (x2 : Int32) (ls : Array Slot) (H : Heap) (locs : List Loc), k v0 x2 = some out → lv_has ls 3 [(0, .ref a0_0), (2, .int x2)] → va_P D classes (wd_Model_writeExponent cC cI a0_0 a0_1 a0_2 a0_3 a0_4 a0_5 a0_6 a0_7 v0) H → va_D A (wd_Model_writeExponent cC cI a0_0 a0_1 a0_2 a0_3 a0_4 a0_5 a0_6 a0_7 v0) → va_S A s.heap H locs → W p l e rm_Model_writeExponent s m args below meth c H locs 0 0 (MQ below (q_Model_writeExponent D cC cI a0_0 a0_1 a0_2 a0_3 a0_4 a0_5 a0_6 a0_7 out A) args s 0 0 A) (F0 m 98 ls [])
def J_Model_writeExponent_112 (p : Program) (l : Launch) (e : Env) (s : State) (m : MethodId) (args : Array Value) (below : List Frame) (meth : Method) (c : Code) (A : Nat → Prop) (D : va_G) (cC cI : ClassId) (a0_0 a0_1 a0_2 a0_3 a0_4 a0_5 a0_6 a0_7 : Nat) (out : O_Model_writeExponent) (k : T_Model → Int32 → Option O_Model_writeExponent) : Prop := ∀ (v0 : T_Model) (x2 : Int32) (ls : Array Slot) (H : Heap) (locs : List Loc), k v0 x2 = some out → lv_has ls 3 [(0, .ref a0_0), (2, .int x2)] → va_P D classes (wd_Model_writeExponent cC cI a0_0 a0_1 a0_2 a0_3 a0_4 a0_5 a0_6 a0_7 v0) H → va_D A (wd_Model_writeExponent cC cI a0_0 a0_1 a0_2 a0_3 a0_4 a0_5 a0_6 a0_7 v0) → va_S A s.heap H locs → W p l e rm_Model_writeExponent s m args below meth c H locs 0 0 (MQ below (q_Model_writeExponent D cC cI a0_0 a0_1 a0_2 a0_3 a0_4 a0_5 a0_6 a0_7 out A) args s 0 0 A) (F0 m 112 ls [])
def f_Model_writeExponent_112 (v0 : T_Model) (x2 : Int32) : Option O_Model_writeExponent := (f_Model_write v0 ((48 : Int32) + (x2 - x2 / (10 : Int32) * (10 : Int32)))).bind (fun o120 => f_Model_writeExponent_123 o120)
set_option maxHeartbeats 4000000 in
set_option maxRecDepth 100000 in
theorem w_Model_writeExponent_112 {p : Program} {l : Launch} {e : Env} {s : State} {m : MethodId} {args : Array Value} {below : List Frame} {meth : Method} {c : Code} {A : Nat → Prop} {D : va_G} {cC cI : ClassId} {a0_0 a0_1 a0_2 a0_3 a0_4 a0_5 a0_6 a0_7 : Nat} (X : xCX p s m args meth c A D cC cI b_Model_writeExponent 3 R_Model none) {out : O_Model_writeExponent}   : J_Model_writeExponent_112 p l e s m args below meth c A D cC cI a0_0 a0_1 a0_2 a0_3 a0_4 a0_5 a0_6 a0_7 out (f_Model_writeExponent_112  ) := by
  obtain ⟨hx, hb, hml, hown, htB, ⟨hK, hN⟩, hZ, hA, hr, hlocks⟩ := id X
  intro v0 x2 ls H locs h hl hP hD hS
  refine lv_aload_n hx hb d_Model_writeExponent_112 rfl (lv_at hl 0 rfl) ?_
  refine lv_bipush (v := 48) hx hb d_Model_writeExponent_113 (by decide) ?_
  refine lv_iload_n hx hb d_Model_writeExponent_115 rfl (lv_at hl 1 rfl) ?_
  refine lv_bipush (v := 10) hx hb d_Model_writeExponent_116 (by decide) ?_
  refine lv_irem hx hb d_Model_writeExponent_118 (by decide) ?_
  refine lv_iadd hx hb d_Model_writeExponent_119 ?_
  obtain ⟨o120, ho120, h⟩ := x_bnd h
  refine x_callv (ws2 := (wd_Model_writeExponent cC cI a0_0 a0_1 a0_2 a0_3 a0_4 a0_5 a0_6 a0_7 o120)) (x_runV (As := [.int ((48 : Int32) + (x2 - x2 / (10 : Int32) * (10 : Int32)))]) (rest := []) X (c_Model_write l D cC cI H.size a0_0 a0_1 a0_2 a0_3 a0_4 a0_5 a0_6 a0_7 v0 ((48 : Int32) + (x2 - x2 / (10 : Int32) * (10 : Int32))) o120 ho120) b_378 1 (htB _ b_381) (htB _ b_379) (htB _ b_380) (htB _ b_319) ⟨by decide, by decide, by decide +kernel⟩ ⟨(Nat.le_of_ble_eq_true rfl), (Nat.le_of_ble_eq_true rfl)⟩ 0 rfl rfl hP hD hS [0, 1, 2, 3, 4, 5, 6, 7] rfl (by decide) rfl rfl hl.1 rfl rfl (Nat.le_of_ble_eq_true rfl) d_Model_writeExponent_120) hP hD hS hA [0, 1, 2, 3, 4, 5, 6, 7] [] [0, 1, 2, 3, 4, 5, 6, 7] rfl rfl (by decide) (by decide) rfl (by decide) (fun H locs hP hD hS => ?_)
  exact w_Model_writeExponent_123 X o120 ls H locs h (lv_sub hl [0] rfl) hP hD hS

def f_Model_writeExponent_98 (v0 : T_Model) (x2 : Int32) : Option O_Model_writeExponent := (f_Model_write v0 ((48 : Int32) + ((x2 / (10 : Int32)) - (x2 / (10 : Int32)) / (10 : Int32) * (10 : Int32)))).bind (fun o109 => f_Model_writeExponent_112 o109 x2)
set_option maxHeartbeats 4000000 in
set_option maxRecDepth 100000 in
theorem w_Model_writeExponent_98 {p : Program} {l : Launch} {e : Env} {s : State} {m : MethodId} {args : Array Value} {below : List Frame} {meth : Method} {c : Code} {A : Nat → Prop} {D : va_G} {cC cI : ClassId} {a0_0 a0_1 a0_2 a0_3 a0_4 a0_5 a0_6 a0_7 : Nat} (X : xCX p s m args meth c A D cC cI b_Model_writeExponent 3 R_Model none) {out : O_Model_writeExponent}   : J_Model_writeExponent_98 p l e s m args below meth c A D cC cI a0_0 a0_1 a0_2 a0_3 a0_4 a0_5 a0_6 a0_7 out (f_Model_writeExponent_98  ) := by
  obtain ⟨hx, hb, hml, hown, htB, ⟨hK, hN⟩, hZ, hA, hr, hlocks⟩ := id X
  intro v0 x2 ls H locs h hl hP hD hS
  refine lv_aload_n hx hb d_Model_writeExponent_98 rfl (lv_at hl 0 rfl) ?_
  refine lv_bipush (v := 48) hx hb d_Model_writeExponent_99 (by decide) ?_
  refine lv_iload_n hx hb d_Model_writeExponent_101 rfl (lv_at hl 1 rfl) ?_
  refine lv_bipush (v := 10) hx hb d_Model_writeExponent_102 (by decide) ?_
  refine lv_idiv hx hb d_Model_writeExponent_104 (by decide) ?_
  refine lv_bipush (v := 10) hx hb d_Model_writeExponent_105 (by decide) ?_
  refine lv_irem hx hb d_Model_writeExponent_107 (by decide) ?_
  refine lv_iadd hx hb d_Model_writeExponent_108 ?_
  obtain ⟨o109, ho109, h⟩ := x_bnd h
  refine x_callv (ws2 := (wd_Model_writeExponent cC cI a0_0 a0_1 a0_2 a0_3 a0_4 a0_5 a0_6 a0_7 o109)) (x_runV (As := [.int ((48 : Int32) + ((x2 / (10 : Int32)) - (x2 / (10 : Int32)) / (10 : Int32) * (10 : Int32)))]) (rest := []) X (c_Model_write l D cC cI H.size a0_0 a0_1 a0_2 a0_3 a0_4 a0_5 a0_6 a0_7 v0 ((48 : Int32) + ((x2 / (10 : Int32)) - (x2 / (10 : Int32)) / (10 : Int32) * (10 : Int32))) o109 ho109) b_378 1 (htB _ b_381) (htB _ b_379) (htB _ b_380) (htB _ b_319) ⟨by decide, by decide, by decide +kernel⟩ ⟨(Nat.le_of_ble_eq_true rfl), (Nat.le_of_ble_eq_true rfl)⟩ 0 rfl rfl hP hD hS [0, 1, 2, 3, 4, 5, 6, 7] rfl (by decide) rfl rfl hl.1 rfl rfl (Nat.le_of_ble_eq_true rfl) d_Model_writeExponent_109) hP hD hS hA [0, 1, 2, 3, 4, 5, 6, 7] [] [0, 1, 2, 3, 4, 5, 6, 7] rfl rfl (by decide) (by decide) rfl (by decide) (fun H locs hP hD hS => ?_)
  exact w_Model_writeExponent_112 X o109 x2 ls H locs h (lv_sub hl [0, 1] rfl) hP hD hS

def f_Model_writeExponent_82 (v0 : T_Model) (x2 : Int32) : Option O_Model_writeExponent := (if (1 : Int32) < (v0.2.2.2.2.2.2.2.2.1 (4 : Int32).toNatClampNeg) then f_Model_writeExponent_98 v0 x2 else (if x2 ≤ (9 : Int32) then f_Model_writeExponent_112 v0 x2 else f_Model_writeExponent_98 v0 x2))
set_option maxHeartbeats 4000000 in
set_option maxRecDepth 100000 in
theorem w_Model_writeExponent_82 {p : Program} {l : Launch} {e : Env} {s : State} {m : MethodId} {args : Array Value} {below : List Frame} {meth : Method} {c : Code} {A : Nat → Prop} {D : va_G} {cC cI : ClassId} {a0_0 a0_1 a0_2 a0_3 a0_4 a0_5 a0_6 a0_7 : Nat} (X : xCX p s m args meth c A D cC cI b_Model_writeExponent 3 R_Model none) {out : O_Model_writeExponent}   : J_Model_writeExponent_82 p l e s m args below meth c A D cC cI a0_0 a0_1 a0_2 a0_3 a0_4 a0_5 a0_6 a0_7 out (f_Model_writeExponent_82  ) := by
  obtain ⟨hx, hb, hml, hown, htB, ⟨hK, hN⟩, hZ, hA, hr, hlocks⟩ := id X
  intro v0 x2 ls H locs h hl hP hD hS
  refine lv_aload_n hx hb d_Model_writeExponent_82 rfl (lv_at hl 0 rfl) ?_
  refine va_get (D := D) (ci := 11) (v := .ref a0_5) (C := R_Model) (T := F_Model) (N := 23) hx hb htB in_Model hown hK hP 0 rfl rfl 8 (by decide) (htB _ b_330) (fun _ h9 => h9) rfl d_Model_writeExponent_83 ?_
  refine lv_iconst (v := 4) hx hb d_Model_writeExponent_86 (by decide) ?_
  refine va_iald hx hb hK hP 5 1 rfl rfl (show ¬ (((4 : Int32) : Int32) < 0 ∨ 7 ≤ ((4 : Int32) : Int32).toNatClampNeg) by decide) d_Model_writeExponent_87 ?_
  refine lv_iconst (v := 1) hx hb d_Model_writeExponent_88 (by decide) ?_
  refine lv_icmp_gt (tgt := 98) hx hb d_Model_writeExponent_89 rfl (fun hc => ?_) (fun hc => ?_)
  · have h := (if_pos hc).symm.trans h
    exact w_Model_writeExponent_98 X v0 x2 ls H locs h (lv_sub hl [0, 1] rfl) hP hD hS
  have h := (if_neg hc).symm.trans h
  refine lv_iload_n hx hb d_Model_writeExponent_92 rfl (lv_at hl 1 rfl) ?_
  refine lv_bipush (v := 9) hx hb d_Model_writeExponent_93 (by decide) ?_
  refine lv_icmp_le (tgt := 112) hx hb d_Model_writeExponent_95 rfl (fun hc => ?_) (fun hc => ?_)
  · have h := (if_pos hc).symm.trans h
    exact w_Model_writeExponent_112 X v0 x2 ls H locs h (lv_sub hl [0, 1] rfl) hP hD hS
  have h := (if_neg hc).symm.trans h
  exact w_Model_writeExponent_98 X v0 x2 ls H locs h (lv_sub hl [0, 1] rfl) hP hD hS

def f_Model_writeExponent_71 (v0 : T_Model) (x2 : Int32) : Option O_Model_writeExponent := (f_Model_write v0 ((48 : Int32) + (x2 / (100 : Int32)))).bind (fun o79 => f_Model_writeExponent_82 o79 x2)
set_option maxHeartbeats 4000000 in
set_option maxRecDepth 100000 in
theorem w_Model_writeExponent_71 {p : Program} {l : Launch} {e : Env} {s : State} {m : MethodId} {args : Array Value} {below : List Frame} {meth : Method} {c : Code} {A : Nat → Prop} {D : va_G} {cC cI : ClassId} {a0_0 a0_1 a0_2 a0_3 a0_4 a0_5 a0_6 a0_7 : Nat} (X : xCX p s m args meth c A D cC cI b_Model_writeExponent 3 R_Model none) {out : O_Model_writeExponent}   : J_Model_writeExponent_71 p l e s m args below meth c A D cC cI a0_0 a0_1 a0_2 a0_3 a0_4 a0_5 a0_6 a0_7 out (f_Model_writeExponent_71  ) := by
  obtain ⟨hx, hb, hml, hown, htB, ⟨hK, hN⟩, hZ, hA, hr, hlocks⟩ := id X
  intro v0 x2 ls H locs h hl hP hD hS
  refine lv_aload_n hx hb d_Model_writeExponent_71 rfl (lv_at hl 0 rfl) ?_
  refine lv_bipush (v := 48) hx hb d_Model_writeExponent_72 (by decide) ?_
  refine lv_iload_n hx hb d_Model_writeExponent_74 rfl (lv_at hl 1 rfl) ?_
  refine lv_bipush (v := 100) hx hb d_Model_writeExponent_75 (by decide) ?_
  refine lv_idiv hx hb d_Model_writeExponent_77 (by decide) ?_
  refine lv_iadd hx hb d_Model_writeExponent_78 ?_
  obtain ⟨o79, ho79, h⟩ := x_bnd h
  refine x_callv (ws2 := (wd_Model_writeExponent cC cI a0_0 a0_1 a0_2 a0_3 a0_4 a0_5 a0_6 a0_7 o79)) (x_runV (As := [.int ((48 : Int32) + (x2 / (100 : Int32)))]) (rest := []) X (c_Model_write l D cC cI H.size a0_0 a0_1 a0_2 a0_3 a0_4 a0_5 a0_6 a0_7 v0 ((48 : Int32) + (x2 / (100 : Int32))) o79 ho79) b_378 1 (htB _ b_381) (htB _ b_379) (htB _ b_380) (htB _ b_319) ⟨by decide, by decide, by decide +kernel⟩ ⟨(Nat.le_of_ble_eq_true rfl), (Nat.le_of_ble_eq_true rfl)⟩ 0 rfl rfl hP hD hS [0, 1, 2, 3, 4, 5, 6, 7] rfl (by decide) rfl rfl hl.1 rfl rfl (Nat.le_of_ble_eq_true rfl) d_Model_writeExponent_79) hP hD hS hA [0, 1, 2, 3, 4, 5, 6, 7] [] [0, 1, 2, 3, 4, 5, 6, 7] rfl rfl (by decide) (by decide) rfl (by decide) (fun H locs hP hD hS => ?_)
  exact w_Model_writeExponent_82 X o79 x2 ls H locs h (lv_sub hl [0, 1] rfl) hP hD hS

def f_Model_writeExponent_55 (v0 : T_Model) (x2 : Int32) : Option O_Model_writeExponent := (if (2 : Int32) < (v0.2.2.2.2.2.2.2.2.1 (4 : Int32).toNatClampNeg) then f_Model_writeExponent_71 v0 x2 else (if x2 ≤ (99 : Int32) then f_Model_writeExponent_82 v0 x2 else f_Model_writeExponent_71 v0 x2))
set_option maxHeartbeats 4000000 in
set_option maxRecDepth 100000 in
theorem w_Model_writeExponent_55 {p : Program} {l : Launch} {e : Env} {s : State} {m : MethodId} {args : Array Value} {below : List Frame} {meth : Method} {c : Code} {A : Nat → Prop} {D : va_G} {cC cI : ClassId} {a0_0 a0_1 a0_2 a0_3 a0_4 a0_5 a0_6 a0_7 : Nat} (X : xCX p s m args meth c A D cC cI b_Model_writeExponent 3 R_Model none) {out : O_Model_writeExponent}   : J_Model_writeExponent_55 p l e s m args below meth c A D cC cI a0_0 a0_1 a0_2 a0_3 a0_4 a0_5 a0_6 a0_7 out (f_Model_writeExponent_55  ) := by
  obtain ⟨hx, hb, hml, hown, htB, ⟨hK, hN⟩, hZ, hA, hr, hlocks⟩ := id X
  intro v0 x2 ls H locs h hl hP hD hS
  refine lv_aload_n hx hb d_Model_writeExponent_55 rfl (lv_at hl 0 rfl) ?_
  refine va_get (D := D) (ci := 11) (v := .ref a0_5) (C := R_Model) (T := F_Model) (N := 23) hx hb htB in_Model hown hK hP 0 rfl rfl 8 (by decide) (htB _ b_330) (fun _ h9 => h9) rfl d_Model_writeExponent_56 ?_
  refine lv_iconst (v := 4) hx hb d_Model_writeExponent_59 (by decide) ?_
  refine va_iald hx hb hK hP 5 1 rfl rfl (show ¬ (((4 : Int32) : Int32) < 0 ∨ 7 ≤ ((4 : Int32) : Int32).toNatClampNeg) by decide) d_Model_writeExponent_60 ?_
  refine lv_iconst (v := 2) hx hb d_Model_writeExponent_61 (by decide) ?_
  refine lv_icmp_gt (tgt := 71) hx hb d_Model_writeExponent_62 rfl (fun hc => ?_) (fun hc => ?_)
  · have h := (if_pos hc).symm.trans h
    exact w_Model_writeExponent_71 X v0 x2 ls H locs h (lv_sub hl [0, 1] rfl) hP hD hS
  have h := (if_neg hc).symm.trans h
  refine lv_iload_n hx hb d_Model_writeExponent_65 rfl (lv_at hl 1 rfl) ?_
  refine lv_bipush (v := 99) hx hb d_Model_writeExponent_66 (by decide) ?_
  refine lv_icmp_le (tgt := 82) hx hb d_Model_writeExponent_68 rfl (fun hc => ?_) (fun hc => ?_)
  · have h := (if_pos hc).symm.trans h
    exact w_Model_writeExponent_82 X v0 x2 ls H locs h (lv_sub hl [0, 1] rfl) hP hD hS
  have h := (if_neg hc).symm.trans h
  exact w_Model_writeExponent_71 X v0 x2 ls H locs h (lv_sub hl [0, 1] rfl) hP hD hS

def f_Model_writeExponent_44 (v0 : T_Model) (x1 : Int32) (s0 : Int32) : Option O_Model_writeExponent := (if 0 ≤ x1 then f_Model_writeExponent_55 v0 s0 else (f_Model_write v0 (45 : Int32)).bind (fun o52 => f_Model_writeExponent_55 o52 s0))
set_option maxHeartbeats 4000000 in
set_option maxRecDepth 100000 in
theorem w_Model_writeExponent_44 {p : Program} {l : Launch} {e : Env} {s : State} {m : MethodId} {args : Array Value} {below : List Frame} {meth : Method} {c : Code} {A : Nat → Prop} {D : va_G} {cC cI : ClassId} {a0_0 a0_1 a0_2 a0_3 a0_4 a0_5 a0_6 a0_7 : Nat} (X : xCX p s m args meth c A D cC cI b_Model_writeExponent 3 R_Model none) {out : O_Model_writeExponent}   : J_Model_writeExponent_44 p l e s m args below meth c A D cC cI a0_0 a0_1 a0_2 a0_3 a0_4 a0_5 a0_6 a0_7 out (f_Model_writeExponent_44  ) := by
  obtain ⟨hx, hb, hml, hown, htB, ⟨hK, hN⟩, hZ, hA, hr, hlocks⟩ := id X
  intro v0 x1 s0 ls H locs h hl hP hD hS
  refine lv_istore_n (lv' := [(2, .int s0), (0, .ref a0_0), (1, .int x1)]) hx hb d_Model_writeExponent_44 rfl hl (by decide) rfl (fun ls hl => ?_)
  refine lv_iload_n hx hb d_Model_writeExponent_45 rfl (lv_at hl 2 rfl) ?_
  refine lv_if_ge (tgt := 55) hx hb d_Model_writeExponent_46 rfl (fun hc => ?_) (fun hc => ?_)
  · have h := (if_pos hc).symm.trans h
    exact w_Model_writeExponent_55 X v0 s0 ls H locs h (lv_sub hl [1, 0] rfl) hP hD hS
  have h := (if_neg hc).symm.trans h
  refine lv_aload_n hx hb d_Model_writeExponent_49 rfl (lv_at hl 1 rfl) ?_
  refine lv_bipush (v := 45) hx hb d_Model_writeExponent_50 (by decide) ?_
  obtain ⟨o52, ho52, h⟩ := x_bnd h
  refine x_callv (ws2 := (wd_Model_writeExponent cC cI a0_0 a0_1 a0_2 a0_3 a0_4 a0_5 a0_6 a0_7 o52)) (x_runV (As := [.int (45 : Int32)]) (rest := []) X (c_Model_write l D cC cI H.size a0_0 a0_1 a0_2 a0_3 a0_4 a0_5 a0_6 a0_7 v0 (45 : Int32) o52 ho52) b_378 1 (htB _ b_381) (htB _ b_379) (htB _ b_380) (htB _ b_319) ⟨by decide, by decide, by decide +kernel⟩ ⟨(Nat.le_of_ble_eq_true rfl), (Nat.le_of_ble_eq_true rfl)⟩ 0 rfl rfl hP hD hS [0, 1, 2, 3, 4, 5, 6, 7] rfl (by decide) rfl rfl hl.1 rfl rfl (Nat.le_of_ble_eq_true rfl) d_Model_writeExponent_52) hP hD hS hA [0, 1, 2, 3, 4, 5, 6, 7] [] [0, 1, 2, 3, 4, 5, 6, 7] rfl rfl (by decide) (by decide) rfl (by decide) (fun H locs hP hD hS => ?_)
  exact w_Model_writeExponent_55 X o52 s0 ls H locs h (lv_sub hl [1, 0] rfl) hP hD hS

def f_Model_writeExponent_15 (v0 : T_Model) (x1 : Int32) : Option O_Model_writeExponent := (if (v0.2.2.2.2.2.2.2.2.1 (4 : Int32).toNatClampNeg) ≤ 0 then f_Model_writeExponent_123 (v0.1, v0.2.1, v0.2.2.1, v0.2.2.2.1, v0.2.2.2.2.1, v0.2.2.2.2.2.1, v0.2.2.2.2.2.2.1, v0.2.2.2.2.2.2.2.1, v0.2.2.2.2.2.2.2.2.1, v0.2.2.2.2.2.2.2.2.2.1, v0.2.2.2.2.2.2.2.2.2.2.1, v0.2.2.2.2.2.2.2.2.2.2.2.1, v0.2.2.2.2.2.2.2.2.2.2.2.2.1, v0.2.2.2.2.2.2.2.2.2.2.2.2.2.1, v0.2.2.2.2.2.2.2.2.2.2.2.2.2.2.1, v0.2.2.2.2.2.2.2.2.2.2.2.2.2.2.2.1, v0.2.2.2.2.2.2.2.2.2.2.2.2.2.2.2.2.1, (upd v0.2.2.2.2.2.2.2.2.2.2.2.2.2.2.2.2.2.1 (4 : Int32).toNatClampNeg v0.2.2.2.1), v0.2.2.2.2.2.2.2.2.2.2.2.2.2.2.2.2.2.2.1, v0.2.2.2.2.2.2.2.2.2.2.2.2.2.2.2.2.2.2.2.1, v0.2.2.2.2.2.2.2.2.2.2.2.2.2.2.2.2.2.2.2.2.1, v0.2.2.2.2.2.2.2.2.2.2.2.2.2.2.2.2.2.2.2.2.2.1, v0.2.2.2.2.2.2.2.2.2.2.2.2.2.2.2.2.2.2.2.2.2.2) else (if 0 ≤ x1 then f_Model_writeExponent_44 (v0.1, v0.2.1, v0.2.2.1, v0.2.2.2.1, v0.2.2.2.2.1, v0.2.2.2.2.2.1, v0.2.2.2.2.2.2.1, v0.2.2.2.2.2.2.2.1, v0.2.2.2.2.2.2.2.2.1, v0.2.2.2.2.2.2.2.2.2.1, v0.2.2.2.2.2.2.2.2.2.2.1, v0.2.2.2.2.2.2.2.2.2.2.2.1, v0.2.2.2.2.2.2.2.2.2.2.2.2.1, v0.2.2.2.2.2.2.2.2.2.2.2.2.2.1, v0.2.2.2.2.2.2.2.2.2.2.2.2.2.2.1, v0.2.2.2.2.2.2.2.2.2.2.2.2.2.2.2.1, v0.2.2.2.2.2.2.2.2.2.2.2.2.2.2.2.2.1, (upd v0.2.2.2.2.2.2.2.2.2.2.2.2.2.2.2.2.2.1 (4 : Int32).toNatClampNeg v0.2.2.2.1), v0.2.2.2.2.2.2.2.2.2.2.2.2.2.2.2.2.2.2.1, v0.2.2.2.2.2.2.2.2.2.2.2.2.2.2.2.2.2.2.2.1, v0.2.2.2.2.2.2.2.2.2.2.2.2.2.2.2.2.2.2.2.2.1, v0.2.2.2.2.2.2.2.2.2.2.2.2.2.2.2.2.2.2.2.2.2.1, v0.2.2.2.2.2.2.2.2.2.2.2.2.2.2.2.2.2.2.2.2.2.2) x1 x1 else f_Model_writeExponent_44 (v0.1, v0.2.1, v0.2.2.1, v0.2.2.2.1, v0.2.2.2.2.1, v0.2.2.2.2.2.1, v0.2.2.2.2.2.2.1, v0.2.2.2.2.2.2.2.1, v0.2.2.2.2.2.2.2.2.1, v0.2.2.2.2.2.2.2.2.2.1, v0.2.2.2.2.2.2.2.2.2.2.1, v0.2.2.2.2.2.2.2.2.2.2.2.1, v0.2.2.2.2.2.2.2.2.2.2.2.2.1, v0.2.2.2.2.2.2.2.2.2.2.2.2.2.1, v0.2.2.2.2.2.2.2.2.2.2.2.2.2.2.1, v0.2.2.2.2.2.2.2.2.2.2.2.2.2.2.2.1, v0.2.2.2.2.2.2.2.2.2.2.2.2.2.2.2.2.1, (upd v0.2.2.2.2.2.2.2.2.2.2.2.2.2.2.2.2.2.1 (4 : Int32).toNatClampNeg v0.2.2.2.1), v0.2.2.2.2.2.2.2.2.2.2.2.2.2.2.2.2.2.2.1, v0.2.2.2.2.2.2.2.2.2.2.2.2.2.2.2.2.2.2.2.1, v0.2.2.2.2.2.2.2.2.2.2.2.2.2.2.2.2.2.2.2.2.1, v0.2.2.2.2.2.2.2.2.2.2.2.2.2.2.2.2.2.2.2.2.2.1, v0.2.2.2.2.2.2.2.2.2.2.2.2.2.2.2.2.2.2.2.2.2.2) x1 (-x1)))
set_option maxHeartbeats 4000000 in
set_option maxRecDepth 100000 in
theorem w_Model_writeExponent_15 {p : Program} {l : Launch} {e : Env} {s : State} {m : MethodId} {args : Array Value} {below : List Frame} {meth : Method} {c : Code} {A : Nat → Prop} {D : va_G} {cC cI : ClassId} {a0_0 a0_1 a0_2 a0_3 a0_4 a0_5 a0_6 a0_7 : Nat} (X : xCX p s m args meth c A D cC cI b_Model_writeExponent 3 R_Model none) {out : O_Model_writeExponent}   : J_Model_writeExponent_15 p l e s m args below meth c A D cC cI a0_0 a0_1 a0_2 a0_3 a0_4 a0_5 a0_6 a0_7 out (f_Model_writeExponent_15  ) := by
  obtain ⟨hx, hb, hml, hown, htB, ⟨hK, hN⟩, hZ, hA, hr, hlocks⟩ := id X
  intro v0 x1 ls H locs h hl hP hD hS
  refine lv_aload_n hx hb d_Model_writeExponent_15 rfl (lv_at hl 0 rfl) ?_
  refine va_get (D := D) (ci := 11) (v := .ref a0_7) (C := R_Model) (T := F_Model) (N := 23) hx hb htB in_Model hown hK hP 0 rfl rfl 17 (by decide) (htB _ b_395) (fun _ h9 => h9) rfl d_Model_writeExponent_16 ?_
  refine lv_iconst (v := 4) hx hb d_Model_writeExponent_19 (by decide) ?_
  refine lv_aload_n hx hb d_Model_writeExponent_20 rfl (lv_at hl 0 rfl) ?_
  refine va_get (D := D) (ci := 11) (v := .int v0.2.2.2.1) (C := R_Model) (T := F_Model) (N := 23) hx hb htB in_Model hown hK hP 0 rfl rfl 3 (by decide) (htB _ b_311) (fun _ h9 => h9) rfl d_Model_writeExponent_21 ?_
  refine va_iast hx hb hK hP hD hS 7 1 rfl rfl (show ¬ (((4 : Int32) : Int32) < 0 ∨ 6 ≤ ((4 : Int32) : Int32).toNatClampNeg) by decide) d_Model_writeExponent_24 (fun H locs hP hD hS => ?_)
  have hP : va_P D classes (wd_Model_writeExponent cC cI a0_0 a0_1 a0_2 a0_3 a0_4 a0_5 a0_6 a0_7 (v0.1, v0.2.1, v0.2.2.1, v0.2.2.2.1, v0.2.2.2.2.1, v0.2.2.2.2.2.1, v0.2.2.2.2.2.2.1, v0.2.2.2.2.2.2.2.1, v0.2.2.2.2.2.2.2.2.1, v0.2.2.2.2.2.2.2.2.2.1, v0.2.2.2.2.2.2.2.2.2.2.1, v0.2.2.2.2.2.2.2.2.2.2.2.1, v0.2.2.2.2.2.2.2.2.2.2.2.2.1, v0.2.2.2.2.2.2.2.2.2.2.2.2.2.1, v0.2.2.2.2.2.2.2.2.2.2.2.2.2.2.1, v0.2.2.2.2.2.2.2.2.2.2.2.2.2.2.2.1, v0.2.2.2.2.2.2.2.2.2.2.2.2.2.2.2.2.1, (upd v0.2.2.2.2.2.2.2.2.2.2.2.2.2.2.2.2.2.1 (4 : Int32).toNatClampNeg v0.2.2.2.1), v0.2.2.2.2.2.2.2.2.2.2.2.2.2.2.2.2.2.2.1, v0.2.2.2.2.2.2.2.2.2.2.2.2.2.2.2.2.2.2.2.1, v0.2.2.2.2.2.2.2.2.2.2.2.2.2.2.2.2.2.2.2.2.1, v0.2.2.2.2.2.2.2.2.2.2.2.2.2.2.2.2.2.2.2.2.2.1, v0.2.2.2.2.2.2.2.2.2.2.2.2.2.2.2.2.2.2.2.2.2.2)) H := hP
  have hD : va_D A (wd_Model_writeExponent cC cI a0_0 a0_1 a0_2 a0_3 a0_4 a0_5 a0_6 a0_7 (v0.1, v0.2.1, v0.2.2.1, v0.2.2.2.1, v0.2.2.2.2.1, v0.2.2.2.2.2.1, v0.2.2.2.2.2.2.1, v0.2.2.2.2.2.2.2.1, v0.2.2.2.2.2.2.2.2.1, v0.2.2.2.2.2.2.2.2.2.1, v0.2.2.2.2.2.2.2.2.2.2.1, v0.2.2.2.2.2.2.2.2.2.2.2.1, v0.2.2.2.2.2.2.2.2.2.2.2.2.1, v0.2.2.2.2.2.2.2.2.2.2.2.2.2.1, v0.2.2.2.2.2.2.2.2.2.2.2.2.2.2.1, v0.2.2.2.2.2.2.2.2.2.2.2.2.2.2.2.1, v0.2.2.2.2.2.2.2.2.2.2.2.2.2.2.2.2.1, (upd v0.2.2.2.2.2.2.2.2.2.2.2.2.2.2.2.2.2.1 (4 : Int32).toNatClampNeg v0.2.2.2.1), v0.2.2.2.2.2.2.2.2.2.2.2.2.2.2.2.2.2.2.1, v0.2.2.2.2.2.2.2.2.2.2.2.2.2.2.2.2.2.2.2.1, v0.2.2.2.2.2.2.2.2.2.2.2.2.2.2.2.2.2.2.2.2.1, v0.2.2.2.2.2.2.2.2.2.2.2.2.2.2.2.2.2.2.2.2.2.1, v0.2.2.2.2.2.2.2.2.2.2.2.2.2.2.2.2.2.2.2.2.2.2)) := hD
  refine lv_aload_n hx hb d_Model_writeExponent_25 rfl (lv_at hl 0 rfl) ?_
  refine va_get (D := D) (ci := 11) (v := .ref a0_5) (C := R_Model) (T := F_Model) (N := 23) hx hb htB in_Model hown hK hP 0 rfl rfl 8 (by decide) (htB _ b_330) (fun _ h9 => h9) rfl d_Model_writeExponent_26 ?_
  refine lv_iconst (v := 4) hx hb d_Model_writeExponent_29 (by decide) ?_
  refine va_iald hx hb hK hP 5 1 rfl rfl (show ¬ (((4 : Int32) : Int32) < 0 ∨ 7 ≤ ((4 : Int32) : Int32).toNatClampNeg) by decide) d_Model_writeExponent_30 ?_
  refine lv_if_le (tgt := 123) hx hb d_Model_writeExponent_31 rfl (fun hc => ?_) (fun hc => ?_)
  · have h := (if_pos hc).symm.trans h
    exact w_Model_writeExponent_123 X (v0.1, v0.2.1, v0.2.2.1, v0.2.2.2.1, v0.2.2.2.2.1, v0.2.2.2.2.2.1, v0.2.2.2.2.2.2.1, v0.2.2.2.2.2.2.2.1, v0.2.2.2.2.2.2.2.2.1, v0.2.2.2.2.2.2.2.2.2.1, v0.2.2.2.2.2.2.2.2.2.2.1, v0.2.2.2.2.2.2.2.2.2.2.2.1, v0.2.2.2.2.2.2.2.2.2.2.2.2.1, v0.2.2.2.2.2.2.2.2.2.2.2.2.2.1, v0.2.2.2.2.2.2.2.2.2.2.2.2.2.2.1, v0.2.2.2.2.2.2.2.2.2.2.2.2.2.2.2.1, v0.2.2.2.2.2.2.2.2.2.2.2.2.2.2.2.2.1, (upd v0.2.2.2.2.2.2.2.2.2.2.2.2.2.2.2.2.2.1 (4 : Int32).toNatClampNeg v0.2.2.2.1), v0.2.2.2.2.2.2.2.2.2.2.2.2.2.2.2.2.2.2.1, v0.2.2.2.2.2.2.2.2.2.2.2.2.2.2.2.2.2.2.2.1, v0.2.2.2.2.2.2.2.2.2.2.2.2.2.2.2.2.2.2.2.2.1, v0.2.2.2.2.2.2.2.2.2.2.2.2.2.2.2.2.2.2.2.2.2.1, v0.2.2.2.2.2.2.2.2.2.2.2.2.2.2.2.2.2.2.2.2.2.2) ls H locs h (lv_sub hl [0] rfl) hP hD hS
  have h := (if_neg hc).symm.trans h
  refine lv_iload_n hx hb d_Model_writeExponent_34 rfl (lv_at hl 1 rfl) ?_
  refine lv_if_ge (tgt := 43) hx hb d_Model_writeExponent_35 rfl (fun hc => ?_) (fun hc => ?_)
  · have h := (if_pos hc).symm.trans h
    refine lv_iload_n hx hb d_Model_writeExponent_43 rfl (lv_at hl 1 rfl) ?_
    exact w_Model_writeExponent_44 X (v0.1, v0.2.1, v0.2.2.1, v0.2.2.2.1, v0.2.2.2.2.1, v0.2.2.2.2.2.1, v0.2.2.2.2.2.2.1, v0.2.2.2.2.2.2.2.1, v0.2.2.2.2.2.2.2.2.1, v0.2.2.2.2.2.2.2.2.2.1, v0.2.2.2.2.2.2.2.2.2.2.1, v0.2.2.2.2.2.2.2.2.2.2.2.1, v0.2.2.2.2.2.2.2.2.2.2.2.2.1, v0.2.2.2.2.2.2.2.2.2.2.2.2.2.1, v0.2.2.2.2.2.2.2.2.2.2.2.2.2.2.1, v0.2.2.2.2.2.2.2.2.2.2.2.2.2.2.2.1, v0.2.2.2.2.2.2.2.2.2.2.2.2.2.2.2.2.1, (upd v0.2.2.2.2.2.2.2.2.2.2.2.2.2.2.2.2.2.1 (4 : Int32).toNatClampNeg v0.2.2.2.1), v0.2.2.2.2.2.2.2.2.2.2.2.2.2.2.2.2.2.2.1, v0.2.2.2.2.2.2.2.2.2.2.2.2.2.2.2.2.2.2.2.1, v0.2.2.2.2.2.2.2.2.2.2.2.2.2.2.2.2.2.2.2.2.1, v0.2.2.2.2.2.2.2.2.2.2.2.2.2.2.2.2.2.2.2.2.2.1, v0.2.2.2.2.2.2.2.2.2.2.2.2.2.2.2.2.2.2.2.2.2.2) x1 x1 ls H locs h (lv_sub hl [0, 1] rfl) hP hD hS
  have h := (if_neg hc).symm.trans h
  refine lv_iload_n hx hb d_Model_writeExponent_38 rfl (lv_at hl 1 rfl) ?_
  refine lv_ineg hx hb d_Model_writeExponent_39 ?_
  refine lv_goto (tgt := 44) hx hb d_Model_writeExponent_40 rfl ?_
  exact w_Model_writeExponent_44 X (v0.1, v0.2.1, v0.2.2.1, v0.2.2.2.1, v0.2.2.2.2.1, v0.2.2.2.2.2.1, v0.2.2.2.2.2.2.1, v0.2.2.2.2.2.2.2.1, v0.2.2.2.2.2.2.2.2.1, v0.2.2.2.2.2.2.2.2.2.1, v0.2.2.2.2.2.2.2.2.2.2.1, v0.2.2.2.2.2.2.2.2.2.2.2.1, v0.2.2.2.2.2.2.2.2.2.2.2.2.1, v0.2.2.2.2.2.2.2.2.2.2.2.2.2.1, v0.2.2.2.2.2.2.2.2.2.2.2.2.2.2.1, v0.2.2.2.2.2.2.2.2.2.2.2.2.2.2.2.1, v0.2.2.2.2.2.2.2.2.2.2.2.2.2.2.2.2.1, (upd v0.2.2.2.2.2.2.2.2.2.2.2.2.2.2.2.2.2.1 (4 : Int32).toNatClampNeg v0.2.2.2.1), v0.2.2.2.2.2.2.2.2.2.2.2.2.2.2.2.2.2.2.1, v0.2.2.2.2.2.2.2.2.2.2.2.2.2.2.2.2.2.2.2.1, v0.2.2.2.2.2.2.2.2.2.2.2.2.2.2.2.2.2.2.2.2.1, v0.2.2.2.2.2.2.2.2.2.2.2.2.2.2.2.2.2.2.2.2.2.1, v0.2.2.2.2.2.2.2.2.2.2.2.2.2.2.2.2.2.2.2.2.2.2) x1 (-x1) ls H locs h (lv_sub hl [0, 1] rfl) hP hD hS

def f_Model_writeExponent (v0 : T_Model) (v1 : Int32) : Option O_Model_writeExponent := (if (v0.2.2.2.2.2.2.2.2.1 (4 : Int32).toNatClampNeg) ≤ 0 then f_Model_writeExponent_15 v0 v1 else (f_Model_write v0 (69 : Int32)).bind (fun o12 => f_Model_writeExponent_15 o12 v1))
set_option maxHeartbeats 4000000 in
set_option maxRecDepth 100000 in
theorem w_Model_writeExponent {p : Program} {l : Launch} {e : Env} {s : State} {m : MethodId} {args : Array Value} {below : List Frame} {meth : Method} {c : Code} {A : Nat → Prop} {D : va_G} {cC cI : ClassId} {a0_0 a0_1 a0_2 a0_3 a0_4 a0_5 a0_6 a0_7 : Nat} (X : xCX p s m args meth c A D cC cI b_Model_writeExponent 3 R_Model none) {out : O_Model_writeExponent} (v0 : T_Model) (v1 : Int32) {ls : Array Slot} {H : Heap} {locs : List Loc} (h : f_Model_writeExponent v0 v1 = some out) (hl : lv_has ls 3 [(0, .ref a0_0), (1, .int v1)]) (hP : va_P D classes (wd_Model_writeExponent cC cI a0_0 a0_1 a0_2 a0_3 a0_4 a0_5 a0_6 a0_7 v0) H) (hD : va_D A (wd_Model_writeExponent cC cI a0_0 a0_1 a0_2 a0_3 a0_4 a0_5 a0_6 a0_7 v0)) (hS : va_S A s.heap H locs) : W p l e rm_Model_writeExponent s m args below meth c H locs 0 0 (MQ below (q_Model_writeExponent D cC cI a0_0 a0_1 a0_2 a0_3 a0_4 a0_5 a0_6 a0_7 out A) args s 0 0 A) (F0 m 0 ls []) := by
  obtain ⟨hx, hb, hml, hown, htB, ⟨hK, hN⟩, hZ, hA, hr, hlocks⟩ := id X
  refine lv_aload_n hx hb d_Model_writeExponent_0 rfl (lv_at hl 0 rfl) ?_
  refine va_get (D := D) (ci := 11) (v := .ref a0_5) (C := R_Model) (T := F_Model) (N := 23) hx hb htB in_Model hown hK hP 0 rfl rfl 8 (by decide) (htB _ b_330) (fun _ h9 => h9) rfl d_Model_writeExponent_1 ?_
  refine lv_iconst (v := 4) hx hb d_Model_writeExponent_4 (by decide) ?_
  refine va_iald hx hb hK hP 5 1 rfl rfl (show ¬ (((4 : Int32) : Int32) < 0 ∨ 7 ≤ ((4 : Int32) : Int32).toNatClampNeg) by decide) d_Model_writeExponent_5 ?_
  refine lv_if_le (tgt := 15) hx hb d_Model_writeExponent_6 rfl (fun hc => ?_) (fun hc => ?_)
  · have h := (if_pos hc).symm.trans h
    exact w_Model_writeExponent_15 X v0 v1 ls H locs h (lv_sub hl [0, 1] rfl) hP hD hS
  have h := (if_neg hc).symm.trans h
  refine lv_aload_n hx hb d_Model_writeExponent_9 rfl (lv_at hl 0 rfl) ?_
  refine lv_bipush (v := 69) hx hb d_Model_writeExponent_10 (by decide) ?_
  obtain ⟨o12, ho12, h⟩ := x_bnd h
  refine x_callv (ws2 := (wd_Model_writeExponent cC cI a0_0 a0_1 a0_2 a0_3 a0_4 a0_5 a0_6 a0_7 o12)) (x_runV (As := [.int (69 : Int32)]) (rest := []) X (c_Model_write l D cC cI H.size a0_0 a0_1 a0_2 a0_3 a0_4 a0_5 a0_6 a0_7 v0 (69 : Int32) o12 ho12) b_378 1 (htB _ b_381) (htB _ b_379) (htB _ b_380) (htB _ b_319) ⟨by decide, by decide, by decide +kernel⟩ ⟨(Nat.le_of_ble_eq_true rfl), (Nat.le_of_ble_eq_true rfl)⟩ 0 rfl rfl hP hD hS [0, 1, 2, 3, 4, 5, 6, 7] rfl (by decide) rfl rfl hl.1 rfl rfl (Nat.le_of_ble_eq_true rfl) d_Model_writeExponent_12) hP hD hS hA [0, 1, 2, 3, 4, 5, 6, 7] [] [0, 1, 2, 3, 4, 5, 6, 7] rfl rfl (by decide) (by decide) rfl (by decide) (fun H locs hP hD hS => ?_)
  exact w_Model_writeExponent_15 X o12 v1 ls H locs h (lv_sub hl [0, 1] rfl) hP hD hS

set_option maxHeartbeats 4000000 in
set_option maxRecDepth 100000 in
theorem c_Model_writeExponent (l : Launch) (D : va_G) (cC cI : ClassId) (sz : Nat) (a0_0 a0_1 a0_2 a0_3 a0_4 a0_5 a0_6 a0_7 : Nat) (v0 : T_Model) (v1 : Int32) (out : O_Model_writeExponent) (h : f_Model_writeExponent v0 v1 = some out) : Met l y_Model_writeExponent (.code y_Model_writeExponent b_Model_writeExponent 3 none :: BIG) rm_Model_writeExponent (va_Pc [.ref a0_0, .int v1] (xPre D cC cI (wd_Model_writeExponent cC cI a0_0 a0_1 a0_2 a0_3 a0_4 a0_5 a0_6 a0_7 v0) sz)) (q_Model_writeExponent D cC cI a0_0 a0_1 a0_2 a0_3 a0_4 a0_5 a0_6 a0_7 out (va_A (wd_Model_writeExponent cC cI a0_0 a0_1 a0_2 a0_3 a0_4 a0_5 a0_6 a0_7 v0) sz)) 0 0 (va_A (wd_Model_writeExponent cC cI a0_0 a0_1 a0_2 a0_3 a0_4 a0_5 a0_6 a0_7 v0) sz) := by
  refine Met.ofW (cc := b_Model_writeExponent) (maxL := 3) (ret := none) (by decide) rfl ?_
  intro p e s m args below meth c s₁ B hml hv
  obtain ⟨rfl, rfl, hP, hD0, hG, hZ⟩ := hv
  have hl := lv_entry [.ref a0_0, .int v1] (n := 3) (Nat.le_of_ble_eq_true rfl)
  rw [lg_entry_eq]
  exact w_Model_writeExponent (x_cx B hml hG hZ) v0 v1 h hl hP hD0.self va_S.rf

abbrev wd_Model_format (cC cI : ClassId) (a0_0 a0_1 a0_2 a0_3 a0_4 a0_5 a0_6 a0_7 : Nat) (v0 : T_Model) : va_W := [(a0_0, .inr (11, [.ref a0_1, .int v0.2.1, .ref a0_2, .int v0.2.2.2.1, .int v0.2.2.2.2.1, .int v0.2.2.2.2.2.1, .ref a0_3, .ref a0_4, .ref a0_5, .int v0.2.2.2.2.2.2.2.2.2.1, .int v0.2.2.2.2.2.2.2.2.2.2.1, .int v0.2.2.2.2.2.2.2.2.2.2.2.1, .int v0.2.2.2.2.2.2.2.2.2.2.2.2.1, .ref a0_6, .int v0.2.2.2.2.2.2.2.2.2.2.2.2.2.2.1, .int v0.2.2.2.2.2.2.2.2.2.2.2.2.2.2.2.1, .int v0.2.2.2.2.2.2.2.2.2.2.2.2.2.2.2.2.1, .ref a0_7, .long v0.2.2.2.2.2.2.2.2.2.2.2.2.2.2.2.2.2.2.1, .int v0.2.2.2.2.2.2.2.2.2.2.2.2.2.2.2.2.2.2.2.1, .long v0.2.2.2.2.2.2.2.2.2.2.2.2.2.2.2.2.2.2.2.2.1, .int v0.2.2.2.2.2.2.2.2.2.2.2.2.2.2.2.2.2.2.2.2.2.1, .int v0.2.2.2.2.2.2.2.2.2.2.2.2.2.2.2.2.2.2.2.2.2.2])), (a0_1, .inl (cC, 120, .inl v0.1)), (a0_2, .inl (cC, 200, .inl v0.2.2.1)), (a0_3, .inl (cI, 160, .inl v0.2.2.2.2.2.2.1)), (a0_4, .inl (cI, 4, .inl v0.2.2.2.2.2.2.2.1)), (a0_5, .inl (cI, 7, .inl v0.2.2.2.2.2.2.2.2.1)), (a0_6, .inl (cI, 40, .inl v0.2.2.2.2.2.2.2.2.2.2.2.2.2.1)), (a0_7, .inl (cI, 6, .inl v0.2.2.2.2.2.2.2.2.2.2.2.2.2.2.2.2.2.1))]
abbrev O_Model_format : Type := Int32 × T_Model
abbrev q_Model_format (D : va_G) (cC cI : ClassId) (a0_0 a0_1 a0_2 a0_3 a0_4 a0_5 a0_6 a0_7 : Nat)  (out : O_Model_format) (A : Nat → Prop) : Array Value → State → Outcome → State → Prop := va_Qi (fun r (_ : Unit) => r = out.1) (fun _ t => va_P D classes (wd_Model_format cC cI a0_0 a0_1 a0_2 a0_3 a0_4 a0_5 a0_6 a0_7 out.2) t.heap ∧ va_D A (wd_Model_format cC cI a0_0 a0_1 a0_2 a0_3 a0_4 a0_5 a0_6 a0_7 out.2)) A
abbrev rm_Model_format : Room := { frames := 3, cells := 0, slots := 0, locals := 72 }
def J_Model_format_35 (p : Program) (l : Launch) (e : Env) (s : State) (m : MethodId) (args : Array Value) (below : List Frame) (meth : Method) (c : Code) (A : Nat → Prop) (D : va_G) (cC cI : ClassId) (a0_0 a0_1 a0_2 a0_3 a0_4 a0_5 a0_6 a0_7 : Nat) (out : O_Model_format) (k : T_Model → Option O_Model_format) : Prop := ∀ (v0 : T_Model) (ls : Array Slot) (H : Heap) (locs : List Loc), k v0 = some out → lv_has ls 9 [] → va_P D classes (wd_Model_format cC cI a0_0 a0_1 a0_2 a0_3 a0_4 a0_5 a0_6 a0_7 v0) H → va_D A (wd_Model_format cC cI a0_0 a0_1 a0_2 a0_3 a0_4 a0_5 a0_6 a0_7 v0) → va_S A s.heap H locs → W p l e rm_Model_format s m args below meth c H locs 0 0 (MQ below (q_Model_format D cC cI a0_0 a0_1 a0_2 a0_3 a0_4 a0_5 a0_6 a0_7 out A) args s 0 0 A) (F0 m 35 ls [])
def f_Model_format_35 (v0 : T_Model) : Option O_Model_format := some ((-2 : Int32), v0)
set_option maxHeartbeats 4000000 in
set_option maxRecDepth 100000 in
theorem w_Model_format_35 {p : Program} {l : Launch} {e : Env} {s : State} {m : MethodId} {args : Array Value} {below : List Frame} {meth : Method} {c : Code} {A : Nat → Prop} {D : va_G} {cC cI : ClassId} {a0_0 a0_1 a0_2 a0_3 a0_4 a0_5 a0_6 a0_7 : Nat} (X : xCX p s m args meth c A D cC cI b_Model_format 9 R_Model (some .int)) {out : O_Model_format}   : J_Model_format_35 p l e s m args below meth c A D cC cI a0_0 a0_1 a0_2 a0_3 a0_4 a0_5 a0_6 a0_7 out (f_Model_format_35  ) := by
  obtain ⟨hx, hb, hml, hown, htB, ⟨hK, hN⟩, hZ, hA, hr, hlocks⟩ := id X
  intro v0 ls H locs h hl hP hD hS
  refine lv_bipush (v := -2) hx hb d_Model_format_35 (by decide) ?_
  obtain rfl := Option.some.inj h
  exact W.iret (v := (-2 : Int32)) hx hb hr (fun t ht hW => ⟨⟨(-2 : Int32), (), rfl, rfl, by rw [ht]; exact hP, hD⟩, hS.F ht⟩) hS.2.2 d_Model_format_37 hlocks

def J_Model_format_49 (p : Program) (l : Launch) (e : Env) (s : State) (m : MethodId) (args : Array Value) (below : List Frame) (meth : Method) (c : Code) (A : Nat → Prop) (D : va_G) (cC cI : ClassId) (a0_0 a0_1 a0_2 a0_3 a0_4 a0_5 a0_6 a0_7 : Nat) (out : O_Model_format) (k : T_Model → Int64 → Int32 → Int32 → Option O_Model_format) : Prop := ∀ (v0 : T_Model) (x1 : Int64) (x3 : Int32) (s0 : Int32) (ls : Array Slot) (H : Heap) (locs : List Loc), k v0 x1 x3 s0 = some out → lv_has ls 9 [(0, .ref a0_0), (1, .long x1), (3, .int x3)] → va_P D classes (wd_Model_format cC cI a0_0 a0_1 a0_2 a0_3 a0_4 a0_5 a0_6 a0_7 v0) H → va_D A (wd_Model_format cC cI a0_0 a0_1 a0_2 a0_3 a0_4 a0_5 a0_6 a0_7 v0) → va_S A s.heap H locs → W p l e rm_Model_format s m args below meth c H locs 0 0 (MQ below (q_Model_format D cC cI a0_0 a0_1 a0_2 a0_3 a0_4 a0_5 a0_6 a0_7 out A) args s 0 0 A) (F0 m 49 ls [.int s0])
def J_Model_format_63 (p : Program) (l : Launch) (e : Env) (s : State) (m : MethodId) (args : Array Value) (below : List Frame) (meth : Method) (c : Code) (A : Nat → Prop) (D : va_G) (cC cI : ClassId) (a0_0 a0_1 a0_2 a0_3 a0_4 a0_5 a0_6 a0_7 : Nat) (out : O_Model_format) (k : T_Model → Int32 → Int32 → Int64 → Option O_Model_format) : Prop := ∀ (v0 : T_Model) (x3 : Int32) (x4 : Int32) (s1 : Int64) (ls : Array Slot) (H : Heap) (locs : List Loc), k v0 x3 x4 s1 = some out → lv_has ls 9 [(0, .ref a0_0), (3, .int x3), (4, .int x4)] → va_P D classes (wd_Model_format cC cI a0_0 a0_1 a0_2 a0_3 a0_4 a0_5 a0_6 a0_7 v0) H → va_D A (wd_Model_format cC cI a0_0 a0_1 a0_2 a0_3 a0_4 a0_5 a0_6 a0_7 v0) → va_S A s.heap H locs → W p l e rm_Model_format s m args below meth c H locs 0 0 (MQ below (q_Model_format D cC cI a0_0 a0_1 a0_2 a0_3 a0_4 a0_5 a0_6 a0_7 out A) args s 0 0 A) (F0 m 63 ls [.long s1, .ref a0_0])
def J_Model_format_126 (p : Program) (l : Launch) (e : Env) (s : State) (m : MethodId) (args : Array Value) (below : List Frame) (meth : Method) (c : Code) (A : Nat → Prop) (D : va_G) (cC cI : ClassId) (a0_0 a0_1 a0_2 a0_3 a0_4 a0_5 a0_6 a0_7 : Nat) (out : O_Model_format) (k : T_Model → Int32 → Int32 → Int32 → Option O_Model_format) : Prop := ∀ (v0 : T_Model) (x4 : Int32) (x5 : Int32) (x6 : Int32) (ls : Array Slot) (H : Heap) (locs : List Loc), k v0 x4 x5 x6 = some out → lv_has ls 9 [(0, .ref a0_0), (4, .int x4), (5, .int x5), (6, .int x6)] → va_P D classes (wd_Model_format cC cI a0_0 a0_1 a0_2 a0_3 a0_4 a0_5 a0_6 a0_7 v0) H → va_D A (wd_Model_format cC cI a0_0 a0_1 a0_2 a0_3 a0_4 a0_5 a0_6 a0_7 v0) → va_S A s.heap H locs → W p l e rm_Model_format s m args below meth c H locs 0 0 (MQ below (q_Model_format D cC cI a0_0 a0_1 a0_2 a0_3 a0_4 a0_5 a0_6 a0_7 out A) args s 0 0 A) (F0 m 126 ls [])
def J_Model_format_181 (p : Program) (l : Launch) (e : Env) (s : State) (m : MethodId) (args : Array Value) (below : List Frame) (meth : Method) (c : Code) (A : Nat → Prop) (D : va_G) (cC cI : ClassId) (a0_0 a0_1 a0_2 a0_3 a0_4 a0_5 a0_6 a0_7 : Nat) (out : O_Model_format) (k : T_Model → Int32 → Int32 → Option O_Model_format) : Prop := ∀ (v0 : T_Model) (x4 : Int32) (x6 : Int32) (ls : Array Slot) (H : Heap) (locs : List Loc), k v0 x4 x6 = some out → lv_has ls 9 [(0, .ref a0_0), (4, .int x4), (6, .int x6)] → va_P D classes (wd_Model_format cC cI a0_0 a0_1 a0_2 a0_3 a0_4 a0_5 a0_6 a0_7 v0) H → va_D A (wd_Model_format cC cI a0_0 a0_1 a0_2 a0_3 a0_4 a0_5 a0_6 a0_7 v0) → va_S A s.heap H locs → W p l e rm_Model_format s m args below meth c H locs 0 0 (MQ below (q_Model_format D cC cI a0_0 a0_1 a0_2 a0_3 a0_4 a0_5 a0_6 a0_7 out A) args s 0 0 A) (F0 m 181 ls [])
def J_Model_format_197 (p : Program) (l : Launch) (e : Env) (s : State) (m : MethodId) (args : Array Value) (below : List Frame) (meth : Method) (c : Code) (A : Nat → Prop) (D : va_G) (cC cI : ClassId) (a0_0 a0_1 a0_2 a0_3 a0_4 a0_5 a0_6 a0_7 : Nat) (out : O_Model_format) (k : T_Model → Int32 → Option O_Model_format) : Prop := ∀ (v0 : T_Model) (x6 : Int32) (ls : Array Slot) (H : Heap) (locs : List Loc), k v0 x6 = some out → lv_has ls 9 [(0, .ref a0_0), (6, .int x6)] → va_P D classes (wd_Model_format cC cI a0_0 a0_1 a0_2 a0_3 a0_4 a0_5 a0_6 a0_7 v0) H → va_D A (wd_Model_format cC cI a0_0 a0_1 a0_2 a0_3 a0_4 a0_5 a0_6 a0_7 v0) → va_S A s.heap H locs → W p l e rm_Model_format s m args below meth c H locs 0 0 (MQ below (q_Model_format D cC cI a0_0 a0_1 a0_2 a0_3 a0_4 a0_5 a0_6 a0_7 out A) args s 0 0 A) (F0 m 197 ls [])
def J_Model_format_198 (p : Program) (l : Launch) (e : Env) (s : State) (m : MethodId) (args : Array Value) (below : List Frame) (meth : Method) (c : Code) (A : Nat → Prop) (D : va_G) (cC cI : ClassId) (a0_0 a0_1 a0_2 a0_3 a0_4 a0_5 a0_6 a0_7 : Nat) (out : O_Model_format) (k : T_Model → Int32 → Int32 → Option O_Model_format) : Prop := ∀ (v0 : T_Model) (x6 : Int32) (s0 : Int32) (ls : Array Slot) (H : Heap) (locs : List Loc), k v0 x6 s0 = some out → lv_has ls 9 [(0, .ref a0_0), (6, .int x6)] → va_P D classes (wd_Model_format cC cI a0_0 a0_1 a0_2 a0_3 a0_4 a0_5 a0_6 a0_7 v0) H → va_D A (wd_Model_format cC cI a0_0 a0_1 a0_2 a0_3 a0_4 a0_5 a0_6 a0_7 v0) → va_S A s.heap H locs → W p l e rm_Model_format s m args below meth c H locs 0 0 (MQ below (q_Model_format D cC cI a0_0 a0_1 a0_2 a0_3 a0_4 a0_5 a0_6 a0_7 out A) args s 0 0 A) (F0 m 198 ls [.int s0])
def f_Model_format_198 (v0 : T_Model) (x6 : Int32) (s0 : Int32) : Option O_Model_format := (f_Model_writeAffix (v0.1, v0.2.1, v0.2.2.1, (0 : Int32), v0.2.2.2.2.1, v0.2.2.2.2.2.1, v0.2.2.2.2.2.2.1, v0.2.2.2.2.2.2.2.1, v0.2.2.2.2.2.2.2.2.1, v0.2.2.2.2.2.2.2.2.2.1, v0.2.2.2.2.2.2.2.2.2.2.1, v0.2.2.2.2.2.2.2.2.2.2.2.1, v0.2.2.2.2.2.2.2.2.2.2.2.2.1, v0.2.2.2.2.2.2.2.2.2.2.2.2.2.1, v0.2.2.2.2.2.2.2.2.2.2.2.2.2.2.1, v0.2.2.2.2.2.2.2.2.2.2.2.2.2.2.2.1, (1 : Int32), v0.2.2.2.2.2.2.2.2.2.2.2.2.2.2.2.2.2.1, v0.2.2.2.2.2.2.2.2.2.2.2.2.2.2.2.2.2.2.1, v0.2.2.2.2.2.2.2.2.2.2.2.2.2.2.2.2.2.2.2.1, v0.2.2.2.2.2.2.2.2.2.2.2.2.2.2.2.2.2.2.2.2.1, v0.2.2.2.2.2.2.2.2.2.2.2.2.2.2.2.2.2.2.2.2.2.1, v0.2.2.2.2.2.2.2.2.2.2.2.2.2.2.2.2.2.2.2.2.2.2) s0 (0 : Int32)).bind (fun o214 => (f_Model_fractions o214).bind (fun o218 => (f_Model_writeWhole o214 o218).bind (fun o226 => (f_Model_writeFraction o226 o218).bind (fun o232 => (f_Model_writeExponent o232 x6).bind (fun o238 => (f_Model_writeAffix o238 s0 (1 : Int32)).bind (fun o245 => some (o245.2.2.2.1, o245)))))))
set_option maxHeartbeats 4000000 in
set_option maxRecDepth 100000 in
theorem w_Model_format_198 {p : Program} {l : Launch} {e : Env} {s : State} {m : MethodId} {args : Array Value} {below : List Frame} {meth : Method} {c : Code} {A : Nat → Prop} {D : va_G} {cC cI : ClassId} {a0_0 a0_1 a0_2 a0_3 a0_4 a0_5 a0_6 a0_7 : Nat} (X : xCX p s m args meth c A D cC cI b_Model_format 9 R_Model (some .int)) {out : O_Model_format}   : J_Model_format_198 p l e s m args below meth c A D cC cI a0_0 a0_1 a0_2 a0_3 a0_4 a0_5 a0_6 a0_7 out (f_Model_format_198  ) := by
  obtain ⟨hx, hb, hml, hown, htB, ⟨hK, hN⟩, hZ, hA, hr, hlocks⟩ := id X
  intro v0 x6 s0 ls H locs h hl hP hD hS
  refine lv_istore (lv' := [(7, .int s0), (0, .ref a0_0), (6, .int x6)]) hx hb d_Model_format_198 hl (by decide) rfl (fun ls hl => ?_)
  refine lv_aload_n hx hb d_Model_format_200 rfl (lv_at hl 1 rfl) ?_
  refine lv_iconst (v := 0) hx hb d_Model_format_201 (by decide) ?_
  refine va_put (D := D) (ci := 11) (v := .int (0 : Int32)) (ty := .int) (C := R_Model) (T := F_Model) (N := 23) hx hb htB in_Model t_Model t_Model_ok n_Model hown hK hP hD hS 0 rfl rfl 3 (by decide) (htB _ b_311) (fun _ h9 => h9) rfl (by decide +kernel) rfl rfl (Nat.le_of_ble_eq_true rfl) d_Model_format_202 (fun H locs hP hD hS => ?_)
  have hP : va_P D classes (wd_Model_format cC cI a0_0 a0_1 a0_2 a0_3 a0_4 a0_5 a0_6 a0_7 (v0.1, v0.2.1, v0.2.2.1, (0 : Int32), v0.2.2.2.2.1, v0.2.2.2.2.2.1, v0.2.2.2.2.2.2.1, v0.2.2.2.2.2.2.2.1, v0.2.2.2.2.2.2.2.2.1, v0.2.2.2.2.2.2.2.2.2.1, v0.2.2.2.2.2.2.2.2.2.2.1, v0.2.2.2.2.2.2.2.2.2.2.2.1, v0.2.2.2.2.2.2.2.2.2.2.2.2.1, v0.2.2.2.2.2.2.2.2.2.2.2.2.2.1, v0.2.2.2.2.2.2.2.2.2.2.2.2.2.2.1, v0.2.2.2.2.2.2.2.2.2.2.2.2.2.2.2.1, v0.2.2.2.2.2.2.2.2.2.2.2.2.2.2.2.2.1, v0.2.2.2.2.2.2.2.2.2.2.2.2.2.2.2.2.2.1, v0.2.2.2.2.2.2.2.2.2.2.2.2.2.2.2.2.2.2.1, v0.2.2.2.2.2.2.2.2.2.2.2.2.2.2.2.2.2.2.2.1, v0.2.2.2.2.2.2.2.2.2.2.2.2.2.2.2.2.2.2.2.2.1, v0.2.2.2.2.2.2.2.2.2.2.2.2.2.2.2.2.2.2.2.2.2.1, v0.2.2.2.2.2.2.2.2.2.2.2.2.2.2.2.2.2.2.2.2.2.2)) H := hP
  have hD : va_D A (wd_Model_format cC cI a0_0 a0_1 a0_2 a0_3 a0_4 a0_5 a0_6 a0_7 (v0.1, v0.2.1, v0.2.2.1, (0 : Int32), v0.2.2.2.2.1, v0.2.2.2.2.2.1, v0.2.2.2.2.2.2.1, v0.2.2.2.2.2.2.2.1, v0.2.2.2.2.2.2.2.2.1, v0.2.2.2.2.2.2.2.2.2.1, v0.2.2.2.2.2.2.2.2.2.2.1, v0.2.2.2.2.2.2.2.2.2.2.2.1, v0.2.2.2.2.2.2.2.2.2.2.2.2.1, v0.2.2.2.2.2.2.2.2.2.2.2.2.2.1, v0.2.2.2.2.2.2.2.2.2.2.2.2.2.2.1, v0.2.2.2.2.2.2.2.2.2.2.2.2.2.2.2.1, v0.2.2.2.2.2.2.2.2.2.2.2.2.2.2.2.2.1, v0.2.2.2.2.2.2.2.2.2.2.2.2.2.2.2.2.2.1, v0.2.2.2.2.2.2.2.2.2.2.2.2.2.2.2.2.2.2.1, v0.2.2.2.2.2.2.2.2.2.2.2.2.2.2.2.2.2.2.2.1, v0.2.2.2.2.2.2.2.2.2.2.2.2.2.2.2.2.2.2.2.2.1, v0.2.2.2.2.2.2.2.2.2.2.2.2.2.2.2.2.2.2.2.2.2.1, v0.2.2.2.2.2.2.2.2.2.2.2.2.2.2.2.2.2.2.2.2.2.2)) := hD
  refine lv_aload_n hx hb d_Model_format_205 rfl (lv_at hl 1 rfl) ?_
  refine lv_iconst (v := 1) hx hb d_Model_format_206 (by decide) ?_
  refine va_put (D := D) (ci := 11) (v := .int (1 : Int32)) (ty := .boolean) (C := R_Model) (T := F_Model) (N := 23) hx hb htB in_Model t_Model t_Model_ok n_Model hown hK hP hD hS 0 rfl rfl 16 (by decide) (htB _ b_410) (fun _ h9 => h9) rfl (by decide +kernel) rfl rfl (Nat.le_of_ble_eq_true rfl) d_Model_format_207 (fun H locs hP hD hS => ?_)
  have hP : va_P D classes (wd_Model_format cC cI a0_0 a0_1 a0_2 a0_3 a0_4 a0_5 a0_6 a0_7 (v0.1, v0.2.1, v0.2.2.1, (0 : Int32), v0.2.2.2.2.1, v0.2.2.2.2.2.1, v0.2.2.2.2.2.2.1, v0.2.2.2.2.2.2.2.1, v0.2.2.2.2.2.2.2.2.1, v0.2.2.2.2.2.2.2.2.2.1, v0.2.2.2.2.2.2.2.2.2.2.1, v0.2.2.2.2.2.2.2.2.2.2.2.1, v0.2.2.2.2.2.2.2.2.2.2.2.2.1, v0.2.2.2.2.2.2.2.2.2.2.2.2.2.1, v0.2.2.2.2.2.2.2.2.2.2.2.2.2.2.1, v0.2.2.2.2.2.2.2.2.2.2.2.2.2.2.2.1, (1 : Int32), v0.2.2.2.2.2.2.2.2.2.2.2.2.2.2.2.2.2.1, v0.2.2.2.2.2.2.2.2.2.2.2.2.2.2.2.2.2.2.1, v0.2.2.2.2.2.2.2.2.2.2.2.2.2.2.2.2.2.2.2.1, v0.2.2.2.2.2.2.2.2.2.2.2.2.2.2.2.2.2.2.2.2.1, v0.2.2.2.2.2.2.2.2.2.2.2.2.2.2.2.2.2.2.2.2.2.1, v0.2.2.2.2.2.2.2.2.2.2.2.2.2.2.2.2.2.2.2.2.2.2)) H := hP
  have hD : va_D A (wd_Model_format cC cI a0_0 a0_1 a0_2 a0_3 a0_4 a0_5 a0_6 a0_7 (v0.1, v0.2.1, v0.2.2.1, (0 : Int32), v0.2.2.2.2.1, v0.2.2.2.2.2.1, v0.2.2.2.2.2.2.1, v0.2.2.2.2.2.2.2.1, v0.2.2.2.2.2.2.2.2.1, v0.2.2.2.2.2.2.2.2.2.1, v0.2.2.2.2.2.2.2.2.2.2.1, v0.2.2.2.2.2.2.2.2.2.2.2.1, v0.2.2.2.2.2.2.2.2.2.2.2.2.1, v0.2.2.2.2.2.2.2.2.2.2.2.2.2.1, v0.2.2.2.2.2.2.2.2.2.2.2.2.2.2.1, v0.2.2.2.2.2.2.2.2.2.2.2.2.2.2.2.1, (1 : Int32), v0.2.2.2.2.2.2.2.2.2.2.2.2.2.2.2.2.2.1, v0.2.2.2.2.2.2.2.2.2.2.2.2.2.2.2.2.2.2.1, v0.2.2.2.2.2.2.2.2.2.2.2.2.2.2.2.2.2.2.2.1, v0.2.2.2.2.2.2.2.2.2.2.2.2.2.2.2.2.2.2.2.2.1, v0.2.2.2.2.2.2.2.2.2.2.2.2.2.2.2.2.2.2.2.2.2.1, v0.2.2.2.2.2.2.2.2.2.2.2.2.2.2.2.2.2.2.2.2.2.2)) := hD
  refine lv_aload_n hx hb d_Model_format_210 rfl (lv_at hl 1 rfl) ?_
  refine lv_iload hx hb d_Model_format_211 (lv_at hl 0 rfl) ?_
  refine lv_iconst (v := 0) hx hb d_Model_format_213 (by decide) ?_
  obtain ⟨o214, ho214, h⟩ := x_bnd h
  refine x_callv (ws2 := (wd_Model_format cC cI a0_0 a0_1 a0_2 a0_3 a0_4 a0_5 a0_6 a0_7 o214)) (x_runV (As := [.int s0, .int (0 : Int32)]) (rest := []) X (c_Model_writeAffix l D cC cI H.size a0_0 a0_1 a0_2 a0_3 a0_4 a0_5 a0_6 a0_7 (v0.1, v0.2.1, v0.2.2.1, (0 : Int32), v0.2.2.2.2.1, v0.2.2.2.2.2.1, v0.2.2.2.2.2.2.1, v0.2.2.2.2.2.2.2.1, v0.2.2.2.2.2.2.2.2.1, v0.2.2.2.2.2.2.2.2.2.1, v0.2.2.2.2.2.2.2.2.2.2.1, v0.2.2.2.2.2.2.2.2.2.2.2.1, v0.2.2.2.2.2.2.2.2.2.2.2.2.1, v0.2.2.2.2.2.2.2.2.2.2.2.2.2.1, v0.2.2.2.2.2.2.2.2.2.2.2.2.2.2.1, v0.2.2.2.2.2.2.2.2.2.2.2.2.2.2.2.1, (1 : Int32), v0.2.2.2.2.2.2.2.2.2.2.2.2.2.2.2.2.2.1, v0.2.2.2.2.2.2.2.2.2.2.2.2.2.2.2.2.2.2.1, v0.2.2.2.2.2.2.2.2.2.2.2.2.2.2.2.2.2.2.2.1, v0.2.2.2.2.2.2.2.2.2.2.2.2.2.2.2.2.2.2.2.2.1, v0.2.2.2.2.2.2.2.2.2.2.2.2.2.2.2.2.2.2.2.2.2.1, v0.2.2.2.2.2.2.2.2.2.2.2.2.2.2.2.2.2.2.2.2.2.2) s0 (0 : Int32) o214 ho214) b_411 2 (htB _ b_414) (htB _ b_412) (htB _ b_413) (htB _ b_319) ⟨by decide, by decide, by decide +kernel⟩ ⟨(Nat.le_of_ble_eq_true rfl), (Nat.le_of_ble_eq_true rfl)⟩ 0 rfl rfl hP hD hS [0, 1, 2, 3, 4, 5, 6, 7] rfl (by decide) rfl rfl hl.1 rfl rfl (Nat.le_of_ble_eq_true rfl) d_Model_format_214) hP hD hS hA [0, 1, 2, 3, 4, 5, 6, 7] [] [0, 1, 2, 3, 4, 5, 6, 7] rfl rfl (by decide) (by decide) rfl (by decide) (fun H locs hP hD hS => ?_)
  refine lv_aload_n hx hb d_Model_format_217 rfl (lv_at hl 1 rfl) ?_
  obtain ⟨o218, ho218, h⟩ := x_bnd h
  refine x_calli (r0 := o218) (ws2 := (wd_Model_format cC cI a0_0 a0_1 a0_2 a0_3 a0_4 a0_5 a0_6 a0_7 o214)) (x_runV (As := []) (rest := []) X (c_Model_fractions l D cC cI H.size a0_0 a0_1 a0_2 a0_3 a0_4 a0_5 a0_6 a0_7 o214 o218 ho218) b_415 0 (htB _ b_418) (htB _ b_416) (htB _ b_417) (htB _ b_319) ⟨by decide, by decide, by decide +kernel⟩ ⟨(Nat.le_of_ble_eq_true rfl), (Nat.le_of_ble_eq_true rfl)⟩ 0 rfl rfl hP hD hS [0, 1, 2, 3, 4, 5, 6, 7] rfl (by decide) rfl rfl hl.1 rfl rfl (Nat.le_of_ble_eq_true rfl) d_Model_format_218) hP hD hS hA [0, 1, 2, 3, 4, 5, 6, 7] [] [0, 1, 2, 3, 4, 5, 6, 7] rfl rfl (by decide) (by decide) rfl (by decide) (fun H locs hP hD hS => ?_)
  refine lv_istore (lv' := [(8, .int o218), (7, .int s0), (0, .ref a0_0), (6, .int x6)]) hx hb d_Model_format_221 hl (by decide) rfl (fun ls hl => ?_)
  refine lv_aload_n hx hb d_Model_format_223 rfl (lv_at hl 2 rfl) ?_
  refine lv_iload hx hb d_Model_format_224 (lv_at hl 0 rfl) ?_
  obtain ⟨o226, ho226, h⟩ := x_bnd h
  refine x_callv (ws2 := (wd_Model_format cC cI a0_0 a0_1 a0_2 a0_3 a0_4 a0_5 a0_6 a0_7 o226)) (x_runV (As := [.int o218]) (rest := []) X (c_Model_writeWhole l D cC cI H.size a0_0 a0_1 a0_2 a0_3 a0_4 a0_5 a0_6 a0_7 o214 o218 o226 ho226) b_419 1 (htB _ b_422) (htB _ b_420) (htB _ b_421) (htB _ b_319) ⟨by decide, by decide, by decide +kernel⟩ ⟨(Nat.le_of_ble_eq_true rfl), (Nat.le_of_ble_eq_true rfl)⟩ 0 rfl rfl hP hD hS [0, 1, 2, 3, 4, 5, 6, 7] rfl (by decide) rfl rfl hl.1 rfl rfl (Nat.le_of_ble_eq_true rfl) d_Model_format_226) hP hD hS hA [0, 1, 2, 3, 4, 5, 6, 7] [] [0, 1, 2, 3, 4, 5, 6, 7] rfl rfl (by decide) (by decide) rfl (by decide) (fun H locs hP hD hS => ?_)
  refine lv_aload_n hx hb d_Model_format_229 rfl (lv_at hl 2 rfl) ?_
  refine lv_iload hx hb d_Model_format_230 (lv_at hl 0 rfl) ?_
  obtain ⟨o232, ho232, h⟩ := x_bnd h
  refine x_callv (ws2 := (wd_Model_format cC cI a0_0 a0_1 a0_2 a0_3 a0_4 a0_5 a0_6 a0_7 o232)) (x_runV (As := [.int o218]) (rest := []) X (c_Model_writeFraction l D cC cI H.size a0_0 a0_1 a0_2 a0_3 a0_4 a0_5 a0_6 a0_7 o226 o218 o232 ho232) b_423 1 (htB _ b_426) (htB _ b_424) (htB _ b_425) (htB _ b_319) ⟨by decide, by decide, by decide +kernel⟩ ⟨(Nat.le_of_ble_eq_true rfl), (Nat.le_of_ble_eq_true rfl)⟩ 0 rfl rfl hP hD hS [0, 1, 2, 3, 4, 5, 6, 7] rfl (by decide) rfl rfl hl.1 rfl rfl (Nat.le_of_ble_eq_true rfl) d_Model_format_232) hP hD hS hA [0, 1, 2, 3, 4, 5, 6, 7] [] [0, 1, 2, 3, 4, 5, 6, 7] rfl rfl (by decide) (by decide) rfl (by decide) (fun H locs hP hD hS => ?_)
  refine lv_aload_n hx hb d_Model_format_235 rfl (lv_at hl 2 rfl) ?_
  refine lv_iload hx hb d_Model_format_236 (lv_at hl 3 rfl) ?_
  obtain ⟨o238, ho238, h⟩ := x_bnd h
  refine x_callv (ws2 := (wd_Model_format cC cI a0_0 a0_1 a0_2 a0_3 a0_4 a0_5 a0_6 a0_7 o238)) (x_runV (As := [.int x6]) (rest := []) X (c_Model_writeExponent l D cC cI H.size a0_0 a0_1 a0_2 a0_3 a0_4 a0_5 a0_6 a0_7 o232 x6 o238 ho238) b_427 1 (htB _ b_430) (htB _ b_428) (htB _ b_429) (htB _ b_319) ⟨by decide, by decide, by decide +kernel⟩ ⟨(Nat.le_of_ble_eq_true rfl), (Nat.le_of_ble_eq_true rfl)⟩ 0 rfl rfl hP hD hS [0, 1, 2, 3, 4, 5, 6, 7] rfl (by decide) rfl rfl hl.1 rfl rfl (Nat.le_of_ble_eq_true rfl) d_Model_format_238) hP hD hS hA [0, 1, 2, 3, 4, 5, 6, 7] [] [0, 1, 2, 3, 4, 5, 6, 7] rfl rfl (by decide) (by decide) rfl (by decide) (fun H locs hP hD hS => ?_)
  refine lv_aload_n hx hb d_Model_format_241 rfl (lv_at hl 2 rfl) ?_
  refine lv_iload hx hb d_Model_format_242 (lv_at hl 1 rfl) ?_
  refine lv_iconst (v := 1) hx hb d_Model_format_244 (by decide) ?_
  obtain ⟨o245, ho245, h⟩ := x_bnd h
  refine x_callv (ws2 := (wd_Model_format cC cI a0_0 a0_1 a0_2 a0_3 a0_4 a0_5 a0_6 a0_7 o245)) (x_runV (As := [.int s0, .int (1 : Int32)]) (rest := []) X (c_Model_writeAffix l D cC cI H.size a0_0 a0_1 a0_2 a0_3 a0_4 a0_5 a0_6 a0_7 o238 s0 (1 : Int32) o245 ho245) b_411 2 (htB _ b_414) (htB _ b_412) (htB _ b_413) (htB _ b_319) ⟨by decide, by decide, by decide +kernel⟩ ⟨(Nat.le_of_ble_eq_true rfl), (Nat.le_of_ble_eq_true rfl)⟩ 0 rfl rfl hP hD hS [0, 1, 2, 3, 4, 5, 6, 7] rfl (by decide) rfl rfl hl.1 rfl rfl (Nat.le_of_ble_eq_true rfl) d_Model_format_245) hP hD hS hA [0, 1, 2, 3, 4, 5, 6, 7] [] [0, 1, 2, 3, 4, 5, 6, 7] rfl rfl (by decide) (by decide) rfl (by decide) (fun H locs hP hD hS => ?_)
  refine lv_aload_n hx hb d_Model_format_248 rfl (lv_at hl 2 rfl) ?_
  refine va_get (D := D) (ci := 11) (v := .int o245.2.2.2.1) (C := R_Model) (T := F_Model) (N := 23) hx hb htB in_Model hown hK hP 0 rfl rfl 3 (by decide) (htB _ b_311) (fun _ h9 => h9) rfl d_Model_format_249 ?_
  obtain rfl := Option.some.inj h
  exact W.iret (v := o245.2.2.2.1) hx hb hr (fun t ht hW => ⟨⟨o245.2.2.2.1, (), rfl, rfl, by rw [ht]; exact hP, hD⟩, hS.F ht⟩) hS.2.2 d_Model_format_252 hlocks

def f_Model_format_197 (v0 : T_Model) (x6 : Int32) : Option O_Model_format := f_Model_format_198 v0 x6 (0 : Int32)
set_option maxHeartbeats 4000000 in
set_option maxRecDepth 100000 in
theorem w_Model_format_197 {p : Program} {l : Launch} {e : Env} {s : State} {m : MethodId} {args : Array Value} {below : List Frame} {meth : Method} {c : Code} {A : Nat → Prop} {D : va_G} {cC cI : ClassId} {a0_0 a0_1 a0_2 a0_3 a0_4 a0_5 a0_6 a0_7 : Nat} (X : xCX p s m args meth c A D cC cI b_Model_format 9 R_Model (some .int)) {out : O_Model_format}   : J_Model_format_197 p l e s m args below meth c A D cC cI a0_0 a0_1 a0_2 a0_3 a0_4 a0_5 a0_6 a0_7 out (f_Model_format_197  ) := by
  obtain ⟨hx, hb, hml, hown, htB, ⟨hK, hN⟩, hZ, hA, hr, hlocks⟩ := id X
  intro v0 x6 ls H locs h hl hP hD hS
  refine lv_iconst (v := 0) hx hb d_Model_format_197 (by decide) ?_
  exact w_Model_format_198 X v0 x6 (0 : Int32) ls H locs h (lv_sub hl [0, 1] rfl) hP hD hS

def f_Model_format_181 (v0 : T_Model) (x4 : Int32) (x6 : Int32) : Option O_Model_format := (if x4 = 0 then f_Model_format_197 v0 x6 else (if v0.2.2.2.2.2.2.2.2.2.2.2.2.2.2.1 ≤ 0 then f_Model_format_197 v0 x6 else f_Model_format_198 v0 x6 (1 : Int32)))
set_option maxHeartbeats 4000000 in
set_option maxRecDepth 100000 in
theorem w_Model_format_181 {p : Program} {l : Launch} {e : Env} {s : State} {m : MethodId} {args : Array Value} {below : List Frame} {meth : Method} {c : Code} {A : Nat → Prop} {D : va_G} {cC cI : ClassId} {a0_0 a0_1 a0_2 a0_3 a0_4 a0_5 a0_6 a0_7 : Nat} (X : xCX p s m args meth c A D cC cI b_Model_format 9 R_Model (some .int)) {out : O_Model_format}   : J_Model_format_181 p l e s m args below meth c A D cC cI a0_0 a0_1 a0_2 a0_3 a0_4 a0_5 a0_6 a0_7 out (f_Model_format_181  ) := by
  obtain ⟨hx, hb, hml, hown, htB, ⟨hK, hN⟩, hZ, hA, hr, hlocks⟩ := id X
  intro v0 x4 x6 ls H locs h hl hP hD hS
  refine lv_iload hx hb d_Model_format_181 (lv_at hl 1 rfl) ?_
  refine lv_if_eq (tgt := 197) hx hb d_Model_format_183 rfl (fun hc => ?_) (fun hc => ?_)
  · have h := (if_pos hc).symm.trans h
    exact w_Model_format_197 X v0 x6 ls H locs h (lv_sub hl [0, 2] rfl) hP hD hS
  have h := (if_neg hc).symm.trans h
  refine lv_aload_n hx hb d_Model_format_186 rfl (lv_at hl 0 rfl) ?_
  refine va_get (D := D) (ci := 11) (v := .int v0.2.2.2.2.2.2.2.2.2.2.2.2.2.2.1) (C := R_Model) (T := F_Model) (N := 23) hx hb htB in_Model hown hK hP 0 rfl rfl 14 (by decide) (htB _ b_382) (fun _ h9 => h9) rfl d_Model_format_187 ?_
  refine lv_if_le (tgt := 197) hx hb d_Model_format_190 rfl (fun hc => ?_) (fun hc => ?_)
  · have h := (if_pos hc).symm.trans h
    exact w_Model_format_197 X v0 x6 ls H locs h (lv_sub hl [0, 2] rfl) hP hD hS
  have h := (if_neg hc).symm.trans h
  refine lv_iconst (v := 1) hx hb d_Model_format_193 (by decide) ?_
  refine lv_goto (tgt := 198) hx hb d_Model_format_194 rfl ?_
  exact w_Model_format_198 X v0 x6 (1 : Int32) ls H locs h (lv_sub hl [0, 2] rfl) hP hD hS

def f_Model_format_126 (v0 : T_Model) (x4 : Int32) (x5 : Int32) (x6 : Int32) : Option O_Model_format := (f_Model_round v0 (v0.2.2.2.2.2.2.2.2.1 (2 : Int32).toNatClampNeg) x4).bind (fun o135 => (if o135.1 = 0 then some ((-3 : Int32), o135.2) else (if (o135.2.2.2.2.2.2.2.2.2.1 (4 : Int32).toNatClampNeg) ≤ 0 then f_Model_format_181 o135.2 x4 x6 else (if o135.2.2.2.2.2.2.2.2.2.2.2.2.2.2.2.1 ≤ 0 then f_Model_format_181 o135.2 x4 x6 else (if o135.2.2.2.2.2.2.2.2.2.2.2.2.2.2.2.2.1 ≤ x5 then f_Model_format_181 o135.2 x4 x6 else f_Model_format_181 (o135.2.1, o135.2.2.1, o135.2.2.2.1, o135.2.2.2.2.1, o135.2.2.2.2.2.1, o135.2.2.2.2.2.2.1, o135.2.2.2.2.2.2.2.1, o135.2.2.2.2.2.2.2.2.1, o135.2.2.2.2.2.2.2.2.2.1, o135.2.2.2.2.2.2.2.2.2.2.1, o135.2.2.2.2.2.2.2.2.2.2.2.1, o135.2.2.2.2.2.2.2.2.2.2.2.2.1, o135.2.2.2.2.2.2.2.2.2.2.2.2.2.1, o135.2.2.2.2.2.2.2.2.2.2.2.2.2.2.1, o135.2.2.2.2.2.2.2.2.2.2.2.2.2.2.2.1, x5, o135.2.2.2.2.2.2.2.2.2.2.2.2.2.2.2.2.2.1, o135.2.2.2.2.2.2.2.2.2.2.2.2.2.2.2.2.2.2.1, o135.2.2.2.2.2.2.2.2.2.2.2.2.2.2.2.2.2.2.2.1, o135.2.2.2.2.2.2.2.2.2.2.2.2.2.2.2.2.2.2.2.2.1, o135.2.2.2.2.2.2.2.2.2.2.2.2.2.2.2.2.2.2.2.2.2.1, o135.2.2.2.2.2.2.2.2.2.2.2.2.2.2.2.2.2.2.2.2.2.2.1, o135.2.2.2.2.2.2.2.2.2.2.2.2.2.2.2.2.2.2.2.2.2.2.2) x4 (x6 + (1 : Int32)))))))
set_option maxHeartbeats 4000000 in
set_option maxRecDepth 100000 in
theorem w_Model_format_126 {p : Program} {l : Launch} {e : Env} {s : State} {m : MethodId} {args : Array Value} {below : List Frame} {meth : Method} {c : Code} {A : Nat → Prop} {D : va_G} {cC cI : ClassId} {a0_0 a0_1 a0_2 a0_3 a0_4 a0_5 a0_6 a0_7 : Nat} (X : xCX p s m args meth c A D cC cI b_Model_format 9 R_Model (some .int)) {out : O_Model_format}   : J_Model_format_126 p l e s m args below meth c A D cC cI a0_0 a0_1 a0_2 a0_3 a0_4 a0_5 a0_6 a0_7 out (f_Model_format_126  ) := by
  obtain ⟨hx, hb, hml, hown, htB, ⟨hK, hN⟩, hZ, hA, hr, hlocks⟩ := id X
  intro v0 x4 x5 x6 ls H locs h hl hP hD hS
  refine lv_aload_n hx hb d_Model_format_126 rfl (lv_at hl 0 rfl) ?_
  refine lv_aload_n hx hb d_Model_format_127 rfl (lv_at hl 0 rfl) ?_
  refine va_get (D := D) (ci := 11) (v := .ref a0_5) (C := R_Model) (T := F_Model) (N := 23) hx hb htB in_Model hown hK hP 0 rfl rfl 8 (by decide) (htB _ b_330) (fun _ h9 => h9) rfl d_Model_format_128 ?_
  refine lv_iconst (v := 2) hx hb d_Model_format_131 (by decide) ?_
  refine va_iald hx hb hK hP 5 1 rfl rfl (show ¬ (((2 : Int32) : Int32) < 0 ∨ 7 ≤ ((2 : Int32) : Int32).toNatClampNeg) by decide) d_Model_format_132 ?_
  refine lv_iload hx hb d_Model_format_133 (lv_at hl 1 rfl) ?_
  obtain ⟨o135, ho135, h⟩ := x_bnd h
  refine x_calli (r0 := o135.1) (ws2 := (wd_Model_format cC cI a0_0 a0_1 a0_2 a0_3 a0_4 a0_5 a0_6 a0_7 o135.2)) (x_runV (As := [.int (v0.2.2.2.2.2.2.2.2.1 (2 : Int32).toNatClampNeg), .int x4]) (rest := []) X (c_Model_round l D cC cI H.size a0_0 a0_1 a0_2 a0_3 a0_4 a0_5 a0_6 a0_7 v0 (v0.2.2.2.2.2.2.2.2.1 (2 : Int32).toNatClampNeg) x4 o135 ho135) b_406 2 (htB _ b_409) (htB _ b_407) (htB _ b_408) (htB _ b_319) ⟨by decide, by decide, by decide +kernel⟩ ⟨(Nat.le_of_ble_eq_true rfl), (Nat.le_of_ble_eq_true rfl)⟩ 0 rfl rfl hP hD hS [0, 1, 2, 3, 4, 5, 6, 7] rfl (by decide) rfl rfl hl.1 rfl rfl (Nat.le_of_ble_eq_true rfl) d_Model_format_135) hP hD hS hA [0, 1, 2, 3, 4, 5, 6, 7] [] [0, 1, 2, 3, 4, 5, 6, 7] rfl rfl (by decide) (by decide) rfl (by decide) (fun H locs hP hD hS => ?_)
  refine lv_if_ne (tgt := 144) hx hb d_Model_format_138 rfl (fun hc => ?_) (fun hc => ?_)
  · have h := (if_neg hc).symm.trans h
    refine lv_aload_n hx hb d_Model_format_144 rfl (lv_at hl 0 rfl) ?_
    refine va_get (D := D) (ci := 11) (v := .ref a0_5) (C := R_Model) (T := F_Model) (N := 23) hx hb htB in_Model hown hK hP 0 rfl rfl 8 (by decide) (htB _ b_330) (fun _ h9 => h9) rfl d_Model_format_145 ?_
    refine lv_iconst (v := 4) hx hb d_Model_format_148 (by decide) ?_
    refine va_iald hx hb hK hP 5 1 rfl rfl (show ¬ (((4 : Int32) : Int32) < 0 ∨ 7 ≤ ((4 : Int32) : Int32).toNatClampNeg) by decide) d_Model_format_149 ?_
    refine lv_if_le (tgt := 181) hx hb d_Model_format_150 rfl (fun hc => ?_) (fun hc => ?_)
    · have h := (if_pos hc).symm.trans h
      exact w_Model_format_181 X o135.2 x4 x6 ls H locs h (lv_sub hl [0, 1, 3] rfl) hP hD hS
    have h := (if_neg hc).symm.trans h
    refine lv_aload_n hx hb d_Model_format_153 rfl (lv_at hl 0 rfl) ?_
    refine va_get (D := D) (ci := 11) (v := .int o135.2.2.2.2.2.2.2.2.2.2.2.2.2.2.2.1) (C := R_Model) (T := F_Model) (N := 23) hx hb htB in_Model hown hK hP 0 rfl rfl 14 (by decide) (htB _ b_382) (fun _ h9 => h9) rfl d_Model_format_154 ?_
    refine lv_if_le (tgt := 181) hx hb d_Model_format_157 rfl (fun hc => ?_) (fun hc => ?_)
    · have h := (if_pos hc).symm.trans h
      exact w_Model_format_181 X o135.2 x4 x6 ls H locs h (lv_sub hl [0, 1, 3] rfl) hP hD hS
    have h := (if_neg hc).symm.trans h
    refine lv_aload_n hx hb d_Model_format_160 rfl (lv_at hl 0 rfl) ?_
    refine va_get (D := D) (ci := 11) (v := .int o135.2.2.2.2.2.2.2.2.2.2.2.2.2.2.2.2.1) (C := R_Model) (T := F_Model) (N := 23) hx hb htB in_Model hown hK hP 0 rfl rfl 15 (by decide) (htB _ b_386) (fun _ h9 => h9) rfl d_Model_format_161 ?_
    refine lv_iload hx hb d_Model_format_164 (lv_at hl 2 rfl) ?_
    refine lv_icmp_le (tgt := 181) hx hb d_Model_format_166 rfl (fun hc => ?_) (fun hc => ?_)
    · have h := (if_pos hc).symm.trans h
      exact w_Model_format_181 X o135.2 x4 x6 ls H locs h (lv_sub hl [0, 1, 3] rfl) hP hD hS
    have h := (if_neg hc).symm.trans h
    refine lv_iload hx hb d_Model_format_169 (lv_at hl 3 rfl) ?_
    refine lv_iconst (v := 1) hx hb d_Model_format_171 (by decide) ?_
    refine lv_iadd hx hb d_Model_format_172 ?_
    refine lv_istore (lv' := [(6, .int (x6 + (1 : Int32))), (0, .ref a0_0), (4, .int x4), (5, .int x5)]) hx hb d_Model_format_173 hl (by decide) rfl (fun ls hl => ?_)
    refine lv_aload_n hx hb d_Model_format_175 rfl (lv_at hl 1 rfl) ?_
    refine lv_iload hx hb d_Model_format_176 (lv_at hl 3 rfl) ?_
    refine va_put (D := D) (ci := 11) (v := .int x5) (ty := .int) (C := R_Model) (T := F_Model) (N := 23) hx hb htB in_Model t_Model t_Model_ok n_Model hown hK hP hD hS 0 rfl rfl 15 (by decide) (htB _ b_386) (fun _ h9 => h9) rfl (by decide +kernel) rfl rfl (Nat.le_of_ble_eq_true rfl) d_Model_format_178 (fun H locs hP hD hS => ?_)
    have hP : va_P D classes (wd_Model_format cC cI a0_0 a0_1 a0_2 a0_3 a0_4 a0_5 a0_6 a0_7 (o135.2.1, o135.2.2.1, o135.2.2.2.1, o135.2.2.2.2.1, o135.2.2.2.2.2.1, o135.2.2.2.2.2.2.1, o135.2.2.2.2.2.2.2.1, o135.2.2.2.2.2.2.2.2.1, o135.2.2.2.2.2.2.2.2.2.1, o135.2.2.2.2.2.2.2.2.2.2.1, o135.2.2.2.2.2.2.2.2.2.2.2.1, o135.2.2.2.2.2.2.2.2.2.2.2.2.1, o135.2.2.2.2.2.2.2.2.2.2.2.2.2.1, o135.2.2.2.2.2.2.2.2.2.2.2.2.2.2.1, o135.2.2.2.2.2.2.2.2.2.2.2.2.2.2.2.1, x5, o135.2.2.2.2.2.2.2.2.2.2.2.2.2.2.2.2.2.1, o135.2.2.2.2.2.2.2.2.2.2.2.2.2.2.2.2.2.2.1, o135.2.2.2.2.2.2.2.2.2.2.2.2.2.2.2.2.2.2.2.1, o135.2.2.2.2.2.2.2.2.2.2.2.2.2.2.2.2.2.2.2.2.1, o135.2.2.2.2.2.2.2.2.2.2.2.2.2.2.2.2.2.2.2.2.2.1, o135.2.2.2.2.2.2.2.2.2.2.2.2.2.2.2.2.2.2.2.2.2.2.1, o135.2.2.2.2.2.2.2.2.2.2.2.2.2.2.2.2.2.2.2.2.2.2.2)) H := hP
    have hD : va_D A (wd_Model_format cC cI a0_0 a0_1 a0_2 a0_3 a0_4 a0_5 a0_6 a0_7 (o135.2.1, o135.2.2.1, o135.2.2.2.1, o135.2.2.2.2.1, o135.2.2.2.2.2.1, o135.2.2.2.2.2.2.1, o135.2.2.2.2.2.2.2.1, o135.2.2.2.2.2.2.2.2.1, o135.2.2.2.2.2.2.2.2.2.1, o135.2.2.2.2.2.2.2.2.2.2.1, o135.2.2.2.2.2.2.2.2.2.2.2.1, o135.2.2.2.2.2.2.2.2.2.2.2.2.1, o135.2.2.2.2.2.2.2.2.2.2.2.2.2.1, o135.2.2.2.2.2.2.2.2.2.2.2.2.2.2.1, o135.2.2.2.2.2.2.2.2.2.2.2.2.2.2.2.1, x5, o135.2.2.2.2.2.2.2.2.2.2.2.2.2.2.2.2.2.1, o135.2.2.2.2.2.2.2.2.2.2.2.2.2.2.2.2.2.2.1, o135.2.2.2.2.2.2.2.2.2.2.2.2.2.2.2.2.2.2.2.1, o135.2.2.2.2.2.2.2.2.2.2.2.2.2.2.2.2.2.2.2.2.1, o135.2.2.2.2.2.2.2.2.2.2.2.2.2.2.2.2.2.2.2.2.2.1, o135.2.2.2.2.2.2.2.2.2.2.2.2.2.2.2.2.2.2.2.2.2.2.1, o135.2.2.2.2.2.2.2.2.2.2.2.2.2.2.2.2.2.2.2.2.2.2.2)) := hD
    exact w_Model_format_181 X (o135.2.1, o135.2.2.1, o135.2.2.2.1, o135.2.2.2.2.1, o135.2.2.2.2.2.1, o135.2.2.2.2.2.2.1, o135.2.2.2.2.2.2.2.1, o135.2.2.2.2.2.2.2.2.1, o135.2.2.2.2.2.2.2.2.2.1, o135.2.2.2.2.2.2.2.2.2.2.1, o135.2.2.2.2.2.2.2.2.2.2.2.1, o135.2.2.2.2.2.2.2.2.2.2.2.2.1, o135.2.2.2.2.2.2.2.2.2.2.2.2.2.1, o135.2.2.2.2.2.2.2.2.2.2.2.2.2.2.1, o135.2.2.2.2.2.2.2.2.2.2.2.2.2.2.2.1, x5, o135.2.2.2.2.2.2.2.2.2.2.2.2.2.2.2.2.2.1, o135.2.2.2.2.2.2.2.2.2.2.2.2.2.2.2.2.2.2.1, o135.2.2.2.2.2.2.2.2.2.2.2.2.2.2.2.2.2.2.2.1, o135.2.2.2.2.2.2.2.2.2.2.2.2.2.2.2.2.2.2.2.2.1, o135.2.2.2.2.2.2.2.2.2.2.2.2.2.2.2.2.2.2.2.2.2.1, o135.2.2.2.2.2.2.2.2.2.2.2.2.2.2.2.2.2.2.2.2.2.2.1, o135.2.2.2.2.2.2.2.2.2.2.2.2.2.2.2.2.2.2.2.2.2.2.2) x4 (x6 + (1 : Int32)) ls H locs h (lv_sub hl [1, 2, 0] rfl) hP hD hS
  have h := (if_pos hc).symm.trans h
  refine lv_bipush (v := -3) hx hb d_Model_format_141 (by decide) ?_
  obtain rfl := Option.some.inj h
  exact W.iret (v := (-3 : Int32)) hx hb hr (fun t ht hW => ⟨⟨(-3 : Int32), (), rfl, rfl, by rw [ht]; exact hP, hD⟩, hS.F ht⟩) hS.2.2 d_Model_format_143 hlocks

def f_Model_format_63 (v0 : T_Model) (x3 : Int32) (x4 : Int32) (s1 : Int64) : Option O_Model_format := (f_Model_lay v0 (s1 * (v0.2.2.2.2.2.2.2.2.1 (5 : Int32).toNatClampNeg).toInt64)).bind (fun o71 => (if (o71.2.2.2.2.2.2.2.2.1 (4 : Int32).toNatClampNeg) ≤ 0 then f_Model_format_126 (o71.1, o71.2.1, o71.2.2.1, o71.2.2.2.1, o71.2.2.2.2.1, o71.2.2.2.2.2.1, o71.2.2.2.2.2.2.1, o71.2.2.2.2.2.2.2.1, o71.2.2.2.2.2.2.2.2.1, o71.2.2.2.2.2.2.2.2.2.1, o71.2.2.2.2.2.2.2.2.2.2.1, o71.2.2.2.2.2.2.2.2.2.2.2.1, o71.2.2.2.2.2.2.2.2.2.2.2.2.1, o71.2.2.2.2.2.2.2.2.2.2.2.2.2.1, o71.2.2.2.2.2.2.2.2.2.2.2.2.2.2.1, (o71.2.2.2.2.2.2.2.2.2.2.2.2.2.2.1 - x3), o71.2.2.2.2.2.2.2.2.2.2.2.2.2.2.2.2.1, o71.2.2.2.2.2.2.2.2.2.2.2.2.2.2.2.2.2.1, o71.2.2.2.2.2.2.2.2.2.2.2.2.2.2.2.2.2.2.1, o71.2.2.2.2.2.2.2.2.2.2.2.2.2.2.2.2.2.2.2.1, o71.2.2.2.2.2.2.2.2.2.2.2.2.2.2.2.2.2.2.2.2.1, o71.2.2.2.2.2.2.2.2.2.2.2.2.2.2.2.2.2.2.2.2.2.1, o71.2.2.2.2.2.2.2.2.2.2.2.2.2.2.2.2.2.2.2.2.2.2) x4 (o71.2.2.2.2.2.2.2.2.1 (0 : Int32).toNatClampNeg) (0 : Int32) else (if o71.2.2.2.2.2.2.2.2.2.2.2.2.2.2.1 ≤ 0 then f_Model_format_126 (o71.1, o71.2.1, o71.2.2.1, o71.2.2.2.1, o71.2.2.2.2.1, o71.2.2.2.2.2.1, o71.2.2.2.2.2.2.1, o71.2.2.2.2.2.2.2.1, o71.2.2.2.2.2.2.2.2.1, o71.2.2.2.2.2.2.2.2.2.1, o71.2.2.2.2.2.2.2.2.2.2.1, o71.2.2.2.2.2.2.2.2.2.2.2.1, o71.2.2.2.2.2.2.2.2.2.2.2.2.1, o71.2.2.2.2.2.2.2.2.2.2.2.2.2.1, o71.2.2.2.2.2.2.2.2.2.2.2.2.2.2.1, (o71.2.2.2.2.2.2.2.2.2.2.2.2.2.2.1 - x3), o71.2.2.2.2.2.2.2.2.2.2.2.2.2.2.2.2.1, o71.2.2.2.2.2.2.2.2.2.2.2.2.2.2.2.2.2.1, o71.2.2.2.2.2.2.2.2.2.2.2.2.2.2.2.2.2.2.1, o71.2.2.2.2.2.2.2.2.2.2.2.2.2.2.2.2.2.2.2.1, o71.2.2.2.2.2.2.2.2.2.2.2.2.2.2.2.2.2.2.2.2.1, o71.2.2.2.2.2.2.2.2.2.2.2.2.2.2.2.2.2.2.2.2.2.1, o71.2.2.2.2.2.2.2.2.2.2.2.2.2.2.2.2.2.2.2.2.2.2) x4 (o71.2.2.2.2.2.2.2.2.1 (0 : Int32).toNatClampNeg) (0 : Int32) else f_Model_format_126 (o71.1, o71.2.1, o71.2.2.1, o71.2.2.2.1, o71.2.2.2.2.1, o71.2.2.2.2.2.1, o71.2.2.2.2.2.2.1, o71.2.2.2.2.2.2.2.1, o71.2.2.2.2.2.2.2.2.1, o71.2.2.2.2.2.2.2.2.2.1, o71.2.2.2.2.2.2.2.2.2.2.1, o71.2.2.2.2.2.2.2.2.2.2.2.1, o71.2.2.2.2.2.2.2.2.2.2.2.2.1, o71.2.2.2.2.2.2.2.2.2.2.2.2.2.1, o71.2.2.2.2.2.2.2.2.2.2.2.2.2.2.1, (o71.2.2.2.2.2.2.2.2.1 (0 : Int32).toNatClampNeg), o71.2.2.2.2.2.2.2.2.2.2.2.2.2.2.2.2.1, o71.2.2.2.2.2.2.2.2.2.2.2.2.2.2.2.2.2.1, o71.2.2.2.2.2.2.2.2.2.2.2.2.2.2.2.2.2.2.1, o71.2.2.2.2.2.2.2.2.2.2.2.2.2.2.2.2.2.2.2.1, o71.2.2.2.2.2.2.2.2.2.2.2.2.2.2.2.2.2.2.2.2.1, o71.2.2.2.2.2.2.2.2.2.2.2.2.2.2.2.2.2.2.2.2.2.1, o71.2.2.2.2.2.2.2.2.2.2.2.2.2.2.2.2.2.2.2.2.2.2) x4 (o71.2.2.2.2.2.2.2.2.1 (0 : Int32).toNatClampNeg) ((o71.2.2.2.2.2.2.2.2.2.2.2.2.2.2.1 - x3) - (o71.2.2.2.2.2.2.2.2.1 (0 : Int32).toNatClampNeg)))))
set_option maxHeartbeats 4000000 in
set_option maxRecDepth 100000 in
theorem w_Model_format_63 {p : Program} {l : Launch} {e : Env} {s : State} {m : MethodId} {args : Array Value} {below : List Frame} {meth : Method} {c : Code} {A : Nat → Prop} {D : va_G} {cC cI : ClassId} {a0_0 a0_1 a0_2 a0_3 a0_4 a0_5 a0_6 a0_7 : Nat} (X : xCX p s m args meth c A D cC cI b_Model_format 9 R_Model (some .int)) {out : O_Model_format}   : J_Model_format_63 p l e s m args below meth c A D cC cI a0_0 a0_1 a0_2 a0_3 a0_4 a0_5 a0_6 a0_7 out (f_Model_format_63  ) := by
  obtain ⟨hx, hb, hml, hown, htB, ⟨hK, hN⟩, hZ, hA, hr, hlocks⟩ := id X
  intro v0 x3 x4 s1 ls H locs h hl hP hD hS
  refine lv_aload_n hx hb d_Model_format_63 rfl (lv_at hl 0 rfl) ?_
  refine va_get (D := D) (ci := 11) (v := .ref a0_5) (C := R_Model) (T := F_Model) (N := 23) hx hb htB in_Model hown hK hP 0 rfl rfl 8 (by decide) (htB _ b_330) (fun _ h9 => h9) rfl d_Model_format_64 ?_
  refine lv_iconst (v := 5) hx hb d_Model_format_67 (by decide) ?_
  refine va_iald hx hb hK hP 5 1 rfl rfl (show ¬ (((5 : Int32) : Int32) < 0 ∨ 7 ≤ ((5 : Int32) : Int32).toNatClampNeg) by decide) d_Model_format_68 ?_
  refine lv_i2l hx hb d_Model_format_69 rfl ?_
  refine lv_lmul hx hb d_Model_format_70 ?_
  obtain ⟨o71, ho71, h⟩ := x_bnd h
  refine x_callv (ws2 := (wd_Model_format cC cI a0_0 a0_1 a0_2 a0_3 a0_4 a0_5 a0_6 a0_7 o71)) (x_runV (As := [.long (s1 * (v0.2.2.2.2.2.2.2.2.1 (5 : Int32).toNatClampNeg).toInt64)]) (rest := []) X (c_Model_lay l D cC cI H.size a0_0 a0_1 a0_2 a0_3 a0_4 a0_5 a0_6 a0_7 v0 (s1 * (v0.2.2.2.2.2.2.2.2.1 (5 : Int32).toNatClampNeg).toInt64) o71 ho71) b_402 1 (htB _ b_405) (htB _ b_403) (htB _ b_404) (htB _ b_319) ⟨by decide, by decide, by decide +kernel⟩ ⟨(Nat.le_of_ble_eq_true rfl), (Nat.le_of_ble_eq_true rfl)⟩ 0 rfl rfl hP hD hS [0, 1, 2, 3, 4, 5, 6, 7] rfl (by decide) rfl rfl hl.1 rfl rfl (Nat.le_of_ble_eq_true rfl) d_Model_format_71) hP hD hS hA [0, 1, 2, 3, 4, 5, 6, 7] [] [0, 1, 2, 3, 4, 5, 6, 7] rfl rfl (by decide) (by decide) rfl (by decide) (fun H locs hP hD hS => ?_)
  refine lv_aload_n hx hb d_Model_format_74 rfl (lv_at hl 0 rfl) ?_
  refine va_get (D := D) (ci := 11) (v := .ref a0_5) (C := R_Model) (T := F_Model) (N := 23) hx hb htB in_Model hown hK hP 0 rfl rfl 8 (by decide) (htB _ b_330) (fun _ h9 => h9) rfl d_Model_format_75 ?_
  refine lv_iconst (v := 0) hx hb d_Model_format_78 (by decide) ?_
  refine va_iald hx hb hK hP 5 1 rfl rfl (show ¬ (((0 : Int32) : Int32) < 0 ∨ 7 ≤ ((0 : Int32) : Int32).toNatClampNeg) by decide) d_Model_format_79 ?_
  refine lv_istore (lv' := [(5, .int (o71.2.2.2.2.2.2.2.2.1 (0 : Int32).toNatClampNeg)), (0, .ref a0_0), (3, .int x3), (4, .int x4)]) hx hb d_Model_format_80 hl (by decide) rfl (fun ls hl => ?_)
  refine lv_iconst (v := 0) hx hb d_Model_format_82 (by decide) ?_
  refine lv_istore (lv' := [(6, .int (0 : Int32)), (5, .int (o71.2.2.2.2.2.2.2.2.1 (0 : Int32).toNatClampNeg)), (0, .ref a0_0), (3, .int x3), (4, .int x4)]) hx hb d_Model_format_83 hl (by decide) rfl (fun ls hl => ?_)
  refine lv_aload_n hx hb d_Model_format_85 rfl (lv_at hl 2 rfl) ?_
  refine lv_aload_n hx hb d_Model_format_86 rfl (lv_at hl 2 rfl) ?_
  refine va_get (D := D) (ci := 11) (v := .int o71.2.2.2.2.2.2.2.2.2.2.2.2.2.2.1) (C := R_Model) (T := F_Model) (N := 23) hx hb htB in_Model hown hK hP 0 rfl rfl 14 (by decide) (htB _ b_382) (fun _ h9 => h9) rfl d_Model_format_87 ?_
  refine lv_iload_n hx hb d_Model_format_90 rfl (lv_at hl 3 rfl) ?_
  refine lv_isub hx hb d_Model_format_91 ?_
  refine va_put (D := D) (ci := 11) (v := .int (o71.2.2.2.2.2.2.2.2.2.2.2.2.2.2.1 - x3)) (ty := .int) (C := R_Model) (T := F_Model) (N := 23) hx hb htB in_Model t_Model t_Model_ok n_Model hown hK hP hD hS 0 rfl rfl 15 (by decide) (htB _ b_386) (fun _ h9 => h9) rfl (by decide +kernel) rfl rfl (Nat.le_of_ble_eq_true rfl) d_Model_format_92 (fun H locs hP hD hS => ?_)
  have hP : va_P D classes (wd_Model_format cC cI a0_0 a0_1 a0_2 a0_3 a0_4 a0_5 a0_6 a0_7 (o71.1, o71.2.1, o71.2.2.1, o71.2.2.2.1, o71.2.2.2.2.1, o71.2.2.2.2.2.1, o71.2.2.2.2.2.2.1, o71.2.2.2.2.2.2.2.1, o71.2.2.2.2.2.2.2.2.1, o71.2.2.2.2.2.2.2.2.2.1, o71.2.2.2.2.2.2.2.2.2.2.1, o71.2.2.2.2.2.2.2.2.2.2.2.1, o71.2.2.2.2.2.2.2.2.2.2.2.2.1, o71.2.2.2.2.2.2.2.2.2.2.2.2.2.1, o71.2.2.2.2.2.2.2.2.2.2.2.2.2.2.1, (o71.2.2.2.2.2.2.2.2.2.2.2.2.2.2.1 - x3), o71.2.2.2.2.2.2.2.2.2.2.2.2.2.2.2.2.1, o71.2.2.2.2.2.2.2.2.2.2.2.2.2.2.2.2.2.1, o71.2.2.2.2.2.2.2.2.2.2.2.2.2.2.2.2.2.2.1, o71.2.2.2.2.2.2.2.2.2.2.2.2.2.2.2.2.2.2.2.1, o71.2.2.2.2.2.2.2.2.2.2.2.2.2.2.2.2.2.2.2.2.1, o71.2.2.2.2.2.2.2.2.2.2.2.2.2.2.2.2.2.2.2.2.2.1, o71.2.2.2.2.2.2.2.2.2.2.2.2.2.2.2.2.2.2.2.2.2.2)) H := hP
  have hD : va_D A (wd_Model_format cC cI a0_0 a0_1 a0_2 a0_3 a0_4 a0_5 a0_6 a0_7 (o71.1, o71.2.1, o71.2.2.1, o71.2.2.2.1, o71.2.2.2.2.1, o71.2.2.2.2.2.1, o71.2.2.2.2.2.2.1, o71.2.2.2.2.2.2.2.1, o71.2.2.2.2.2.2.2.2.1, o71.2.2.2.2.2.2.2.2.2.1, o71.2.2.2.2.2.2.2.2.2.2.1, o71.2.2.2.2.2.2.2.2.2.2.2.1, o71.2.2.2.2.2.2.2.2.2.2.2.2.1, o71.2.2.2.2.2.2.2.2.2.2.2.2.2.1, o71.2.2.2.2.2.2.2.2.2.2.2.2.2.2.1, (o71.2.2.2.2.2.2.2.2.2.2.2.2.2.2.1 - x3), o71.2.2.2.2.2.2.2.2.2.2.2.2.2.2.2.2.1, o71.2.2.2.2.2.2.2.2.2.2.2.2.2.2.2.2.2.1, o71.2.2.2.2.2.2.2.2.2.2.2.2.2.2.2.2.2.2.1, o71.2.2.2.2.2.2.2.2.2.2.2.2.2.2.2.2.2.2.2.1, o71.2.2.2.2.2.2.2.2.2.2.2.2.2.2.2.2.2.2.2.2.1, o71.2.2.2.2.2.2.2.2.2.2.2.2.2.2.2.2.2.2.2.2.2.1, o71.2.2.2.2.2.2.2.2.2.2.2.2.2.2.2.2.2.2.2.2.2.2)) := hD
  refine lv_aload_n hx hb d_Model_format_95 rfl (lv_at hl 2 rfl) ?_
  refine va_get (D := D) (ci := 11) (v := .ref a0_5) (C := R_Model) (T := F_Model) (N := 23) hx hb htB in_Model hown hK hP 0 rfl rfl 8 (by decide) (htB _ b_330) (fun _ h9 => h9) rfl d_Model_format_96 ?_
  refine lv_iconst (v := 4) hx hb d_Model_format_99 (by decide) ?_
  refine va_iald hx hb hK hP 5 1 rfl rfl (show ¬ (((4 : Int32) : Int32) < 0 ∨ 7 ≤ ((4 : Int32) : Int32).toNatClampNeg) by decide) d_Model_format_100 ?_
  refine lv_if_le (tgt := 126) hx hb d_Model_format_101 rfl (fun hc => ?_) (fun hc => ?_)
  · have h := (if_pos hc).symm.trans h
    exact w_Model_format_126 X (o71.1, o71.2.1, o71.2.2.1, o71.2.2.2.1, o71.2.2.2.2.1, o71.2.2.2.2.2.1, o71.2.2.2.2.2.2.1, o71.2.2.2.2.2.2.2.1, o71.2.2.2.2.2.2.2.2.1, o71.2.2.2.2.2.2.2.2.2.1, o71.2.2.2.2.2.2.2.2.2.2.1, o71.2.2.2.2.2.2.2.2.2.2.2.1, o71.2.2.2.2.2.2.2.2.2.2.2.2.1, o71.2.2.2.2.2.2.2.2.2.2.2.2.2.1, o71.2.2.2.2.2.2.2.2.2.2.2.2.2.2.1, (o71.2.2.2.2.2.2.2.2.2.2.2.2.2.2.1 - x3), o71.2.2.2.2.2.2.2.2.2.2.2.2.2.2.2.2.1, o71.2.2.2.2.2.2.2.2.2.2.2.2.2.2.2.2.2.1, o71.2.2.2.2.2.2.2.2.2.2.2.2.2.2.2.2.2.2.1, o71.2.2.2.2.2.2.2.2.2.2.2.2.2.2.2.2.2.2.2.1, o71.2.2.2.2.2.2.2.2.2.2.2.2.2.2.2.2.2.2.2.2.1, o71.2.2.2.2.2.2.2.2.2.2.2.2.2.2.2.2.2.2.2.2.2.1, o71.2.2.2.2.2.2.2.2.2.2.2.2.2.2.2.2.2.2.2.2.2.2) x4 (o71.2.2.2.2.2.2.2.2.1 (0 : Int32).toNatClampNeg) (0 : Int32) ls H locs h (lv_sub hl [2, 4, 1, 0] rfl) hP hD hS
  have h := (if_neg hc).symm.trans h
  refine lv_aload_n hx hb d_Model_format_104 rfl (lv_at hl 2 rfl) ?_
  refine va_get (D := D) (ci := 11) (v := .int o71.2.2.2.2.2.2.2.2.2.2.2.2.2.2.1) (C := R_Model) (T := F_Model) (N := 23) hx hb htB in_Model hown hK hP 0 rfl rfl 14 (by decide) (htB _ b_382) (fun _ h9 => h9) rfl d_Model_format_105 ?_
  refine lv_if_le (tgt := 126) hx hb d_Model_format_108 rfl (fun hc => ?_) (fun hc => ?_)
  · have h := (if_pos hc).symm.trans h
    exact w_Model_format_126 X (o71.1, o71.2.1, o71.2.2.1, o71.2.2.2.1, o71.2.2.2.2.1, o71.2.2.2.2.2.1, o71.2.2.2.2.2.2.1, o71.2.2.2.2.2.2.2.1, o71.2.2.2.2.2.2.2.2.1, o71.2.2.2.2.2.2.2.2.2.1, o71.2.2.2.2.2.2.2.2.2.2.1, o71.2.2.2.2.2.2.2.2.2.2.2.1, o71.2.2.2.2.2.2.2.2.2.2.2.2.1, o71.2.2.2.2.2.2.2.2.2.2.2.2.2.1, o71.2.2.2.2.2.2.2.2.2.2.2.2.2.2.1, (o71.2.2.2.2.2.2.2.2.2.2.2.2.2.2.1 - x3), o71.2.2.2.2.2.2.2.2.2.2.2.2.2.2.2.2.1, o71.2.2.2.2.2.2.2.2.2.2.2.2.2.2.2.2.2.1, o71.2.2.2.2.2.2.2.2.2.2.2.2.2.2.2.2.2.2.1, o71.2.2.2.2.2.2.2.2.2.2.2.2.2.2.2.2.2.2.2.1, o71.2.2.2.2.2.2.2.2.2.2.2.2.2.2.2.2.2.2.2.2.1, o71.2.2.2.2.2.2.2.2.2.2.2.2.2.2.2.2.2.2.2.2.2.1, o71.2.2.2.2.2.2.2.2.2.2.2.2.2.2.2.2.2.2.2.2.2.2) x4 (o71.2.2.2.2.2.2.2.2.1 (0 : Int32).toNatClampNeg) (0 : Int32) ls H locs h (lv_sub hl [2, 4, 1, 0] rfl) hP hD hS
  have h := (if_neg hc).symm.trans h
  refine lv_aload_n hx hb d_Model_format_111 rfl (lv_at hl 2 rfl) ?_
  refine va_get (D := D) (ci := 11) (v := .int (o71.2.2.2.2.2.2.2.2.2.2.2.2.2.2.1 - x3)) (C := R_Model) (T := F_Model) (N := 23) hx hb htB in_Model hown hK hP 0 rfl rfl 15 (by decide) (htB _ b_386) (fun _ h9 => h9) rfl d_Model_format_112 ?_
  refine lv_iload hx hb d_Model_format_115 (lv_at hl 1 rfl) ?_
  refine lv_isub hx hb d_Model_format_117 ?_
  refine lv_istore (lv' := [(6, .int ((o71.2.2.2.2.2.2.2.2.2.2.2.2.2.2.1 - x3) - (o71.2.2.2.2.2.2.2.2.1 (0 : Int32).toNatClampNeg))), (5, .int (o71.2.2.2.2.2.2.2.2.1 (0 : Int32).toNatClampNeg)), (0, .ref a0_0), (3, .int x3), (4, .int x4)]) hx hb d_Model_format_118 hl (by decide) rfl (fun ls hl => ?_)
  refine lv_aload_n hx hb d_Model_format_120 rfl (lv_at hl 2 rfl) ?_
  refine lv_iload hx hb d_Model_format_121 (lv_at hl 1 rfl) ?_
  refine va_put (D := D) (ci := 11) (v := .int (o71.2.2.2.2.2.2.2.2.1 (0 : Int32).toNatClampNeg)) (ty := .int) (C := R_Model) (T := F_Model) (N := 23) hx hb htB in_Model t_Model t_Model_ok n_Model hown hK hP hD hS 0 rfl rfl 15 (by decide) (htB _ b_386) (fun _ h9 => h9) rfl (by decide +kernel) rfl rfl (Nat.le_of_ble_eq_true rfl) d_Model_format_123 (fun H locs hP hD hS => ?_)
  have hP : va_P D classes (wd_Model_format cC cI a0_0 a0_1 a0_2 a0_3 a0_4 a0_5 a0_6 a0_7 (o71.1, o71.2.1, o71.2.2.1, o71.2.2.2.1, o71.2.2.2.2.1, o71.2.2.2.2.2.1, o71.2.2.2.2.2.2.1, o71.2.2.2.2.2.2.2.1, o71.2.2.2.2.2.2.2.2.1, o71.2.2.2.2.2.2.2.2.2.1, o71.2.2.2.2.2.2.2.2.2.2.1, o71.2.2.2.2.2.2.2.2.2.2.2.1, o71.2.2.2.2.2.2.2.2.2.2.2.2.1, o71.2.2.2.2.2.2.2.2.2.2.2.2.2.1, o71.2.2.2.2.2.2.2.2.2.2.2.2.2.2.1, (o71.2.2.2.2.2.2.2.2.1 (0 : Int32).toNatClampNeg), o71.2.2.2.2.2.2.2.2.2.2.2.2.2.2.2.2.1, o71.2.2.2.2.2.2.2.2.2.2.2.2.2.2.2.2.2.1, o71.2.2.2.2.2.2.2.2.2.2.2.2.2.2.2.2.2.2.1, o71.2.2.2.2.2.2.2.2.2.2.2.2.2.2.2.2.2.2.2.1, o71.2.2.2.2.2.2.2.2.2.2.2.2.2.2.2.2.2.2.2.2.1, o71.2.2.2.2.2.2.2.2.2.2.2.2.2.2.2.2.2.2.2.2.2.1, o71.2.2.2.2.2.2.2.2.2.2.2.2.2.2.2.2.2.2.2.2.2.2)) H := hP
  have hD : va_D A (wd_Model_format cC cI a0_0 a0_1 a0_2 a0_3 a0_4 a0_5 a0_6 a0_7 (o71.1, o71.2.1, o71.2.2.1, o71.2.2.2.1, o71.2.2.2.2.1, o71.2.2.2.2.2.1, o71.2.2.2.2.2.2.1, o71.2.2.2.2.2.2.2.1, o71.2.2.2.2.2.2.2.2.1, o71.2.2.2.2.2.2.2.2.2.1, o71.2.2.2.2.2.2.2.2.2.2.1, o71.2.2.2.2.2.2.2.2.2.2.2.1, o71.2.2.2.2.2.2.2.2.2.2.2.2.1, o71.2.2.2.2.2.2.2.2.2.2.2.2.2.1, o71.2.2.2.2.2.2.2.2.2.2.2.2.2.2.1, (o71.2.2.2.2.2.2.2.2.1 (0 : Int32).toNatClampNeg), o71.2.2.2.2.2.2.2.2.2.2.2.2.2.2.2.2.1, o71.2.2.2.2.2.2.2.2.2.2.2.2.2.2.2.2.2.1, o71.2.2.2.2.2.2.2.2.2.2.2.2.2.2.2.2.2.2.1, o71.2.2.2.2.2.2.2.2.2.2.2.2.2.2.2.2.2.2.2.1, o71.2.2.2.2.2.2.2.2.2.2.2.2.2.2.2.2.2.2.2.2.1, o71.2.2.2.2.2.2.2.2.2.2.2.2.2.2.2.2.2.2.2.2.2.1, o71.2.2.2.2.2.2.2.2.2.2.2.2.2.2.2.2.2.2.2.2.2.2)) := hD
  exact w_Model_format_126 X (o71.1, o71.2.1, o71.2.2.1, o71.2.2.2.1, o71.2.2.2.2.1, o71.2.2.2.2.2.1, o71.2.2.2.2.2.2.1, o71.2.2.2.2.2.2.2.1, o71.2.2.2.2.2.2.2.2.1, o71.2.2.2.2.2.2.2.2.2.1, o71.2.2.2.2.2.2.2.2.2.2.1, o71.2.2.2.2.2.2.2.2.2.2.2.1, o71.2.2.2.2.2.2.2.2.2.2.2.2.1, o71.2.2.2.2.2.2.2.2.2.2.2.2.2.1, o71.2.2.2.2.2.2.2.2.2.2.2.2.2.2.1, (o71.2.2.2.2.2.2.2.2.1 (0 : Int32).toNatClampNeg), o71.2.2.2.2.2.2.2.2.2.2.2.2.2.2.2.2.1, o71.2.2.2.2.2.2.2.2.2.2.2.2.2.2.2.2.2.1, o71.2.2.2.2.2.2.2.2.2.2.2.2.2.2.2.2.2.2.1, o71.2.2.2.2.2.2.2.2.2.2.2.2.2.2.2.2.2.2.2.1, o71.2.2.2.2.2.2.2.2.2.2.2.2.2.2.2.2.2.2.2.2.1, o71.2.2.2.2.2.2.2.2.2.2.2.2.2.2.2.2.2.2.2.2.2.1, o71.2.2.2.2.2.2.2.2.2.2.2.2.2.2.2.2.2.2.2.2.2.2) x4 (o71.2.2.2.2.2.2.2.2.1 (0 : Int32).toNatClampNeg) ((o71.2.2.2.2.2.2.2.2.2.2.2.2.2.2.1 - x3) - (o71.2.2.2.2.2.2.2.2.1 (0 : Int32).toNatClampNeg)) ls H locs h (lv_sub hl [2, 4, 1, 0] rfl) hP hD hS

def f_Model_format_49 (v0 : T_Model) (x1 : Int64) (x3 : Int32) (s0 : Int32) : Option O_Model_format := (if s0 = 0 then f_Model_format_63 v0 x3 s0 x1 else f_Model_format_63 v0 x3 s0 (-x1))
set_option maxHeartbeats 4000000 in
set_option maxRecDepth 100000 in
theorem w_Model_format_49 {p : Program} {l : Launch} {e : Env} {s : State} {m : MethodId} {args : Array Value} {below : List Frame} {meth : Method} {c : Code} {A : Nat → Prop} {D : va_G} {cC cI : ClassId} {a0_0 a0_1 a0_2 a0_3 a0_4 a0_5 a0_6 a0_7 : Nat} (X : xCX p s m args meth c A D cC cI b_Model_format 9 R_Model (some .int)) {out : O_Model_format}   : J_Model_format_49 p l e s m args below meth c A D cC cI a0_0 a0_1 a0_2 a0_3 a0_4 a0_5 a0_6 a0_7 out (f_Model_format_49  ) := by
  obtain ⟨hx, hb, hml, hown, htB, ⟨hK, hN⟩, hZ, hA, hr, hlocks⟩ := id X
  intro v0 x1 x3 s0 ls H locs h hl hP hD hS
  refine lv_istore (lv' := [(4, .int s0), (0, .ref a0_0), (1, .long x1), (3, .int x3)]) hx hb d_Model_format_49 hl (by decide) rfl (fun ls hl => ?_)
  refine lv_aload_n hx hb d_Model_format_51 rfl (lv_at hl 1 rfl) ?_
  refine lv_iload hx hb d_Model_format_52 (lv_at hl 0 rfl) ?_
  refine lv_if_eq (tgt := 62) hx hb d_Model_format_54 rfl (fun hc => ?_) (fun hc => ?_)
  · have h := (if_pos hc).symm.trans h
    refine lv_lload_n hx hb d_Model_format_62 rfl (lv_at hl 2 rfl) ?_
    exact w_Model_format_63 X v0 x3 s0 x1 ls H locs h (lv_sub hl [1, 3, 0] rfl) hP hD hS
  have h := (if_neg hc).symm.trans h
  refine lv_lload_n hx hb d_Model_format_57 rfl (lv_at hl 2 rfl) ?_
  refine lv_lneg hx hb d_Model_format_58 ?_
  refine lv_goto (tgt := 63) hx hb d_Model_format_59 rfl ?_
  exact w_Model_format_63 X v0 x3 s0 (-x1) ls H locs h (lv_sub hl [1, 3, 0] rfl) hP hD hS

def f_Model_format (v0 : T_Model) (v1 : Int64) (v2 : Int32) : Option O_Model_format := (if v0.2.2.2.2.2.1 = 0 then some ((-1 : Int32), v0) else (if (lg_cmp v1 (-999999999999999 : Int64)) < 0 then f_Model_format_35 v0 else (if 0 < (lg_cmp v1 (999999999999999 : Int64)) then f_Model_format_35 v0 else (if v2 < 0 then f_Model_format_35 v0 else (if v2 ≤ (9 : Int32) then (if 0 ≤ (lg_cmp v1 (0 : Int64)) then f_Model_format_49 v0 v1 v2 (0 : Int32) else f_Model_format_49 v0 v1 v2 (1 : Int32)) else f_Model_format_35 v0)))))
set_option maxHeartbeats 4000000 in
set_option maxRecDepth 100000 in
theorem w_Model_format {p : Program} {l : Launch} {e : Env} {s : State} {m : MethodId} {args : Array Value} {below : List Frame} {meth : Method} {c : Code} {A : Nat → Prop} {D : va_G} {cC cI : ClassId} {a0_0 a0_1 a0_2 a0_3 a0_4 a0_5 a0_6 a0_7 : Nat} (X : xCX p s m args meth c A D cC cI b_Model_format 9 R_Model (some .int)) {out : O_Model_format} (v0 : T_Model) (v1 : Int64) (v2 : Int32) {ls : Array Slot} {H : Heap} {locs : List Loc} (h : f_Model_format v0 v1 v2 = some out) (hl : lv_has ls 9 [(0, .ref a0_0), (1, .long v1), (3, .int v2)]) (hP : va_P D classes (wd_Model_format cC cI a0_0 a0_1 a0_2 a0_3 a0_4 a0_5 a0_6 a0_7 v0) H) (hD : va_D A (wd_Model_format cC cI a0_0 a0_1 a0_2 a0_3 a0_4 a0_5 a0_6 a0_7 v0)) (hS : va_S A s.heap H locs) : W p l e rm_Model_format s m args below meth c H locs 0 0 (MQ below (q_Model_format D cC cI a0_0 a0_1 a0_2 a0_3 a0_4 a0_5 a0_6 a0_7 out A) args s 0 0 A) (F0 m 0 ls []) := by
  obtain ⟨hx, hb, hml, hown, htB, ⟨hK, hN⟩, hZ, hA, hr, hlocks⟩ := id X
  refine lv_aload_n hx hb d_Model_format_0 rfl (lv_at hl 0 rfl) ?_
  refine va_get (D := D) (ci := 11) (v := .int v0.2.2.2.2.2.1) (C := R_Model) (T := F_Model) (N := 23) hx hb htB in_Model hown hK hP 0 rfl rfl 5 (by decide) (htB _ b_360) (fun _ h9 => h9) rfl d_Model_format_1 ?_
  refine lv_if_ne (tgt := 9) hx hb d_Model_format_4 rfl (fun hc => ?_) (fun hc => ?_)
  · have h := (if_neg hc).symm.trans h
    refine lv_lload_n hx hb d_Model_format_9 rfl (lv_at hl 1 rfl) ?_
    refine lv_ldc2 (v := -999999999999999) hx hb hown (htB _ b_400) d_Model_format_10 ?_
    refine W.lcmp hx hb d_Model_format_13 ?_
    refine lv_if_lt (tgt := 35) hx hb d_Model_format_14 rfl (fun hc => ?_) (fun hc => ?_)
    · have h := (if_pos hc).symm.trans h
      exact w_Model_format_35 X v0 ls H locs h (lv_sub hl [] rfl) hP hD hS
    have h := (if_neg hc).symm.trans h
    refine lv_lload_n hx hb d_Model_format_17 rfl (lv_at hl 1 rfl) ?_
    refine lv_ldc2 (v := 999999999999999) hx hb hown (htB _ b_401) d_Model_format_18 ?_
    refine W.lcmp hx hb d_Model_format_21 ?_
    refine lv_if_gt (tgt := 35) hx hb d_Model_format_22 rfl (fun hc => ?_) (fun hc => ?_)
    · have h := (if_pos hc).symm.trans h
      exact w_Model_format_35 X v0 ls H locs h (lv_sub hl [] rfl) hP hD hS
    have h := (if_neg hc).symm.trans h
    refine lv_iload_n hx hb d_Model_format_25 rfl (lv_at hl 2 rfl) ?_
    refine lv_if_lt (tgt := 35) hx hb d_Model_format_26 rfl (fun hc => ?_) (fun hc => ?_)
    · have h := (if_pos hc).symm.trans h
      exact w_Model_format_35 X v0 ls H locs h (lv_sub hl [] rfl) hP hD hS
    have h := (if_neg hc).symm.trans h
    refine lv_iload_n hx hb d_Model_format_29 rfl (lv_at hl 2 rfl) ?_
    refine lv_bipush (v := 9) hx hb d_Model_format_30 (by decide) ?_
    refine lv_icmp_le (tgt := 38) hx hb d_Model_format_32 rfl (fun hc => ?_) (fun hc => ?_)
    · have h := (if_pos hc).symm.trans h
      refine lv_lload_n hx hb d_Model_format_38 rfl (lv_at hl 1 rfl) ?_
      refine lv_lconst (v := 0) hx hb d_Model_format_39 (by decide) ?_
      refine W.lcmp hx hb d_Model_format_40 ?_
      refine lv_if_ge (tgt := 48) hx hb d_Model_format_41 rfl (fun hc => ?_) (fun hc => ?_)
      · have h := (if_pos hc).symm.trans h
        refine lv_iconst (v := 0) hx hb d_Model_format_48 (by decide) ?_
        exact w_Model_format_49 X v0 v1 v2 (0 : Int32) ls H locs h (lv_sub hl [0, 1, 2] rfl) hP hD hS
      have h := (if_neg hc).symm.trans h
      refine lv_iconst (v := 1) hx hb d_Model_format_44 (by decide) ?_
      refine lv_goto (tgt := 49) hx hb d_Model_format_45 rfl ?_
      exact w_Model_format_49 X v0 v1 v2 (1 : Int32) ls H locs h (lv_sub hl [0, 1, 2] rfl) hP hD hS
    have h := (if_neg hc).symm.trans h
    exact w_Model_format_35 X v0 ls H locs h (lv_sub hl [] rfl) hP hD hS
  have h := (if_pos hc).symm.trans h
  refine lv_iconst (v := -1) hx hb d_Model_format_7 (by decide) ?_
  obtain rfl := Option.some.inj h
  exact W.iret (v := (-1 : Int32)) hx hb hr (fun t ht hW => ⟨⟨(-1 : Int32), (), rfl, rfl, by rw [ht]; exact hP, hD⟩, hS.F ht⟩) hS.2.2 d_Model_format_8 hlocks

set_option maxHeartbeats 4000000 in
set_option maxRecDepth 100000 in
theorem c_Model_format (l : Launch) (D : va_G) (cC cI : ClassId) (sz : Nat) (a0_0 a0_1 a0_2 a0_3 a0_4 a0_5 a0_6 a0_7 : Nat) (v0 : T_Model) (v1 : Int64) (v2 : Int32) (out : O_Model_format) (h : f_Model_format v0 v1 v2 = some out) : Met l y_Model_format (.code y_Model_format b_Model_format 9 (some .int) :: BIG) rm_Model_format (va_Pc [.ref a0_0, .long v1, .int v2] (xPre D cC cI (wd_Model_format cC cI a0_0 a0_1 a0_2 a0_3 a0_4 a0_5 a0_6 a0_7 v0) sz)) (q_Model_format D cC cI a0_0 a0_1 a0_2 a0_3 a0_4 a0_5 a0_6 a0_7 out (va_A (wd_Model_format cC cI a0_0 a0_1 a0_2 a0_3 a0_4 a0_5 a0_6 a0_7 v0) sz)) 0 0 (va_A (wd_Model_format cC cI a0_0 a0_1 a0_2 a0_3 a0_4 a0_5 a0_6 a0_7 v0) sz) := by
  refine Met.ofW (cc := b_Model_format) (maxL := 9) (ret := (some .int)) (by decide) rfl ?_
  intro p e s m args below meth c s₁ B hml hv
  obtain ⟨rfl, rfl, hP, hD0, hG, hZ⟩ := hv
  have hl := lv_entry [.ref a0_0, .long v1, .int v2] (n := 9) (Nat.le_of_ble_eq_true rfl)
  rw [lg_entry_eq]
  exact w_Model_format (x_cx B hml hG hZ) v0 v1 v2 h hl hP hD0.self va_S.rf

abbrev wd_Model_field (cC cI : ClassId) (a0_0 a0_1 a0_2 a0_3 a0_4 a0_5 a0_6 a0_7 : Nat) (v0 : T_Model) : va_W := [(a0_0, .inr (11, [.ref a0_1, .int v0.2.1, .ref a0_2, .int v0.2.2.2.1, .int v0.2.2.2.2.1, .int v0.2.2.2.2.2.1, .ref a0_3, .ref a0_4, .ref a0_5, .int v0.2.2.2.2.2.2.2.2.2.1, .int v0.2.2.2.2.2.2.2.2.2.2.1, .int v0.2.2.2.2.2.2.2.2.2.2.2.1, .int v0.2.2.2.2.2.2.2.2.2.2.2.2.1, .ref a0_6, .int v0.2.2.2.2.2.2.2.2.2.2.2.2.2.2.1, .int v0.2.2.2.2.2.2.2.2.2.2.2.2.2.2.2.1, .int v0.2.2.2.2.2.2.2.2.2.2.2.2.2.2.2.2.1, .ref a0_7, .long v0.2.2.2.2.2.2.2.2.2.2.2.2.2.2.2.2.2.2.1, .int v0.2.2.2.2.2.2.2.2.2.2.2.2.2.2.2.2.2.2.2.1, .long v0.2.2.2.2.2.2.2.2.2.2.2.2.2.2.2.2.2.2.2.2.1, .int v0.2.2.2.2.2.2.2.2.2.2.2.2.2.2.2.2.2.2.2.2.2.1, .int v0.2.2.2.2.2.2.2.2.2.2.2.2.2.2.2.2.2.2.2.2.2.2])), (a0_1, .inl (cC, 120, .inl v0.1)), (a0_2, .inl (cC, 200, .inl v0.2.2.1)), (a0_3, .inl (cI, 160, .inl v0.2.2.2.2.2.2.1)), (a0_4, .inl (cI, 4, .inl v0.2.2.2.2.2.2.2.1)), (a0_5, .inl (cI, 7, .inl v0.2.2.2.2.2.2.2.2.1)), (a0_6, .inl (cI, 40, .inl v0.2.2.2.2.2.2.2.2.2.2.2.2.2.1)), (a0_7, .inl (cI, 6, .inl v0.2.2.2.2.2.2.2.2.2.2.2.2.2.2.2.2.2.1))]
abbrev O_Model_field : Type := Int32
abbrev q_Model_field (D : va_G) (cC cI : ClassId) (a0_0 a0_1 a0_2 a0_3 a0_4 a0_5 a0_6 a0_7 : Nat) (v0 : T_Model) (out : O_Model_field) (A : Nat → Prop) : Array Value → State → Outcome → State → Prop := va_Qi (fun r (_ : Unit) => r = out) (fun _ t => va_P D classes (wd_Model_field cC cI a0_0 a0_1 a0_2 a0_3 a0_4 a0_5 a0_6 a0_7 v0) t.heap ∧ va_D A (wd_Model_field cC cI a0_0 a0_1 a0_2 a0_3 a0_4 a0_5 a0_6 a0_7 v0)) A
abbrev rm_Model_field : Room := { frames := 0, cells := 0, slots := 0, locals := 0 }
def J_Model_field_16 (p : Program) (l : Launch) (e : Env) (s : State) (m : MethodId) (args : Array Value) (below : List Frame) (meth : Method) (c : Code) (A : Nat → Prop) (D : va_G) (cC cI : ClassId) (a0_0 a0_1 a0_2 a0_3 a0_4 a0_5 a0_6 a0_7 : Nat) (v0 : T_Model) (out : O_Model_field) (k : Option O_Model_field) : Prop := ∀  (ls : Array Slot) (H : Heap) (locs : List Loc), k  = some out → lv_has ls 3 [] → va_P D classes (wd_Model_field cC cI a0_0 a0_1 a0_2 a0_3 a0_4 a0_5 a0_6 a0_7 v0) H → va_D A (wd_Model_field cC cI a0_0 a0_1 a0_2 a0_3 a0_4 a0_5 a0_6 a0_7 v0) → va_S A s.heap H locs → W p l e rm_Model_field s m args below meth c H locs 0 0 (MQ below (q_Model_field D cC cI a0_0 a0_1 a0_2 a0_3 a0_4 a0_5 a0_6 a0_7 v0 out A) args s 0 0 A) (F0 m 16 ls [])
def J_Model_field_38 (p : Program) (l : Launch) (e : Env) (s : State) (m : MethodId) (args : Array Value) (below : List Frame) (meth : Method) (c : Code) (A : Nat → Prop) (D : va_G) (cC cI : ClassId) (a0_0 a0_1 a0_2 a0_3 a0_4 a0_5 a0_6 a0_7 : Nat) (v0 : T_Model) (out : O_Model_field) (k : Int32 → Option O_Model_field) : Prop := ∀ (s0 : Int32) (ls : Array Slot) (H : Heap) (locs : List Loc), k s0 = some out → lv_has ls 3 [] → va_P D classes (wd_Model_field cC cI a0_0 a0_1 a0_2 a0_3 a0_4 a0_5 a0_6 a0_7 v0) H → va_D A (wd_Model_field cC cI a0_0 a0_1 a0_2 a0_3 a0_4 a0_5 a0_6 a0_7 v0) → va_S A s.heap H locs → W p l e rm_Model_field s m args below meth c H locs 0 0 (MQ below (q_Model_field D cC cI a0_0 a0_1 a0_2 a0_3 a0_4 a0_5 a0_6 a0_7 v0 out A) args s 0 0 A) (F0 m 38 ls [.int s0])
def f_Model_field_38 (v0 : T_Model) (s0 : Int32) : Option O_Model_field := some s0
set_option maxHeartbeats 4000000 in
set_option maxRecDepth 100000 in
theorem w_Model_field_38 {p : Program} {l : Launch} {e : Env} {s : State} {m : MethodId} {args : Array Value} {below : List Frame} {meth : Method} {c : Code} {A : Nat → Prop} {D : va_G} {cC cI : ClassId} {a0_0 a0_1 a0_2 a0_3 a0_4 a0_5 a0_6 a0_7 : Nat} {v0 : T_Model} (X : xCX p s m args meth c A D cC cI b_Model_field 3 R_Model (some .int)) {out : O_Model_field}   : J_Model_field_38 p l e s m args below meth c A D cC cI a0_0 a0_1 a0_2 a0_3 a0_4 a0_5 a0_6 a0_7 v0 out (f_Model_field_38 v0 ) := by
  obtain ⟨hx, hb, hml, hown, htB, ⟨hK, hN⟩, hZ, hA, hr, hlocks⟩ := id X
  intro s0 ls H locs h hl hP hD hS
  obtain rfl := Option.some.inj h
  exact W.iret (v := s0) hx hb hr (fun t ht hW => ⟨⟨s0, (), rfl, rfl, by rw [ht]; exact hP, hD⟩, hS.F ht⟩) hS.2.2 d_Model_field_38 hlocks

def f_Model_field_16 (v0 : T_Model) : Option O_Model_field := f_Model_field_38 v0 (-1 : Int32)
set_option maxHeartbeats 4000000 in
set_option maxRecDepth 100000 in
theorem w_Model_field_16 {p : Program} {l : Launch} {e : Env} {s : State} {m : MethodId} {args : Array Value} {below : List Frame} {meth : Method} {c : Code} {A : Nat → Prop} {D : va_G} {cC cI : ClassId} {a0_0 a0_1 a0_2 a0_3 a0_4 a0_5 a0_6 a0_7 : Nat} {v0 : T_Model} (X : xCX p s m args meth c A D cC cI b_Model_field 3 R_Model (some .int)) {out : O_Model_field}   : J_Model_field_16 p l e s m args below meth c A D cC cI a0_0 a0_1 a0_2 a0_3 a0_4 a0_5 a0_6 a0_7 v0 out (f_Model_field_16 v0 ) := by
  obtain ⟨hx, hb, hml, hown, htB, ⟨hK, hN⟩, hZ, hA, hr, hlocks⟩ := id X
  intro  ls H locs h hl hP hD hS
  refine lv_iconst (v := -1) hx hb d_Model_field_16 (by decide) ?_
  refine lv_goto (tgt := 38) hx hb d_Model_field_17 rfl ?_
  exact w_Model_field_38 X (-1 : Int32) ls H locs h (lv_sub hl [] rfl) hP hD hS

def J_Model_field_36 (p : Program) (l : Launch) (e : Env) (s : State) (m : MethodId) (args : Array Value) (below : List Frame) (meth : Method) (c : Code) (A : Nat → Prop) (D : va_G) (cC cI : ClassId) (a0_0 a0_1 a0_2 a0_3 a0_4 a0_5 a0_6 a0_7 : Nat) (v0 : T_Model) (out : O_Model_field) (k : Int32 → Int32 → Option O_Model_field) : Prop := ∀ (s1 : Int32) (s2 : Int32) (ls : Array Slot) (H : Heap) (locs : List Loc), k s1 s2 = some out → lv_has ls 3 [] → va_P D classes (wd_Model_field cC cI a0_0 a0_1 a0_2 a0_3 a0_4 a0_5 a0_6 a0_7 v0) H → va_D A (wd_Model_field cC cI a0_0 a0_1 a0_2 a0_3 a0_4 a0_5 a0_6 a0_7 v0) → va_S A s.heap H locs → W p l e rm_Model_field s m args below meth c H locs 0 0 (MQ below (q_Model_field D cC cI a0_0 a0_1 a0_2 a0_3 a0_4 a0_5 a0_6 a0_7 v0 out A) args s 0 0 A) (F0 m 36 ls [.int s2, .int s1, .ref a0_7])
def f_Model_field_36 (v0 : T_Model) (s1 : Int32) (s2 : Int32) : Option O_Model_field := if ix (s1 + s2) 6 then f_Model_field_38 v0 (v0.2.2.2.2.2.2.2.2.2.2.2.2.2.2.2.2.2.1 (s1 + s2).toNatClampNeg) else none
set_option maxHeartbeats 4000000 in
set_option maxRecDepth 100000 in
theorem w_Model_field_36 {p : Program} {l : Launch} {e : Env} {s : State} {m : MethodId} {args : Array Value} {below : List Frame} {meth : Method} {c : Code} {A : Nat → Prop} {D : va_G} {cC cI : ClassId} {a0_0 a0_1 a0_2 a0_3 a0_4 a0_5 a0_6 a0_7 : Nat} {v0 : T_Model} (X : xCX p s m args meth c A D cC cI b_Model_field 3 R_Model (some .int)) {out : O_Model_field}   : J_Model_field_36 p l e s m args below meth c A D cC cI a0_0 a0_1 a0_2 a0_3 a0_4 a0_5 a0_6 a0_7 v0 out (f_Model_field_36 v0 ) := by
  obtain ⟨hx, hb, hml, hown, htB, ⟨hK, hN⟩, hZ, hA, hr, hlocks⟩ := id X
  intro s1 s2 ls H locs h hl hP hD hS
  refine lv_iadd hx hb d_Model_field_36 ?_
  obtain ⟨hc, h⟩ := x_chk h
  refine va_iald hx hb hK hP 7 1 rfl rfl hc d_Model_field_37 ?_
  exact w_Model_field_38 X (v0.2.2.2.2.2.2.2.2.2.2.2.2.2.2.2.2.2.1 (s1 + s2).toNatClampNeg) ls H locs h (lv_sub hl [] rfl) hP hD hS

def f_Model_field (v0 : T_Model) (v1 : Int32) (v2 : Int32) : Option O_Model_field := (if v1 < 0 then f_Model_field_16 v0 else (if (2 : Int32) < v1 then f_Model_field_16 v0 else (if v0.2.2.2.2.2.2.2.2.2.2.2.2.2.2.2.2.1 = 0 then f_Model_field_16 v0 else (if v2 = 0 then f_Model_field_36 v0 ((2 : Int32) * v1) (0 : Int32) else f_Model_field_36 v0 ((2 : Int32) * v1) (1 : Int32)))))
set_option maxHeartbeats 4000000 in
set_option maxRecDepth 100000 in
theorem w_Model_field {p : Program} {l : Launch} {e : Env} {s : State} {m : MethodId} {args : Array Value} {below : List Frame} {meth : Method} {c : Code} {A : Nat → Prop} {D : va_G} {cC cI : ClassId} {a0_0 a0_1 a0_2 a0_3 a0_4 a0_5 a0_6 a0_7 : Nat} {v0 : T_Model} (X : xCX p s m args meth c A D cC cI b_Model_field 3 R_Model (some .int)) {out : O_Model_field} (v1 : Int32) (v2 : Int32) {ls : Array Slot} {H : Heap} {locs : List Loc} (h : f_Model_field v0 v1 v2 = some out) (hl : lv_has ls 3 [(0, .ref a0_0), (1, .int v1), (2, .int v2)]) (hP : va_P D classes (wd_Model_field cC cI a0_0 a0_1 a0_2 a0_3 a0_4 a0_5 a0_6 a0_7 v0) H) (hD : va_D A (wd_Model_field cC cI a0_0 a0_1 a0_2 a0_3 a0_4 a0_5 a0_6 a0_7 v0)) (hS : va_S A s.heap H locs) : W p l e rm_Model_field s m args below meth c H locs 0 0 (MQ below (q_Model_field D cC cI a0_0 a0_1 a0_2 a0_3 a0_4 a0_5 a0_6 a0_7 v0 out A) args s 0 0 A) (F0 m 0 ls []) := by
  obtain ⟨hx, hb, hml, hown, htB, ⟨hK, hN⟩, hZ, hA, hr, hlocks⟩ := id X
  refine lv_iload_n hx hb d_Model_field_0 rfl (lv_at hl 1 rfl) ?_
  refine lv_if_lt (tgt := 16) hx hb d_Model_field_1 rfl (fun hc => ?_) (fun hc => ?_)
  · have h := (if_pos hc).symm.trans h
    exact w_Model_field_16 X ls H locs h (lv_sub hl [] rfl) hP hD hS
  have h := (if_neg hc).symm.trans h
  refine lv_iload_n hx hb d_Model_field_4 rfl (lv_at hl 1 rfl) ?_
  refine lv_iconst (v := 2) hx hb d_Model_field_5 (by decide) ?_
  refine lv_icmp_gt (tgt := 16) hx hb d_Model_field_6 rfl (fun hc => ?_) (fun hc => ?_)
  · have h := (if_pos hc).symm.trans h
    exact w_Model_field_16 X ls H locs h (lv_sub hl [] rfl) hP hD hS
  have h := (if_neg hc).symm.trans h
  refine lv_aload_n hx hb d_Model_field_9 rfl (lv_at hl 0 rfl) ?_
  refine va_get (D := D) (ci := 11) (v := .int v0.2.2.2.2.2.2.2.2.2.2.2.2.2.2.2.2.1) (C := R_Model) (T := F_Model) (N := 23) hx hb htB in_Model hown hK hP 0 rfl rfl 16 (by decide) (htB _ b_410) (fun _ h9 => h9) rfl d_Model_field_10 ?_
  refine lv_if_ne (tgt := 20) hx hb d_Model_field_13 rfl (fun hc => ?_) (fun hc => ?_)
  · have h := (if_neg hc).symm.trans h
    refine lv_aload_n hx hb d_Model_field_20 rfl (lv_at hl 0 rfl) ?_
    refine va_get (D := D) (ci := 11) (v := .ref a0_7) (C := R_Model) (T := F_Model) (N := 23) hx hb htB in_Model hown hK hP 0 rfl rfl 17 (by decide) (htB _ b_395) (fun _ h9 => h9) rfl d_Model_field_21 ?_
    refine lv_iconst (v := 2) hx hb d_Model_field_24 (by decide) ?_
    refine lv_iload_n hx hb d_Model_field_25 rfl (lv_at hl 1 rfl) ?_
    refine lv_imul hx hb d_Model_field_26 ?_
    refine lv_iload_n hx hb d_Model_field_27 rfl (lv_at hl 2 rfl) ?_
    refine lv_if_eq (tgt := 35) hx hb d_Model_field_28 rfl (fun hc => ?_) (fun hc => ?_)
    · have h := (if_pos hc).symm.trans h
      refine lv_iconst (v := 0) hx hb d_Model_field_35 (by decide) ?_
      exact w_Model_field_36 X ((2 : Int32) * v1) (0 : Int32) ls H locs h (lv_sub hl [] rfl) hP hD hS
    have h := (if_neg hc).symm.trans h
    refine lv_iconst (v := 1) hx hb d_Model_field_31 (by decide) ?_
    refine lv_goto (tgt := 36) hx hb d_Model_field_32 rfl ?_
    exact w_Model_field_36 X ((2 : Int32) * v1) (1 : Int32) ls H locs h (lv_sub hl [] rfl) hP hD hS
  have h := (if_pos hc).symm.trans h
  exact w_Model_field_16 X ls H locs h (lv_sub hl [] rfl) hP hD hS

set_option maxHeartbeats 4000000 in
set_option maxRecDepth 100000 in
theorem c_Model_field (l : Launch) (D : va_G) (cC cI : ClassId) (sz : Nat) (a0_0 a0_1 a0_2 a0_3 a0_4 a0_5 a0_6 a0_7 : Nat) (v0 : T_Model) (v1 : Int32) (v2 : Int32) (out : O_Model_field) (h : f_Model_field v0 v1 v2 = some out) : Met l y_Model_field (.code y_Model_field b_Model_field 3 (some .int) :: BIG) rm_Model_field (va_Pc [.ref a0_0, .int v1, .int v2] (xPre D cC cI (wd_Model_field cC cI a0_0 a0_1 a0_2 a0_3 a0_4 a0_5 a0_6 a0_7 v0) sz)) (q_Model_field D cC cI a0_0 a0_1 a0_2 a0_3 a0_4 a0_5 a0_6 a0_7 v0 out (va_A (wd_Model_field cC cI a0_0 a0_1 a0_2 a0_3 a0_4 a0_5 a0_6 a0_7 v0) sz)) 0 0 (va_A (wd_Model_field cC cI a0_0 a0_1 a0_2 a0_3 a0_4 a0_5 a0_6 a0_7 v0) sz) := by
  refine Met.ofW (cc := b_Model_field) (maxL := 3) (ret := (some .int)) (by decide) rfl ?_
  intro p e s m args below meth c s₁ B hml hv
  obtain ⟨rfl, rfl, hP, hD0, hG, hZ⟩ := hv
  have hl := lv_entry [.ref a0_0, .int v1, .int v2] (n := 3) (Nat.le_of_ble_eq_true rfl)
  rw [lg_entry_eq]
  exact w_Model_field (x_cx B hml hG hZ) v1 v2 h hl hP hD0.self va_S.rf

abbrev wd_Model_printAffix (cC cI : ClassId) (a0_0 a0_1 a0_2 a0_3 a0_4 a0_5 a0_6 a0_7 : Nat) (v0 : T_Model) : va_W := [(a0_0, .inr (11, [.ref a0_1, .int v0.2.1, .ref a0_2, .int v0.2.2.2.1, .int v0.2.2.2.2.1, .int v0.2.2.2.2.2.1, .ref a0_3, .ref a0_4, .ref a0_5, .int v0.2.2.2.2.2.2.2.2.2.1, .int v0.2.2.2.2.2.2.2.2.2.2.1, .int v0.2.2.2.2.2.2.2.2.2.2.2.1, .int v0.2.2.2.2.2.2.2.2.2.2.2.2.1, .ref a0_6, .int v0.2.2.2.2.2.2.2.2.2.2.2.2.2.2.1, .int v0.2.2.2.2.2.2.2.2.2.2.2.2.2.2.2.1, .int v0.2.2.2.2.2.2.2.2.2.2.2.2.2.2.2.2.1, .ref a0_7, .long v0.2.2.2.2.2.2.2.2.2.2.2.2.2.2.2.2.2.2.1, .int v0.2.2.2.2.2.2.2.2.2.2.2.2.2.2.2.2.2.2.2.1, .long v0.2.2.2.2.2.2.2.2.2.2.2.2.2.2.2.2.2.2.2.2.1, .int v0.2.2.2.2.2.2.2.2.2.2.2.2.2.2.2.2.2.2.2.2.2.1, .int v0.2.2.2.2.2.2.2.2.2.2.2.2.2.2.2.2.2.2.2.2.2.2])), (a0_1, .inl (cC, 120, .inl v0.1)), (a0_2, .inl (cC, 200, .inl v0.2.2.1)), (a0_3, .inl (cI, 160, .inl v0.2.2.2.2.2.2.1)), (a0_4, .inl (cI, 4, .inl v0.2.2.2.2.2.2.2.1)), (a0_5, .inl (cI, 7, .inl v0.2.2.2.2.2.2.2.2.1)), (a0_6, .inl (cI, 40, .inl v0.2.2.2.2.2.2.2.2.2.2.2.2.2.1)), (a0_7, .inl (cI, 6, .inl v0.2.2.2.2.2.2.2.2.2.2.2.2.2.2.2.2.2.1))]
abbrev O_Model_printAffix : Type := T_Model
abbrev q_Model_printAffix (D : va_G) (cC cI : ClassId) (a0_0 a0_1 a0_2 a0_3 a0_4 a0_5 a0_6 a0_7 : Nat)  (out : O_Model_printAffix) (A : Nat → Prop) : Array Value → State → Outcome → State → Prop := va_Qv (fun _ : Unit => True) (fun _ t => va_P D classes (wd_Model_printAffix cC cI a0_0 a0_1 a0_2 a0_3 a0_4 a0_5 a0_6 a0_7 out) t.heap ∧ va_D A (wd_Model_printAffix cC cI a0_0 a0_1 a0_2 a0_3 a0_4 a0_5 a0_6 a0_7 out)) A
abbrev rm_Model_printAffix : Room := { frames := 1, cells := 0, slots := 0, locals := 21 }
def J_Model_printAffix_4 (p : Program) (l : Launch) (e : Env) (s : State) (m : MethodId) (args : Array Value) (below : List Frame) (meth : Method) (c : Code) (A : Nat → Prop) (D : va_G) (cC cI : ClassId) (a0_0 a0_1 a0_2 a0_3 a0_4 a0_5 a0_6 a0_7 : Nat) (out : O_Model_printAffix) (k : T_Model → Int32 → Int32 → Int32 → Option O_Model_printAffix) : Prop := ∀ (v0 : T_Model) (x1 : Int32) (x2 : Int32) (x3 : Int32) (ls : Array Slot) (H : Heap) (locs : List Loc), k v0 x1 x2 x3 = some out → lv_has ls 6 [(0, .ref a0_0), (1, .int x1), (2, .int x2), (3, .int x3)] → va_P D classes (wd_Model_printAffix cC cI a0_0 a0_1 a0_2 a0_3 a0_4 a0_5 a0_6 a0_7 v0) H → va_D A (wd_Model_printAffix cC cI a0_0 a0_1 a0_2 a0_3 a0_4 a0_5 a0_6 a0_7 v0) → va_S A s.heap H locs → W p l e rm_Model_printAffix s m args below meth c H locs 0 0 (MQ below (q_Model_printAffix D cC cI a0_0 a0_1 a0_2 a0_3 a0_4 a0_5 a0_6 a0_7 out A) args s 0 0 A) (F0 m 4 ls [])
def J_Model_printAffix_134 (p : Program) (l : Launch) (e : Env) (s : State) (m : MethodId) (args : Array Value) (below : List Frame) (meth : Method) (c : Code) (A : Nat → Prop) (D : va_G) (cC cI : ClassId) (a0_0 a0_1 a0_2 a0_3 a0_4 a0_5 a0_6 a0_7 : Nat) (out : O_Model_printAffix) (k : T_Model → Option O_Model_printAffix) : Prop := ∀ (v0 : T_Model) (ls : Array Slot) (H : Heap) (locs : List Loc), k v0 = some out → lv_has ls 6 [] → va_P D classes (wd_Model_printAffix cC cI a0_0 a0_1 a0_2 a0_3 a0_4 a0_5 a0_6 a0_7 v0) H → va_D A (wd_Model_printAffix cC cI a0_0 a0_1 a0_2 a0_3 a0_4 a0_5 a0_6 a0_7 v0) → va_S A s.heap H locs → W p l e rm_Model_printAffix s m args below meth c H locs 0 0 (MQ below (q_Model_printAffix D cC cI a0_0 a0_1 a0_2 a0_3 a0_4 a0_5 a0_6 a0_7 out A) args s 0 0 A) (F0 m 134 ls [])
def f_Model_printAffix_134 (v0 : T_Model) : Option O_Model_printAffix := some v0
set_option maxHeartbeats 4000000 in
set_option maxRecDepth 100000 in
theorem w_Model_printAffix_134 {p : Program} {l : Launch} {e : Env} {s : State} {m : MethodId} {args : Array Value} {below : List Frame} {meth : Method} {c : Code} {A : Nat → Prop} {D : va_G} {cC cI : ClassId} {a0_0 a0_1 a0_2 a0_3 a0_4 a0_5 a0_6 a0_7 : Nat} (X : xCX p s m args meth c A D cC cI b_Model_printAffix 6 R_Model none) {out : O_Model_printAffix}   : J_Model_printAffix_134 p l e s m args below meth c A D cC cI a0_0 a0_1 a0_2 a0_3 a0_4 a0_5 a0_6 a0_7 out (f_Model_printAffix_134  ) := by
  obtain ⟨hx, hb, hml, hown, htB, ⟨hK, hN⟩, hZ, hA, hr, hlocks⟩ := id X
  intro v0 ls H locs h hl hP hD hS
  obtain rfl := Option.some.inj h
  exact W.vret hx hb hr (fun t ht hW => ⟨⟨(), rfl, trivial, by rw [ht]; exact hP, hD⟩, hS.F ht⟩) hS.2.2 d_Model_printAffix_134 hlocks

def J_Model_printAffix_42 (p : Program) (l : Launch) (e : Env) (s : State) (m : MethodId) (args : Array Value) (below : List Frame) (meth : Method) (c : Code) (A : Nat → Prop) (D : va_G) (cC cI : ClassId) (a0_0 a0_1 a0_2 a0_3 a0_4 a0_5 a0_6 a0_7 : Nat) (out : O_Model_printAffix) (k : T_Model → Int32 → Int32 → Int32 → Int32 → Option O_Model_printAffix) : Prop := ∀ (v0 : T_Model) (x1 : Int32) (x2 : Int32) (x3 : Int32) (x4 : Int32) (ls : Array Slot) (H : Heap) (locs : List Loc), k v0 x1 x2 x3 x4 = some out → lv_has ls 6 [(0, .ref a0_0), (1, .int x1), (2, .int x2), (3, .int x3), (4, .int x4)] → va_P D classes (wd_Model_printAffix cC cI a0_0 a0_1 a0_2 a0_3 a0_4 a0_5 a0_6 a0_7 v0) H → va_D A (wd_Model_printAffix cC cI a0_0 a0_1 a0_2 a0_3 a0_4 a0_5 a0_6 a0_7 v0) → va_S A s.heap H locs → W p l e rm_Model_printAffix s m args below meth c H locs 0 0 (MQ below (q_Model_printAffix D cC cI a0_0 a0_1 a0_2 a0_3 a0_4 a0_5 a0_6 a0_7 out A) args s 0 0 A) (F0 m 42 ls [])
def J_Model_printAffix_47 (p : Program) (l : Launch) (e : Env) (s : State) (m : MethodId) (args : Array Value) (below : List Frame) (meth : Method) (c : Code) (A : Nat → Prop) (D : va_G) (cC cI : ClassId) (a0_0 a0_1 a0_2 a0_3 a0_4 a0_5 a0_6 a0_7 : Nat) (out : O_Model_printAffix) (k : T_Model → Int32 → Int32 → Int32 → Int32 → Int32 → Option O_Model_printAffix) : Prop := ∀ (v0 : T_Model) (x1 : Int32) (x2 : Int32) (x3 : Int32) (x4 : Int32) (s0 : Int32) (ls : Array Slot) (H : Heap) (locs : List Loc), k v0 x1 x2 x3 x4 s0 = some out → lv_has ls 6 [(0, .ref a0_0), (1, .int x1), (2, .int x2), (3, .int x3), (4, .int x4)] → va_P D classes (wd_Model_printAffix cC cI a0_0 a0_1 a0_2 a0_3 a0_4 a0_5 a0_6 a0_7 v0) H → va_D A (wd_Model_printAffix cC cI a0_0 a0_1 a0_2 a0_3 a0_4 a0_5 a0_6 a0_7 v0) → va_S A s.heap H locs → W p l e rm_Model_printAffix s m args below meth c H locs 0 0 (MQ below (q_Model_printAffix D cC cI a0_0 a0_1 a0_2 a0_3 a0_4 a0_5 a0_6 a0_7 out A) args s 0 0 A) (F0 m 47 ls [.int s0])
def J_Model_printAffix_58 (p : Program) (l : Launch) (e : Env) (s : State) (m : MethodId) (args : Array Value) (below : List Frame) (meth : Method) (c : Code) (A : Nat → Prop) (D : va_G) (cC cI : ClassId) (a0_0 a0_1 a0_2 a0_3 a0_4 a0_5 a0_6 a0_7 : Nat) (out : O_Model_printAffix) (k : T_Model → Int32 → Int32 → Int32 → Int32 → Option O_Model_printAffix) : Prop := ∀ (v0 : T_Model) (x1 : Int32) (x2 : Int32) (x3 : Int32) (x4 : Int32) (ls : Array Slot) (H : Heap) (locs : List Loc), k v0 x1 x2 x3 x4 = some out → lv_has ls 6 [(0, .ref a0_0), (1, .int x1), (2, .int x2), (3, .int x3), (4, .int x4)] → va_P D classes (wd_Model_printAffix cC cI a0_0 a0_1 a0_2 a0_3 a0_4 a0_5 a0_6 a0_7 v0) H → va_D A (wd_Model_printAffix cC cI a0_0 a0_1 a0_2 a0_3 a0_4 a0_5 a0_6 a0_7 v0) → va_S A s.heap H locs → W p l e rm_Model_printAffix s m args below meth c H locs 0 0 (MQ below (q_Model_printAffix D cC cI a0_0 a0_1 a0_2 a0_3 a0_4 a0_5 a0_6 a0_7 out A) args s 0 0 A) (F0 m 58 ls [])
def J_Model_printAffix_86 (p : Program) (l : Launch) (e : Env) (s : State) (m : MethodId) (args : Array Value) (below : List Frame) (meth : Method) (c : Code) (A : Nat → Prop) (D : va_G) (cC cI : ClassId) (a0_0 a0_1 a0_2 a0_3 a0_4 a0_5 a0_6 a0_7 : Nat) (out : O_Model_printAffix) (k : T_Model → Int32 → Int32 → Int32 → Int32 → Option O_Model_printAffix) : Prop := ∀ (v0 : T_Model) (x1 : Int32) (x2 : Int32) (x3 : Int32) (x4 : Int32) (ls : Array Slot) (H : Heap) (locs : List Loc), k v0 x1 x2 x3 x4 = some out → lv_has ls 6 [(0, .ref a0_0), (1, .int x1), (2, .int x2), (3, .int x3), (4, .int x4)] → va_P D classes (wd_Model_printAffix cC cI a0_0 a0_1 a0_2 a0_3 a0_4 a0_5 a0_6 a0_7 v0) H → va_D A (wd_Model_printAffix cC cI a0_0 a0_1 a0_2 a0_3 a0_4 a0_5 a0_6 a0_7 v0) → va_S A s.heap H locs → W p l e rm_Model_printAffix s m args below meth c H locs 0 0 (MQ below (q_Model_printAffix D cC cI a0_0 a0_1 a0_2 a0_3 a0_4 a0_5 a0_6 a0_7 out A) args s 0 0 A) (F0 m 86 ls [])
def J_Model_printAffix_99 (p : Program) (l : Launch) (e : Env) (s : State) (m : MethodId) (args : Array Value) (below : List Frame) (meth : Method) (c : Code) (A : Nat → Prop) (D : va_G) (cC cI : ClassId) (a0_0 a0_1 a0_2 a0_3 a0_4 a0_5 a0_6 a0_7 : Nat) (out : O_Model_printAffix) (k : T_Model → Int32 → Int32 → Int32 → Int32 → Option O_Model_printAffix) : Prop := ∀ (v0 : T_Model) (x1 : Int32) (x2 : Int32) (x3 : Int32) (x4 : Int32) (ls : Array Slot) (H : Heap) (locs : List Loc), k v0 x1 x2 x3 x4 = some out → lv_has ls 6 [(0, .ref a0_0), (1, .int x1), (2, .int x2), (3, .int x3), (4, .int x4)] → va_P D classes (wd_Model_printAffix cC cI a0_0 a0_1 a0_2 a0_3 a0_4 a0_5 a0_6 a0_7 v0) H → va_D A (wd_Model_printAffix cC cI a0_0 a0_1 a0_2 a0_3 a0_4 a0_5 a0_6 a0_7 v0) → va_S A s.heap H locs → W p l e rm_Model_printAffix s m args below meth c H locs 0 0 (MQ below (q_Model_printAffix D cC cI a0_0 a0_1 a0_2 a0_3 a0_4 a0_5 a0_6 a0_7 out A) args s 0 0 A) (F0 m 99 ls [])
def J_Model_printAffix_115 (p : Program) (l : Launch) (e : Env) (s : State) (m : MethodId) (args : Array Value) (below : List Frame) (meth : Method) (c : Code) (A : Nat → Prop) (D : va_G) (cC cI : ClassId) (a0_0 a0_1 a0_2 a0_3 a0_4 a0_5 a0_6 a0_7 : Nat) (out : O_Model_printAffix) (k : T_Model → Int32 → Int32 → Int32 → Int32 → Option O_Model_printAffix) : Prop := ∀ (v0 : T_Model) (x1 : Int32) (x2 : Int32) (x3 : Int32) (s1 : Int32) (ls : Array Slot) (H : Heap) (locs : List Loc), k v0 x1 x2 x3 s1 = some out → lv_has ls 6 [(0, .ref a0_0), (1, .int x1), (2, .int x2), (3, .int x3)] → va_P D classes (wd_Model_printAffix cC cI a0_0 a0_1 a0_2 a0_3 a0_4 a0_5 a0_6 a0_7 v0) H → va_D A (wd_Model_printAffix cC cI a0_0 a0_1 a0_2 a0_3 a0_4 a0_5 a0_6 a0_7 v0) → va_S A s.heap H locs → W p l e rm_Model_printAffix s m args below meth c H locs 0 0 (MQ below (q_Model_printAffix D cC cI a0_0 a0_1 a0_2 a0_3 a0_4 a0_5 a0_6 a0_7 out A) args s 0 0 A) (F0 m 115 ls [.int s1, .ref a0_0])
def f_Model_printAffix_115 (k4 : T_Model → Int32 → Int32 → Int32 → Option O_Model_printAffix) (v0 : T_Model) (x1 : Int32) (x2 : Int32) (x3 : Int32) (s1 : Int32) : Option O_Model_printAffix := (f_Model_write v0 s1).bind (fun o115 => k4 o115 x1 x2 (x3 + (1 : Int32)))
set_option maxHeartbeats 4000000 in
set_option maxRecDepth 100000 in
theorem w_Model_printAffix_115 {p : Program} {l : Launch} {e : Env} {s : State} {m : MethodId} {args : Array Value} {below : List Frame} {meth : Method} {c : Code} {A : Nat → Prop} {D : va_G} {cC cI : ClassId} {a0_0 a0_1 a0_2 a0_3 a0_4 a0_5 a0_6 a0_7 : Nat} (X : xCX p s m args meth c A D cC cI b_Model_printAffix 6 R_Model none) {out : O_Model_printAffix} {k4 : T_Model → Int32 → Int32 → Int32 → Option O_Model_printAffix} (hk4 : J_Model_printAffix_4 p l e s m args below meth c A D cC cI a0_0 a0_1 a0_2 a0_3 a0_4 a0_5 a0_6 a0_7 out k4) : J_Model_printAffix_115 p l e s m args below meth c A D cC cI a0_0 a0_1 a0_2 a0_3 a0_4 a0_5 a0_6 a0_7 out (f_Model_printAffix_115  k4) := by
  obtain ⟨hx, hb, hml, hown, htB, ⟨hK, hN⟩, hZ, hA, hr, hlocks⟩ := id X
  intro v0 x1 x2 x3 s1 ls H locs h hl hP hD hS
  obtain ⟨o115, ho115, h⟩ := x_bnd h
  refine x_callv (ws2 := (wd_Model_printAffix cC cI a0_0 a0_1 a0_2 a0_3 a0_4 a0_5 a0_6 a0_7 o115)) (x_runV (As := [.int s1]) (rest := []) X (c_Model_write l D cC cI H.size a0_0 a0_1 a0_2 a0_3 a0_4 a0_5 a0_6 a0_7 v0 s1 o115 ho115) b_378 1 (htB _ b_381) (htB _ b_379) (htB _ b_380) (htB _ b_319) ⟨by decide, by decide, by decide +kernel⟩ ⟨(Nat.le_of_ble_eq_true rfl), (Nat.le_of_ble_eq_true rfl)⟩ 0 rfl rfl hP hD hS [0, 1, 2, 3, 4, 5, 6, 7] rfl (by decide) rfl rfl hl.1 rfl rfl (Nat.le_of_ble_eq_true rfl) d_Model_printAffix_115) hP hD hS hA [0, 1, 2, 3, 4, 5, 6, 7] [] [0, 1, 2, 3, 4, 5, 6, 7] rfl rfl (by decide) (by decide) rfl (by decide) (fun H locs hP hD hS => ?_)
  refine lv_iinc (k := 3) (v := (x3 + (1 : Int32))) (lv' := [(3, .int (x3 + (1 : Int32))), (0, .ref a0_0), (1, .int x1), (2, .int x2)]) hx hb d_Model_printAffix_118 hl rfl (congrArg (fun z => x3 + z) (by decide : Int32.ofInt 1 = (1 : Int32))) (by decide) rfl (fun ls hl => ?_)
  refine lv_goto (tgt := 4) hx hb d_Model_printAffix_121 rfl ?_
  exact hk4 o115 x1 x2 (x3 + (1 : Int32)) ls H locs h (lv_sub hl [1, 2, 3, 0] rfl) hP hD hS

def f_Model_printAffix_99 (k4 : T_Model → Int32 → Int32 → Int32 → Option O_Model_printAffix) (v0 : T_Model) (x1 : Int32) (x2 : Int32) (x3 : Int32) (x4 : Int32) : Option O_Model_printAffix := (if x4 = (200 : Int32) then f_Model_printAffix_115 k4 v0 x1 x2 x3 (37 : Int32) else f_Model_printAffix_115 k4 v0 x1 x2 x3 x4)
set_option maxHeartbeats 4000000 in
set_option maxRecDepth 100000 in
theorem w_Model_printAffix_99 {p : Program} {l : Launch} {e : Env} {s : State} {m : MethodId} {args : Array Value} {below : List Frame} {meth : Method} {c : Code} {A : Nat → Prop} {D : va_G} {cC cI : ClassId} {a0_0 a0_1 a0_2 a0_3 a0_4 a0_5 a0_6 a0_7 : Nat} (X : xCX p s m args meth c A D cC cI b_Model_printAffix 6 R_Model none) {out : O_Model_printAffix} {k4 : T_Model → Int32 → Int32 → Int32 → Option O_Model_printAffix} (hk4 : J_Model_printAffix_4 p l e s m args below meth c A D cC cI a0_0 a0_1 a0_2 a0_3 a0_4 a0_5 a0_6 a0_7 out k4) : J_Model_printAffix_99 p l e s m args below meth c A D cC cI a0_0 a0_1 a0_2 a0_3 a0_4 a0_5 a0_6 a0_7 out (f_Model_printAffix_99  k4) := by
  obtain ⟨hx, hb, hml, hown, htB, ⟨hK, hN⟩, hZ, hA, hr, hlocks⟩ := id X
  intro v0 x1 x2 x3 x4 ls H locs h hl hP hD hS
  refine lv_aload_n hx hb d_Model_printAffix_99 rfl (lv_at hl 0 rfl) ?_
  refine lv_iload hx hb d_Model_printAffix_100 (lv_at hl 4 rfl) ?_
  refine lv_sipush (v := 200) hx hb d_Model_printAffix_102 (by decide) ?_
  refine lv_icmp_ne (tgt := 113) hx hb d_Model_printAffix_105 rfl (fun hc => ?_) (fun hc => ?_)
  · have h := (if_neg hc).symm.trans h
    refine lv_iload hx hb d_Model_printAffix_113 (lv_at hl 4 rfl) ?_
    exact w_Model_printAffix_115 X hk4 v0 x1 x2 x3 x4 ls H locs h (lv_sub hl [0, 1, 2, 3] rfl) hP hD hS
  have h := (if_pos hc).symm.trans h
  refine lv_bipush (v := 37) hx hb d_Model_printAffix_108 (by decide) ?_
  refine lv_goto (tgt := 115) hx hb d_Model_printAffix_110 rfl ?_
  exact w_Model_printAffix_115 X hk4 v0 x1 x2 x3 (37 : Int32) ls H locs h (lv_sub hl [0, 1, 2, 3] rfl) hP hD hS

def f_Model_printAffix_86 (k4 : T_Model → Int32 → Int32 → Int32 → Option O_Model_printAffix) (v0 : T_Model) (x1 : Int32) (x2 : Int32) (x3 : Int32) (x4 : Int32) : Option O_Model_printAffix := (if x4 = (39 : Int32) then (f_Model_write v0 (39 : Int32)).bind (fun o96 => f_Model_printAffix_99 k4 o96 x1 x2 x3 x4) else f_Model_printAffix_99 k4 v0 x1 x2 x3 x4)
set_option maxHeartbeats 4000000 in
set_option maxRecDepth 100000 in
theorem w_Model_printAffix_86 {p : Program} {l : Launch} {e : Env} {s : State} {m : MethodId} {args : Array Value} {below : List Frame} {meth : Method} {c : Code} {A : Nat → Prop} {D : va_G} {cC cI : ClassId} {a0_0 a0_1 a0_2 a0_3 a0_4 a0_5 a0_6 a0_7 : Nat} (X : xCX p s m args meth c A D cC cI b_Model_printAffix 6 R_Model none) {out : O_Model_printAffix} {k4 : T_Model → Int32 → Int32 → Int32 → Option O_Model_printAffix} (hk4 : J_Model_printAffix_4 p l e s m args below meth c A D cC cI a0_0 a0_1 a0_2 a0_3 a0_4 a0_5 a0_6 a0_7 out k4) : J_Model_printAffix_86 p l e s m args below meth c A D cC cI a0_0 a0_1 a0_2 a0_3 a0_4 a0_5 a0_6 a0_7 out (f_Model_printAffix_86  k4) := by
  obtain ⟨hx, hb, hml, hown, htB, ⟨hK, hN⟩, hZ, hA, hr, hlocks⟩ := id X
  intro v0 x1 x2 x3 x4 ls H locs h hl hP hD hS
  refine lv_iload hx hb d_Model_printAffix_86 (lv_at hl 4 rfl) ?_
  refine lv_bipush (v := 39) hx hb d_Model_printAffix_88 (by decide) ?_
  refine lv_icmp_ne (tgt := 99) hx hb d_Model_printAffix_90 rfl (fun hc => ?_) (fun hc => ?_)
  · have h := (if_neg hc).symm.trans h
    exact w_Model_printAffix_99 X hk4 v0 x1 x2 x3 x4 ls H locs h (lv_sub hl [0, 1, 2, 3, 4] rfl) hP hD hS
  have h := (if_pos hc).symm.trans h
  refine lv_aload_n hx hb d_Model_printAffix_93 rfl (lv_at hl 0 rfl) ?_
  refine lv_bipush (v := 39) hx hb d_Model_printAffix_94 (by decide) ?_
  obtain ⟨o96, ho96, h⟩ := x_bnd h
  refine x_callv (ws2 := (wd_Model_printAffix cC cI a0_0 a0_1 a0_2 a0_3 a0_4 a0_5 a0_6 a0_7 o96)) (x_runV (As := [.int (39 : Int32)]) (rest := []) X (c_Model_write l D cC cI H.size a0_0 a0_1 a0_2 a0_3 a0_4 a0_5 a0_6 a0_7 v0 (39 : Int32) o96 ho96) b_378 1 (htB _ b_381) (htB _ b_379) (htB _ b_380) (htB _ b_319) ⟨by decide, by decide, by decide +kernel⟩ ⟨(Nat.le_of_ble_eq_true rfl), (Nat.le_of_ble_eq_true rfl)⟩ 0 rfl rfl hP hD hS [0, 1, 2, 3, 4, 5, 6, 7] rfl (by decide) rfl rfl hl.1 rfl rfl (Nat.le_of_ble_eq_true rfl) d_Model_printAffix_96) hP hD hS hA [0, 1, 2, 3, 4, 5, 6, 7] [] [0, 1, 2, 3, 4, 5, 6, 7] rfl rfl (by decide) (by decide) rfl (by decide) (fun H locs hP hD hS => ?_)
  exact w_Model_printAffix_99 X hk4 o96 x1 x2 x3 x4 ls H locs h (lv_sub hl [0, 1, 2, 3, 4] rfl) hP hD hS

def J_Model_printAffix_70 (p : Program) (l : Launch) (e : Env) (s : State) (m : MethodId) (args : Array Value) (below : List Frame) (meth : Method) (c : Code) (A : Nat → Prop) (D : va_G) (cC cI : ClassId) (a0_0 a0_1 a0_2 a0_3 a0_4 a0_5 a0_6 a0_7 : Nat) (out : O_Model_printAffix) (k : T_Model → Int32 → Int32 → Int32 → Int32 → Option O_Model_printAffix) : Prop := ∀ (v0 : T_Model) (x1 : Int32) (x2 : Int32) (x3 : Int32) (x4 : Int32) (ls : Array Slot) (H : Heap) (locs : List Loc), k v0 x1 x2 x3 x4 = some out → lv_has ls 6 [(0, .ref a0_0), (1, .int x1), (2, .int x2), (3, .int x3), (4, .int x4)] → va_P D classes (wd_Model_printAffix cC cI a0_0 a0_1 a0_2 a0_3 a0_4 a0_5 a0_6 a0_7 v0) H → va_D A (wd_Model_printAffix cC cI a0_0 a0_1 a0_2 a0_3 a0_4 a0_5 a0_6 a0_7 v0) → va_S A s.heap H locs → W p l e rm_Model_printAffix s m args below meth c H locs 0 0 (MQ below (q_Model_printAffix D cC cI a0_0 a0_1 a0_2 a0_3 a0_4 a0_5 a0_6 a0_7 out A) args s 0 0 A) (F0 m 70 ls [])
def J_Model_printAffix_85 (p : Program) (l : Launch) (e : Env) (s : State) (m : MethodId) (args : Array Value) (below : List Frame) (meth : Method) (c : Code) (A : Nat → Prop) (D : va_G) (cC cI : ClassId) (a0_0 a0_1 a0_2 a0_3 a0_4 a0_5 a0_6 a0_7 : Nat) (out : O_Model_printAffix) (k : T_Model → Int32 → Int32 → Int32 → Int32 → Option O_Model_printAffix) : Prop := ∀ (v0 : T_Model) (x1 : Int32) (x3 : Int32) (x4 : Int32) (s0 : Int32) (ls : Array Slot) (H : Heap) (locs : List Loc), k v0 x1 x3 x4 s0 = some out → lv_has ls 6 [(0, .ref a0_0), (1, .int x1), (3, .int x3), (4, .int x4)] → va_P D classes (wd_Model_printAffix cC cI a0_0 a0_1 a0_2 a0_3 a0_4 a0_5 a0_6 a0_7 v0) H → va_D A (wd_Model_printAffix cC cI a0_0 a0_1 a0_2 a0_3 a0_4 a0_5 a0_6 a0_7 v0) → va_S A s.heap H locs → W p l e rm_Model_printAffix s m args below meth c H locs 0 0 (MQ below (q_Model_printAffix D cC cI a0_0 a0_1 a0_2 a0_3 a0_4 a0_5 a0_6 a0_7 out A) args s 0 0 A) (F0 m 85 ls [.int s0])
def f_Model_printAffix_85 (k4 : T_Model → Int32 → Int32 → Int32 → Option O_Model_printAffix) (v0 : T_Model) (x1 : Int32) (x3 : Int32) (x4 : Int32) (s0 : Int32) : Option O_Model_printAffix := f_Model_printAffix_86 k4 v0 x1 s0 x3 x4
set_option maxHeartbeats 4000000 in
set_option maxRecDepth 100000 in
theorem w_Model_printAffix_85 {p : Program} {l : Launch} {e : Env} {s : State} {m : MethodId} {args : Array Value} {below : List Frame} {meth : Method} {c : Code} {A : Nat → Prop} {D : va_G} {cC cI : ClassId} {a0_0 a0_1 a0_2 a0_3 a0_4 a0_5 a0_6 a0_7 : Nat} (X : xCX p s m args meth c A D cC cI b_Model_printAffix 6 R_Model none) {out : O_Model_printAffix} {k4 : T_Model → Int32 → Int32 → Int32 → Option O_Model_printAffix} (hk4 : J_Model_printAffix_4 p l e s m args below meth c A D cC cI a0_0 a0_1 a0_2 a0_3 a0_4 a0_5 a0_6 a0_7 out k4) : J_Model_printAffix_85 p l e s m args below meth c A D cC cI a0_0 a0_1 a0_2 a0_3 a0_4 a0_5 a0_6 a0_7 out (f_Model_printAffix_85  k4) := by
  obtain ⟨hx, hb, hml, hown, htB, ⟨hK, hN⟩, hZ, hA, hr, hlocks⟩ := id X
  intro v0 x1 x3 x4 s0 ls H locs h hl hP hD hS
  refine lv_istore_n (lv' := [(2, .int s0), (0, .ref a0_0), (1, .int x1), (3, .int x3), (4, .int x4)]) hx hb d_Model_printAffix_85 rfl hl (by decide) rfl (fun ls hl => ?_)
  exact w_Model_printAffix_86 X hk4 v0 x1 s0 x3 x4 ls H locs h (lv_sub hl [1, 2, 0, 3, 4] rfl) hP hD hS

def f_Model_printAffix_70 (k4 : T_Model → Int32 → Int32 → Int32 → Option O_Model_printAffix) (v0 : T_Model) (x1 : Int32) (x2 : Int32) (x3 : Int32) (x4 : Int32) : Option O_Model_printAffix := (f_Model_write v0 (39 : Int32)).bind (fun o73 => (if x2 = 0 then f_Model_printAffix_85 k4 o73 x1 x3 x4 (1 : Int32) else f_Model_printAffix_85 k4 o73 x1 x3 x4 (0 : Int32)))
set_option maxHeartbeats 4000000 in
set_option maxRecDepth 100000 in
theorem w_Model_printAffix_70 {p : Program} {l : Launch} {e : Env} {s : State} {m : MethodId} {args : Array Value} {below : List Frame} {meth : Method} {c : Code} {A : Nat → Prop} {D : va_G} {cC cI : ClassId} {a0_0 a0_1 a0_2 a0_3 a0_4 a0_5 a0_6 a0_7 : Nat} (X : xCX p s m args meth c A D cC cI b_Model_printAffix 6 R_Model none) {out : O_Model_printAffix} {k4 : T_Model → Int32 → Int32 → Int32 → Option O_Model_printAffix} (hk4 : J_Model_printAffix_4 p l e s m args below meth c A D cC cI a0_0 a0_1 a0_2 a0_3 a0_4 a0_5 a0_6 a0_7 out k4) : J_Model_printAffix_70 p l e s m args below meth c A D cC cI a0_0 a0_1 a0_2 a0_3 a0_4 a0_5 a0_6 a0_7 out (f_Model_printAffix_70  k4) := by
  obtain ⟨hx, hb, hml, hown, htB, ⟨hK, hN⟩, hZ, hA, hr, hlocks⟩ := id X
  intro v0 x1 x2 x3 x4 ls H locs h hl hP hD hS
  refine lv_aload_n hx hb d_Model_printAffix_70 rfl (lv_at hl 0 rfl) ?_
  refine lv_bipush (v := 39) hx hb d_Model_printAffix_71 (by decide) ?_
  obtain ⟨o73, ho73, h⟩ := x_bnd h
  refine x_callv (ws2 := (wd_Model_printAffix cC cI a0_0 a0_1 a0_2 a0_3 a0_4 a0_5 a0_6 a0_7 o73)) (x_runV (As := [.int (39 : Int32)]) (rest := []) X (c_Model_write l D cC cI H.size a0_0 a0_1 a0_2 a0_3 a0_4 a0_5 a0_6 a0_7 v0 (39 : Int32) o73 ho73) b_378 1 (htB _ b_381) (htB _ b_379) (htB _ b_380) (htB _ b_319) ⟨by decide, by decide, by decide +kernel⟩ ⟨(Nat.le_of_ble_eq_true rfl), (Nat.le_of_ble_eq_true rfl)⟩ 0 rfl rfl hP hD hS [0, 1, 2, 3, 4, 5, 6, 7] rfl (by decide) rfl rfl hl.1 rfl rfl (Nat.le_of_ble_eq_true rfl) d_Model_printAffix_73) hP hD hS hA [0, 1, 2, 3, 4, 5, 6, 7] [] [0, 1, 2, 3, 4, 5, 6, 7] rfl rfl (by decide) (by decide) rfl (by decide) (fun H locs hP hD hS => ?_)
  refine lv_iload_n hx hb d_Model_printAffix_76 rfl (lv_at hl 2 rfl) ?_
  refine lv_if_ne (tgt := 84) hx hb d_Model_printAffix_77 rfl (fun hc => ?_) (fun hc => ?_)
  · have h := (if_neg hc).symm.trans h
    refine lv_iconst (v := 0) hx hb d_Model_printAffix_84 (by decide) ?_
    exact w_Model_printAffix_85 X hk4 o73 x1 x3 x4 (0 : Int32) ls H locs h (lv_sub hl [0, 1, 3, 4] rfl) hP hD hS
  have h := (if_pos hc).symm.trans h
  refine lv_iconst (v := 1) hx hb d_Model_printAffix_80 (by decide) ?_
  refine lv_goto (tgt := 85) hx hb d_Model_printAffix_81 rfl ?_
  exact w_Model_printAffix_85 X hk4 o73 x1 x3 x4 (1 : Int32) ls H locs h (lv_sub hl [0, 1, 3, 4] rfl) hP hD hS

def f_Model_printAffix_58 (k4 : T_Model → Int32 → Int32 → Int32 → Option O_Model_printAffix) (v0 : T_Model) (x1 : Int32) (x2 : Int32) (x3 : Int32) (x4 : Int32) : Option O_Model_printAffix := (if x4 = (200 : Int32) then (if x2 = 0 then f_Model_printAffix_86 k4 v0 x1 x2 x3 x4 else f_Model_printAffix_70 k4 v0 x1 x2 x3 x4) else f_Model_printAffix_86 k4 v0 x1 x2 x3 x4)
set_option maxHeartbeats 4000000 in
set_option maxRecDepth 100000 in
theorem w_Model_printAffix_58 {p : Program} {l : Launch} {e : Env} {s : State} {m : MethodId} {args : Array Value} {below : List Frame} {meth : Method} {c : Code} {A : Nat → Prop} {D : va_G} {cC cI : ClassId} {a0_0 a0_1 a0_2 a0_3 a0_4 a0_5 a0_6 a0_7 : Nat} (X : xCX p s m args meth c A D cC cI b_Model_printAffix 6 R_Model none) {out : O_Model_printAffix} {k4 : T_Model → Int32 → Int32 → Int32 → Option O_Model_printAffix} (hk4 : J_Model_printAffix_4 p l e s m args below meth c A D cC cI a0_0 a0_1 a0_2 a0_3 a0_4 a0_5 a0_6 a0_7 out k4) : J_Model_printAffix_58 p l e s m args below meth c A D cC cI a0_0 a0_1 a0_2 a0_3 a0_4 a0_5 a0_6 a0_7 out (f_Model_printAffix_58  k4) := by
  obtain ⟨hx, hb, hml, hown, htB, ⟨hK, hN⟩, hZ, hA, hr, hlocks⟩ := id X
  intro v0 x1 x2 x3 x4 ls H locs h hl hP hD hS
  refine lv_iload hx hb d_Model_printAffix_58 (lv_at hl 4 rfl) ?_
  refine lv_sipush (v := 200) hx hb d_Model_printAffix_60 (by decide) ?_
  refine lv_icmp_ne (tgt := 86) hx hb d_Model_printAffix_63 rfl (fun hc => ?_) (fun hc => ?_)
  · have h := (if_neg hc).symm.trans h
    exact w_Model_printAffix_86 X hk4 v0 x1 x2 x3 x4 ls H locs h (lv_sub hl [0, 1, 2, 3, 4] rfl) hP hD hS
  have h := (if_pos hc).symm.trans h
  refine lv_iload_n hx hb d_Model_printAffix_66 rfl (lv_at hl 2 rfl) ?_
  refine lv_if_eq (tgt := 86) hx hb d_Model_printAffix_67 rfl (fun hc => ?_) (fun hc => ?_)
  · have h := (if_pos hc).symm.trans h
    exact w_Model_printAffix_86 X hk4 v0 x1 x2 x3 x4 ls H locs h (lv_sub hl [0, 1, 2, 3, 4] rfl) hP hD hS
  have h := (if_neg hc).symm.trans h
  exact w_Model_printAffix_70 X hk4 v0 x1 x2 x3 x4 ls H locs h (lv_sub hl [0, 1, 2, 3, 4] rfl) hP hD hS

def f_Model_printAffix_47 (k4 : T_Model → Int32 → Int32 → Int32 → Option O_Model_printAffix) (v0 : T_Model) (x1 : Int32) (x2 : Int32) (x3 : Int32) (x4 : Int32) (s0 : Int32) : Option O_Model_printAffix := (if s0 = 0 then f_Model_printAffix_58 k4 v0 x1 x2 x3 x4 else (if x2 = 0 then f_Model_printAffix_70 k4 v0 x1 x2 x3 x4 else f_Model_printAffix_58 k4 v0 x1 x2 x3 x4))
set_option maxHeartbeats 4000000 in
set_option maxRecDepth 100000 in
theorem w_Model_printAffix_47 {p : Program} {l : Launch} {e : Env} {s : State} {m : MethodId} {args : Array Value} {below : List Frame} {meth : Method} {c : Code} {A : Nat → Prop} {D : va_G} {cC cI : ClassId} {a0_0 a0_1 a0_2 a0_3 a0_4 a0_5 a0_6 a0_7 : Nat} (X : xCX p s m args meth c A D cC cI b_Model_printAffix 6 R_Model none) {out : O_Model_printAffix} {k4 : T_Model → Int32 → Int32 → Int32 → Option O_Model_printAffix} (hk4 : J_Model_printAffix_4 p l e s m args below meth c A D cC cI a0_0 a0_1 a0_2 a0_3 a0_4 a0_5 a0_6 a0_7 out k4) : J_Model_printAffix_47 p l e s m args below meth c A D cC cI a0_0 a0_1 a0_2 a0_3 a0_4 a0_5 a0_6 a0_7 out (f_Model_printAffix_47  k4) := by
  obtain ⟨hx, hb, hml, hown, htB, ⟨hK, hN⟩, hZ, hA, hr, hlocks⟩ := id X
  intro v0 x1 x2 x3 x4 s0 ls H locs h hl hP hD hS
  refine lv_istore (lv' := [(5, .int s0), (0, .ref a0_0), (1, .int x1), (2, .int x2), (3, .int x3), (4, .int x4)]) hx hb d_Model_printAffix_47 hl (by decide) rfl (fun ls hl => ?_)
  refine lv_iload hx hb d_Model_printAffix_49 (lv_at hl 0 rfl) ?_
  refine lv_if_eq (tgt := 58) hx hb d_Model_printAffix_51 rfl (fun hc => ?_) (fun hc => ?_)
  · have h := (if_pos hc).symm.trans h
    exact w_Model_printAffix_58 X hk4 v0 x1 x2 x3 x4 ls H locs h (lv_sub hl [1, 2, 3, 4, 5] rfl) hP hD hS
  have h := (if_neg hc).symm.trans h
  refine lv_iload_n hx hb d_Model_printAffix_54 rfl (lv_at hl 3 rfl) ?_
  refine lv_if_eq (tgt := 70) hx hb d_Model_printAffix_55 rfl (fun hc => ?_) (fun hc => ?_)
  · have h := (if_pos hc).symm.trans h
    exact w_Model_printAffix_70 X hk4 v0 x1 x2 x3 x4 ls H locs h (lv_sub hl [1, 2, 3, 4, 5] rfl) hP hD hS
  have h := (if_neg hc).symm.trans h
  exact w_Model_printAffix_58 X hk4 v0 x1 x2 x3 x4 ls H locs h (lv_sub hl [1, 2, 3, 4, 5] rfl) hP hD hS

def f_Model_printAffix_42 (k4 : T_Model → Int32 → Int32 → Int32 → Option O_Model_printAffix) (v0 : T_Model) (x1 : Int32) (x2 : Int32) (x3 : Int32) (x4 : Int32) : Option O_Model_printAffix := f_Model_printAffix_47 k4 v0 x1 x2 x3 x4 (1 : Int32)
set_option maxHeartbeats 4000000 in
set_option maxRecDepth 100000 in
theorem w_Model_printAffix_42 {p : Program} {l : Launch} {e : Env} {s : State} {m : MethodId} {args : Array Value} {below : List Frame} {meth : Method} {c : Code} {A : Nat → Prop} {D : va_G} {cC cI : ClassId} {a0_0 a0_1 a0_2 a0_3 a0_4 a0_5 a0_6 a0_7 : Nat} (X : xCX p s m args meth c A D cC cI b_Model_printAffix 6 R_Model none) {out : O_Model_printAffix} {k4 : T_Model → Int32 → Int32 → Int32 → Option O_Model_printAffix} (hk4 : J_Model_printAffix_4 p l e s m args below meth c A D cC cI a0_0 a0_1 a0_2 a0_3 a0_4 a0_5 a0_6 a0_7 out k4) : J_Model_printAffix_42 p l e s m args below meth c A D cC cI a0_0 a0_1 a0_2 a0_3 a0_4 a0_5 a0_6 a0_7 out (f_Model_printAffix_42  k4) := by
  obtain ⟨hx, hb, hml, hown, htB, ⟨hK, hN⟩, hZ, hA, hr, hlocks⟩ := id X
  intro v0 x1 x2 x3 x4 ls H locs h hl hP hD hS
  refine lv_iconst (v := 1) hx hb d_Model_printAffix_42 (by decide) ?_
  refine lv_goto (tgt := 47) hx hb d_Model_printAffix_43 rfl ?_
  exact w_Model_printAffix_47 X hk4 v0 x1 x2 x3 x4 (1 : Int32) ls H locs h (lv_sub hl [0, 1, 2, 3, 4] rfl) hP hD hS

def f_Model_printAffix_4   : Nat → T_Model → Int32 → Int32 → Int32 → Option O_Model_printAffix
  | 0, _, _, _, _ => none
  | n + 1, v0, x1, x2, x3 => if ix x1 4 then (if (v0.2.2.2.2.2.2.2.1 x1.toNatClampNeg) ≤ x3 then (if x2 = 0 then f_Model_printAffix_134 v0 else (f_Model_write v0 (39 : Int32)).bind (fun o131 => f_Model_printAffix_134 o131)) else if ix (((40 : Int32) * x1) + x3) 160 then (f_Model_special (v0.2.2.2.2.2.2.1 (((40 : Int32) * x1) + x3).toNatClampNeg)).bind (fun o29 => (if o29 = 0 then (if (v0.2.2.2.2.2.2.1 (((40 : Int32) * x1) + x3).toNatClampNeg) = (37 : Int32) then f_Model_printAffix_42 (f_Model_printAffix_4  n) v0 x1 x2 x3 (v0.2.2.2.2.2.2.1 (((40 : Int32) * x1) + x3).toNatClampNeg) else f_Model_printAffix_47 (f_Model_printAffix_4  n) v0 x1 x2 x3 (v0.2.2.2.2.2.2.1 (((40 : Int32) * x1) + x3).toNatClampNeg) (0 : Int32)) else f_Model_printAffix_42 (f_Model_printAffix_4  n) v0 x1 x2 x3 (v0.2.2.2.2.2.2.1 (((40 : Int32) * x1) + x3).toNatClampNeg))) else none) else none
set_option maxHeartbeats 4000000 in
set_option maxRecDepth 100000 in
theorem w_Model_printAffix_4 {p : Program} {l : Launch} {e : Env} {s : State} {m : MethodId} {args : Array Value} {below : List Frame} {meth : Method} {c : Code} {A : Nat → Prop} {D : va_G} {cC cI : ClassId} {a0_0 a0_1 a0_2 a0_3 a0_4 a0_5 a0_6 a0_7 : Nat} (X : xCX p s m args meth c A D cC cI b_Model_printAffix 6 R_Model none) {out : O_Model_printAffix}   : ∀ n : Nat, J_Model_printAffix_4 p l e s m args below meth c A D cC cI a0_0 a0_1 a0_2 a0_3 a0_4 a0_5 a0_6 a0_7 out (f_Model_printAffix_4   n) := by
  obtain ⟨hx, hb, hml, hown, htB, ⟨hK, hN⟩, hZ, hA, hr, hlocks⟩ := id X
  intro n
  induction n with
  | zero =>
    intro v0 x1 x2 x3 ls H locs h hl hP hD hS
    cases h
  | succ n ih =>
    intro v0 x1 x2 x3 ls H locs h hl hP hD hS
    refine lv_iload_n hx hb d_Model_printAffix_4 rfl (lv_at hl 3 rfl) ?_
    refine lv_aload_n hx hb d_Model_printAffix_5 rfl (lv_at hl 0 rfl) ?_
    refine va_get (D := D) (ci := 11) (v := .ref a0_4) (C := R_Model) (T := F_Model) (N := 23) hx hb htB in_Model hown hK hP 0 rfl rfl 7 (by decide) (htB _ b_315) (fun _ h9 => h9) rfl d_Model_printAffix_6 ?_
    refine lv_iload_n hx hb d_Model_printAffix_9 rfl (lv_at hl 1 rfl) ?_
    obtain ⟨hc, h⟩ := x_chk h
    refine va_iald hx hb hK hP 4 1 rfl rfl hc d_Model_printAffix_10 ?_
    refine lv_icmp_ge (tgt := 124) hx hb d_Model_printAffix_11 rfl (fun hc => ?_) (fun hc => ?_)
    · have h := (if_pos hc).symm.trans h
      refine lv_iload_n hx hb d_Model_printAffix_124 rfl (lv_at hl 2 rfl) ?_
      refine lv_if_eq (tgt := 134) hx hb d_Model_printAffix_125 rfl (fun hc => ?_) (fun hc => ?_)
      · have h := (if_pos hc).symm.trans h
        exact w_Model_printAffix_134 X v0 ls H locs h (lv_sub hl [] rfl) hP hD hS
      have h := (if_neg hc).symm.trans h
      refine lv_aload_n hx hb d_Model_printAffix_128 rfl (lv_at hl 0 rfl) ?_
      refine lv_bipush (v := 39) hx hb d_Model_printAffix_129 (by decide) ?_
      obtain ⟨o131, ho131, h⟩ := x_bnd h
      refine x_callv (ws2 := (wd_Model_printAffix cC cI a0_0 a0_1 a0_2 a0_3 a0_4 a0_5 a0_6 a0_7 o131)) (x_runV (As := [.int (39 : Int32)]) (rest := []) X (c_Model_write l D cC cI H.size a0_0 a0_1 a0_2 a0_3 a0_4 a0_5 a0_6 a0_7 v0 (39 : Int32) o131 ho131) b_378 1 (htB _ b_381) (htB _ b_379) (htB _ b_380) (htB _ b_319) ⟨by decide, by decide, by decide +kernel⟩ ⟨(Nat.le_of_ble_eq_true rfl), (Nat.le_of_ble_eq_true rfl)⟩ 0 rfl rfl hP hD hS [0, 1, 2, 3, 4, 5, 6, 7] rfl (by decide) rfl rfl hl.1 rfl rfl (Nat.le_of_ble_eq_true rfl) d_Model_printAffix_131) hP hD hS hA [0, 1, 2, 3, 4, 5, 6, 7] [] [0, 1, 2, 3, 4, 5, 6, 7] rfl rfl (by decide) (by decide) rfl (by decide) (fun H locs hP hD hS => ?_)
      exact w_Model_printAffix_134 X o131 ls H locs h (lv_sub hl [] rfl) hP hD hS
    have h := (if_neg hc).symm.trans h
    refine lv_aload_n hx hb d_Model_printAffix_14 rfl (lv_at hl 0 rfl) ?_
    refine va_get (D := D) (ci := 11) (v := .ref a0_3) (C := R_Model) (T := F_Model) (N := 23) hx hb htB in_Model hown hK hP 0 rfl rfl 6 (by decide) (htB _ b_314) (fun _ h9 => h9) rfl d_Model_printAffix_15 ?_
    refine lv_bipush (v := 40) hx hb d_Model_printAffix_18 (by decide) ?_
    refine lv_iload_n hx hb d_Model_printAffix_20 rfl (lv_at hl 1 rfl) ?_
    refine lv_imul hx hb d_Model_printAffix_21 ?_
    refine lv_iload_n hx hb d_Model_printAffix_22 rfl (lv_at hl 3 rfl) ?_
    refine lv_iadd hx hb d_Model_printAffix_23 ?_
    obtain ⟨hc, h⟩ := x_chk h
    refine va_iald hx hb hK hP 3 1 rfl rfl hc d_Model_printAffix_24 ?_
    refine lv_istore (lv' := [(4, .int (v0.2.2.2.2.2.2.1 (((40 : Int32) * x1) + x3).toNatClampNeg)), (0, .ref a0_0), (1, .int x1), (2, .int x2), (3, .int x3)]) hx hb d_Model_printAffix_25 hl (by decide) rfl (fun ls hl => ?_)
    refine lv_iload hx hb d_Model_printAffix_27 (lv_at hl 0 rfl) ?_
    obtain ⟨o29, ho29, h⟩ := x_bnd h
    refine x_calli (r0 := o29) (ws2 := (wd_Model_printAffix cC cI a0_0 a0_1 a0_2 a0_3 a0_4 a0_5 a0_6 a0_7 v0)) (x_runS (As := [.int (v0.2.2.2.2.2.2.1 (((40 : Int32) * x1) + x3).toNatClampNeg)]) (rest := []) X (c_Model_special l D cC cI H.size (v0.2.2.2.2.2.2.1 (((40 : Int32) * x1) + x3).toNatClampNeg) o29 ho29) b_327 1 (htB _ b_329) (htB _ b_328) (htB _ b_319) ⟨by decide, by decide, by decide +kernel⟩ ⟨(Nat.le_of_ble_eq_true rfl), (Nat.le_of_ble_eq_true rfl)⟩ hP hD hS [] rfl (by decide) rfl rfl hl.1 rfl rfl (Nat.le_of_ble_eq_true rfl) d_Model_printAffix_29) hP hD hS hA [] [0, 1, 2, 3, 4, 5, 6, 7] [0, 1, 2, 3, 4, 5, 6, 7] rfl rfl (by decide) (by decide) rfl (by decide) (fun H locs hP hD hS => ?_)
    refine lv_if_ne (tgt := 42) hx hb d_Model_printAffix_32 rfl (fun hc => ?_) (fun hc => ?_)
    · have h := (if_neg hc).symm.trans h
      exact w_Model_printAffix_42 X ih v0 x1 x2 x3 (v0.2.2.2.2.2.2.1 (((40 : Int32) * x1) + x3).toNatClampNeg) ls H locs h (lv_sub hl [1, 2, 3, 4, 0] rfl) hP hD hS
    have h := (if_pos hc).symm.trans h
    refine lv_iload hx hb d_Model_printAffix_35 (lv_at hl 0 rfl) ?_
    refine lv_bipush (v := 37) hx hb d_Model_printAffix_37 (by decide) ?_
    refine lv_icmp_ne (tgt := 46) hx hb d_Model_printAffix_39 rfl (fun hc => ?_) (fun hc => ?_)
    · have h := (if_neg hc).symm.trans h
      refine lv_iconst (v := 0) hx hb d_Model_printAffix_46 (by decide) ?_
      exact w_Model_printAffix_47 X ih v0 x1 x2 x3 (v0.2.2.2.2.2.2.1 (((40 : Int32) * x1) + x3).toNatClampNeg) (0 : Int32) ls H locs h (lv_sub hl [1, 2, 3, 4, 0] rfl) hP hD hS
    have h := (if_pos hc).symm.trans h
    exact w_Model_printAffix_42 X ih v0 x1 x2 x3 (v0.2.2.2.2.2.2.1 (((40 : Int32) * x1) + x3).toNatClampNeg) ls H locs h (lv_sub hl [1, 2, 3, 4, 0] rfl) hP hD hS

def f_Model_printAffix (v0 : T_Model) (v1 : Int32) : Option O_Model_printAffix := f_Model_printAffix_4 FU v0 v1 (0 : Int32) (0 : Int32)
set_option maxHeartbeats 4000000 in
set_option maxRecDepth 100000 in
theorem w_Model_printAffix {p : Program} {l : Launch} {e : Env} {s : State} {m : MethodId} {args : Array Value} {below : List Frame} {meth : Method} {c : Code} {A : Nat → Prop} {D : va_G} {cC cI : ClassId} {a0_0 a0_1 a0_2 a0_3 a0_4 a0_5 a0_6 a0_7 : Nat} (X : xCX p s m args meth c A D cC cI b_Model_printAffix 6 R_Model none) {out : O_Model_printAffix} (v0 : T_Model) (v1 : Int32) {ls : Array Slot} {H : Heap} {locs : List Loc} (h : f_Model_printAffix v0 v1 = some out) (hl : lv_has ls 6 [(0, .ref a0_0), (1, .int v1)]) (hP : va_P D classes (wd_Model_printAffix cC cI a0_0 a0_1 a0_2 a0_3 a0_4 a0_5 a0_6 a0_7 v0) H) (hD : va_D A (wd_Model_printAffix cC cI a0_0 a0_1 a0_2 a0_3 a0_4 a0_5 a0_6 a0_7 v0)) (hS : va_S A s.heap H locs) : W p l e rm_Model_printAffix s m args below meth c H locs 0 0 (MQ below (q_Model_printAffix D cC cI a0_0 a0_1 a0_2 a0_3 a0_4 a0_5 a0_6 a0_7 out A) args s 0 0 A) (F0 m 0 ls []) := by
  obtain ⟨hx, hb, hml, hown, htB, ⟨hK, hN⟩, hZ, hA, hr, hlocks⟩ := id X
  refine lv_iconst (v := 0) hx hb d_Model_printAffix_0 (by decide) ?_
  refine lv_istore_n (lv' := [(2, .int (0 : Int32)), (0, .ref a0_0), (1, .int v1)]) hx hb d_Model_printAffix_1 rfl hl (by decide) rfl (fun ls hl => ?_)
  refine lv_iconst (v := 0) hx hb d_Model_printAffix_2 (by decide) ?_
  refine lv_istore_n (lv' := [(3, .int (0 : Int32)), (2, .int (0 : Int32)), (0, .ref a0_0), (1, .int v1)]) hx hb d_Model_printAffix_3 rfl hl (by decide) rfl (fun ls hl => ?_)
  exact w_Model_printAffix_4 X FU v0 v1 (0 : Int32) (0 : Int32) ls H locs h (lv_sub hl [2, 3, 1, 0] rfl) hP hD hS

set_option maxHeartbeats 4000000 in
set_option maxRecDepth 100000 in
theorem c_Model_printAffix (l : Launch) (D : va_G) (cC cI : ClassId) (sz : Nat) (a0_0 a0_1 a0_2 a0_3 a0_4 a0_5 a0_6 a0_7 : Nat) (v0 : T_Model) (v1 : Int32) (out : O_Model_printAffix) (h : f_Model_printAffix v0 v1 = some out) : Met l y_Model_printAffix (.code y_Model_printAffix b_Model_printAffix 6 none :: BIG) rm_Model_printAffix (va_Pc [.ref a0_0, .int v1] (xPre D cC cI (wd_Model_printAffix cC cI a0_0 a0_1 a0_2 a0_3 a0_4 a0_5 a0_6 a0_7 v0) sz)) (q_Model_printAffix D cC cI a0_0 a0_1 a0_2 a0_3 a0_4 a0_5 a0_6 a0_7 out (va_A (wd_Model_printAffix cC cI a0_0 a0_1 a0_2 a0_3 a0_4 a0_5 a0_6 a0_7 v0) sz)) 0 0 (va_A (wd_Model_printAffix cC cI a0_0 a0_1 a0_2 a0_3 a0_4 a0_5 a0_6 a0_7 v0) sz) := by
  refine Met.ofW (cc := b_Model_printAffix) (maxL := 6) (ret := none) (by decide) rfl ?_
  intro p e s m args below meth c s₁ B hml hv
  obtain ⟨rfl, rfl, hP, hD0, hG, hZ⟩ := hv
  have hl := lv_entry [.ref a0_0, .int v1] (n := 6) (Nat.le_of_ble_eq_true rfl)
  rw [lg_entry_eq]
  exact w_Model_printAffix (x_cx B hml hG hZ) v0 v1 h hl hP hD0.self va_S.rf

abbrev wd_Model_many (cC cI : ClassId) (a0_0 a0_1 a0_2 a0_3 a0_4 a0_5 a0_6 a0_7 : Nat) (v0 : T_Model) : va_W := [(a0_0, .inr (11, [.ref a0_1, .int v0.2.1, .ref a0_2, .int v0.2.2.2.1, .int v0.2.2.2.2.1, .int v0.2.2.2.2.2.1, .ref a0_3, .ref a0_4, .ref a0_5, .int v0.2.2.2.2.2.2.2.2.2.1, .int v0.2.2.2.2.2.2.2.2.2.2.1, .int v0.2.2.2.2.2.2.2.2.2.2.2.1, .int v0.2.2.2.2.2.2.2.2.2.2.2.2.1, .ref a0_6, .int v0.2.2.2.2.2.2.2.2.2.2.2.2.2.2.1, .int v0.2.2.2.2.2.2.2.2.2.2.2.2.2.2.2.1, .int v0.2.2.2.2.2.2.2.2.2.2.2.2.2.2.2.2.1, .ref a0_7, .long v0.2.2.2.2.2.2.2.2.2.2.2.2.2.2.2.2.2.2.1, .int v0.2.2.2.2.2.2.2.2.2.2.2.2.2.2.2.2.2.2.2.1, .long v0.2.2.2.2.2.2.2.2.2.2.2.2.2.2.2.2.2.2.2.2.1, .int v0.2.2.2.2.2.2.2.2.2.2.2.2.2.2.2.2.2.2.2.2.2.1, .int v0.2.2.2.2.2.2.2.2.2.2.2.2.2.2.2.2.2.2.2.2.2.2])), (a0_1, .inl (cC, 120, .inl v0.1)), (a0_2, .inl (cC, 200, .inl v0.2.2.1)), (a0_3, .inl (cI, 160, .inl v0.2.2.2.2.2.2.1)), (a0_4, .inl (cI, 4, .inl v0.2.2.2.2.2.2.2.1)), (a0_5, .inl (cI, 7, .inl v0.2.2.2.2.2.2.2.2.1)), (a0_6, .inl (cI, 40, .inl v0.2.2.2.2.2.2.2.2.2.2.2.2.2.1)), (a0_7, .inl (cI, 6, .inl v0.2.2.2.2.2.2.2.2.2.2.2.2.2.2.2.2.2.1))]
abbrev O_Model_many : Type := T_Model
abbrev q_Model_many (D : va_G) (cC cI : ClassId) (a0_0 a0_1 a0_2 a0_3 a0_4 a0_5 a0_6 a0_7 : Nat)  (out : O_Model_many) (A : Nat → Prop) : Array Value → State → Outcome → State → Prop := va_Qv (fun _ : Unit => True) (fun _ t => va_P D classes (wd_Model_many cC cI a0_0 a0_1 a0_2 a0_3 a0_4 a0_5 a0_6 a0_7 out) t.heap ∧ va_D A (wd_Model_many cC cI a0_0 a0_1 a0_2 a0_3 a0_4 a0_5 a0_6 a0_7 out)) A
abbrev rm_Model_many : Room := { frames := 1, cells := 0, slots := 0, locals := 21 }
def J_Model_many_2 (p : Program) (l : Launch) (e : Env) (s : State) (m : MethodId) (args : Array Value) (below : List Frame) (meth : Method) (c : Code) (A : Nat → Prop) (D : va_G) (cC cI : ClassId) (a0_0 a0_1 a0_2 a0_3 a0_4 a0_5 a0_6 a0_7 : Nat) (out : O_Model_many) (k : T_Model → Int32 → Int32 → Int32 → Option O_Model_many) : Prop := ∀ (v0 : T_Model) (x1 : Int32) (x2 : Int32) (x3 : Int32) (ls : Array Slot) (H : Heap) (locs : List Loc), k v0 x1 x2 x3 = some out → lv_has ls 4 [(0, .ref a0_0), (1, .int x1), (2, .int x2), (3, .int x3)] → va_P D classes (wd_Model_many cC cI a0_0 a0_1 a0_2 a0_3 a0_4 a0_5 a0_6 a0_7 v0) H → va_D A (wd_Model_many cC cI a0_0 a0_1 a0_2 a0_3 a0_4 a0_5 a0_6 a0_7 v0) → va_S A s.heap H locs → W p l e rm_Model_many s m args below meth c H locs 0 0 (MQ below (q_Model_many D cC cI a0_0 a0_1 a0_2 a0_3 a0_4 a0_5 a0_6 a0_7 out A) args s 0 0 A) (F0 m 2 ls [])
def f_Model_many_2   : Nat → T_Model → Int32 → Int32 → Int32 → Option O_Model_many
  | 0, _, _, _, _ => none
  | n + 1, v0, x1, x2, x3 => (if x1 ≤ x3 then some v0 else (f_Model_write v0 x2).bind (fun o9 => (f_Model_many_2  n) o9 x1 x2 (x3 + (1 : Int32))))
set_option maxHeartbeats 4000000 in
set_option maxRecDepth 100000 in
theorem w_Model_many_2 {p : Program} {l : Launch} {e : Env} {s : State} {m : MethodId} {args : Array Value} {below : List Frame} {meth : Method} {c : Code} {A : Nat → Prop} {D : va_G} {cC cI : ClassId} {a0_0 a0_1 a0_2 a0_3 a0_4 a0_5 a0_6 a0_7 : Nat} (X : xCX p s m args meth c A D cC cI b_Model_many 4 R_Model none) {out : O_Model_many}   : ∀ n : Nat, J_Model_many_2 p l e s m args below meth c A D cC cI a0_0 a0_1 a0_2 a0_3 a0_4 a0_5 a0_6 a0_7 out (f_Model_many_2   n) := by
  obtain ⟨hx, hb, hml, hown, htB, ⟨hK, hN⟩, hZ, hA, hr, hlocks⟩ := id X
  intro n
  induction n with
  | zero =>
    intro v0 x1 x2 x3 ls H locs h hl hP hD hS
    cases h
  | succ n ih =>
    intro v0 x1 x2 x3 ls H locs h hl hP hD hS
    refine lv_iload_n hx hb d_Model_many_2 rfl (lv_at hl 3 rfl) ?_
    refine lv_iload_n hx hb d_Model_many_3 rfl (lv_at hl 1 rfl) ?_
    refine lv_icmp_ge (tgt := 18) hx hb d_Model_many_4 rfl (fun hc => ?_) (fun hc => ?_)
    · have h := (if_pos hc).symm.trans h
      obtain rfl := Option.some.inj h
      exact W.vret hx hb hr (fun t ht hW => ⟨⟨(), rfl, trivial, by rw [ht]; exact hP, hD⟩, hS.F ht⟩) hS.2.2 d_Model_many_18 hlocks
    have h := (if_neg hc).symm.trans h
    refine lv_aload_n hx hb d_Model_many_7 rfl (lv_at hl 0 rfl) ?_
    refine lv_iload_n hx hb d_Model_many_8 rfl (lv_at hl 2 rfl) ?_
    obtain ⟨o9, ho9, h⟩ := x_bnd h
    refine x_callv (ws2 := (wd_Model_many cC cI a0_0 a0_1 a0_2 a0_3 a0_4 a0_5 a0_6 a0_7 o9)) (x_runV (As := [.int x2]) (rest := []) X (c_Model_write l D cC cI H.size a0_0 a0_1 a0_2 a0_3 a0_4 a0_5 a0_6 a0_7 v0 x2 o9 ho9) b_378 1 (htB _ b_381) (htB _ b_379) (htB _ b_380) (htB _ b_319) ⟨by decide, by decide, by decide +kernel⟩ ⟨(Nat.le_of_ble_eq_true rfl), (Nat.le_of_ble_eq_true rfl)⟩ 0 rfl rfl hP hD hS [0, 1, 2, 3, 4, 5, 6, 7] rfl (by decide) rfl rfl hl.1 rfl rfl (Nat.le_of_ble_eq_true rfl) d_Model_many_9) hP hD hS hA [0, 1, 2, 3, 4, 5, 6, 7] [] [0, 1, 2, 3, 4, 5, 6, 7] rfl rfl (by decide) (by decide) rfl (by decide) (fun H locs hP hD hS => ?_)
    refine lv_iinc (k := 3) (v := (x3 + (1 : Int32))) (lv' := [(3, .int (x3 + (1 : Int32))), (0, .ref a0_0), (1, .int x1), (2, .int x2)]) hx hb d_Model_many_12 hl rfl (congrArg (fun z => x3 + z) (by decide : Int32.ofInt 1 = (1 : Int32))) (by decide) rfl (fun ls hl => ?_)
    refine lv_goto (tgt := 2) hx hb d_Model_many_15 rfl ?_
    exact ih o9 x1 x2 (x3 + (1 : Int32)) ls H locs h (lv_sub hl [1, 2, 3, 0] rfl) hP hD hS

def f_Model_many (v0 : T_Model) (v1 : Int32) (v2 : Int32) : Option O_Model_many := f_Model_many_2 FU v0 v1 v2 (0 : Int32)
set_option maxHeartbeats 4000000 in
set_option maxRecDepth 100000 in
theorem w_Model_many {p : Program} {l : Launch} {e : Env} {s : State} {m : MethodId} {args : Array Value} {below : List Frame} {meth : Method} {c : Code} {A : Nat → Prop} {D : va_G} {cC cI : ClassId} {a0_0 a0_1 a0_2 a0_3 a0_4 a0_5 a0_6 a0_7 : Nat} (X : xCX p s m args meth c A D cC cI b_Model_many 4 R_Model none) {out : O_Model_many} (v0 : T_Model) (v1 : Int32) (v2 : Int32) {ls : Array Slot} {H : Heap} {locs : List Loc} (h : f_Model_many v0 v1 v2 = some out) (hl : lv_has ls 4 [(0, .ref a0_0), (1, .int v1), (2, .int v2)]) (hP : va_P D classes (wd_Model_many cC cI a0_0 a0_1 a0_2 a0_3 a0_4 a0_5 a0_6 a0_7 v0) H) (hD : va_D A (wd_Model_many cC cI a0_0 a0_1 a0_2 a0_3 a0_4 a0_5 a0_6 a0_7 v0)) (hS : va_S A s.heap H locs) : W p l e rm_Model_many s m args below meth c H locs 0 0 (MQ below (q_Model_many D cC cI a0_0 a0_1 a0_2 a0_3 a0_4 a0_5 a0_6 a0_7 out A) args s 0 0 A) (F0 m 0 ls []) := by
  obtain ⟨hx, hb, hml, hown, htB, ⟨hK, hN⟩, hZ, hA, hr, hlocks⟩ := id X
  refine lv_iconst (v := 0) hx hb d_Model_many_0 (by decide) ?_
  refine lv_istore_n (lv' := [(3, .int (0 : Int32)), (0, .ref a0_0), (1, .int v1), (2, .int v2)]) hx hb d_Model_many_1 rfl hl (by decide) rfl (fun ls hl => ?_)
  exact w_Model_many_2 X FU v0 v1 v2 (0 : Int32) ls H locs h (lv_sub hl [1, 2, 3, 0] rfl) hP hD hS

set_option maxHeartbeats 4000000 in
set_option maxRecDepth 100000 in
theorem c_Model_many (l : Launch) (D : va_G) (cC cI : ClassId) (sz : Nat) (a0_0 a0_1 a0_2 a0_3 a0_4 a0_5 a0_6 a0_7 : Nat) (v0 : T_Model) (v1 : Int32) (v2 : Int32) (out : O_Model_many) (h : f_Model_many v0 v1 v2 = some out) : Met l y_Model_many (.code y_Model_many b_Model_many 4 none :: BIG) rm_Model_many (va_Pc [.ref a0_0, .int v1, .int v2] (xPre D cC cI (wd_Model_many cC cI a0_0 a0_1 a0_2 a0_3 a0_4 a0_5 a0_6 a0_7 v0) sz)) (q_Model_many D cC cI a0_0 a0_1 a0_2 a0_3 a0_4 a0_5 a0_6 a0_7 out (va_A (wd_Model_many cC cI a0_0 a0_1 a0_2 a0_3 a0_4 a0_5 a0_6 a0_7 v0) sz)) 0 0 (va_A (wd_Model_many cC cI a0_0 a0_1 a0_2 a0_3 a0_4 a0_5 a0_6 a0_7 v0) sz) := by
  refine Met.ofW (cc := b_Model_many) (maxL := 4) (ret := none) (by decide) rfl ?_
  intro p e s m args below meth c s₁ B hml hv
  obtain ⟨rfl, rfl, hP, hD0, hG, hZ⟩ := hv
  have hl := lv_entry [.ref a0_0, .int v1, .int v2] (n := 4) (Nat.le_of_ble_eq_true rfl)
  rw [lg_entry_eq]
  exact w_Model_many (x_cx B hml hG hZ) v0 v1 v2 h hl hP hD0.self va_S.rf

