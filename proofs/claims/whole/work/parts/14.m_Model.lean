abbrev wd_Model_apply (cC cI : ClassId) (a0_0 a0_1 a0_2 a0_3 a0_4 a0_5 a0_6 a0_7 : Nat) (v0 : T_Model) : va_W := [(a0_0, .inr (11, [.ref a0_1, .int v0.2.1, .ref a0_2, .int v0.2.2.2.1, .int v0.2.2.2.2.1, .int v0.2.2.2.2.2.1, .ref a0_3, .ref a0_4, .ref a0_5, .int v0.2.2.2.2.2.2.2.2.2.1, .int v0.2.2.2.2.2.2.2.2.2.2.1, .int v0.2.2.2.2.2.2.2.2.2.2.2.1, .int v0.2.2.2.2.2.2.2.2.2.2.2.2.1, .ref a0_6, .int v0.2.2.2.2.2.2.2.2.2.2.2.2.2.2.1, .int v0.2.2.2.2.2.2.2.2.2.2.2.2.2.2.2.1, .int v0.2.2.2.2.2.2.2.2.2.2.2.2.2.2.2.2.1, .ref a0_7, .long v0.2.2.2.2.2.2.2.2.2.2.2.2.2.2.2.2.2.2.1, .int v0.2.2.2.2.2.2.2.2.2.2.2.2.2.2.2.2.2.2.2.1, .long v0.2.2.2.2.2.2.2.2.2.2.2.2.2.2.2.2.2.2.2.2.1, .int v0.2.2.2.2.2.2.2.2.2.2.2.2.2.2.2.2.2.2.2.2.2.1, .int v0.2.2.2.2.2.2.2.2.2.2.2.2.2.2.2.2.2.2.2.2.2.2])), (a0_1, .inl (cC, 120, .inl v0.1)), (a0_2, .inl (cC, 200, .inl v0.2.2.1)), (a0_3, .inl (cI, 160, .inl v0.2.2.2.2.2.2.1)), (a0_4, .inl (cI, 4, .inl v0.2.2.2.2.2.2.2.1)), (a0_5, .inl (cI, 7, .inl v0.2.2.2.2.2.2.2.2.1)), (a0_6, .inl (cI, 40, .inl v0.2.2.2.2.2.2.2.2.2.2.2.2.2.1)), (a0_7, .inl (cI, 6, .inl v0.2.2.2.2.2.2.2.2.2.2.2.2.2.2.2.2.2.1))]
abbrev O_Model_apply : Type := Int32 × T_Model
abbrev q_Model_apply (D : va_G) (cC cI : ClassId) (a0_0 a0_1 a0_2 a0_3 a0_4 a0_5 a0_6 a0_7 : Nat)  (out : O_Model_apply) (A : Nat → Prop) : Array Value → State → Outcome → State → Prop := va_Qi (fun r (_ : Unit) => r = out.1) (fun _ t => va_P D classes (wd_Model_apply cC cI a0_0 a0_1 a0_2 a0_3 a0_4 a0_5 a0_6 a0_7 out.2) t.heap ∧ va_D A (wd_Model_apply cC cI a0_0 a0_1 a0_2 a0_3 a0_4 a0_5 a0_6 a0_7 out.2)) A
abbrev rm_Model_apply : Room := { frames := 5, cells := 0, slots := 0, locals := 113 }
def J_Model_apply_31 (p : Program) (l : Launch) (e : Env) (s : State) (m : MethodId) (args : Array Value) (below : List Frame) (meth : Method) (c : Code) (A : Nat → Prop) (D : va_G) (cC cI : ClassId) (a0_0 a0_1 a0_2 a0_3 a0_4 a0_5 a0_6 a0_7 : Nat) (out : O_Model_apply) (k : T_Model → Int32 → Option O_Model_apply) : Prop := ∀ (v0 : T_Model) (x1 : Int32) (ls : Array Slot) (H : Heap) (locs : List Loc), k v0 x1 = some out → lv_has ls 2 [(0, .ref a0_0), (1, .int x1)] → va_P D classes (wd_Model_apply cC cI a0_0 a0_1 a0_2 a0_3 a0_4 a0_5 a0_6 a0_7 v0) H → va_D A (wd_Model_apply cC cI a0_0 a0_1 a0_2 a0_3 a0_4 a0_5 a0_6 a0_7 v0) → va_S A s.heap H locs → W p l e rm_Model_apply s m args below meth c H locs 0 0 (MQ below (q_Model_apply D cC cI a0_0 a0_1 a0_2 a0_3 a0_4 a0_5 a0_6 a0_7 out A) args s 0 0 A) (F0 m 31 ls [])
def J_Model_apply_51 (p : Program) (l : Launch) (e : Env) (s : State) (m : MethodId) (args : Array Value) (below : List Frame) (meth : Method) (c : Code) (A : Nat → Prop) (D : va_G) (cC cI : ClassId) (a0_0 a0_1 a0_2 a0_3 a0_4 a0_5 a0_6 a0_7 : Nat) (out : O_Model_apply) (k : T_Model → Int32 → Option O_Model_apply) : Prop := ∀ (v0 : T_Model) (x1 : Int32) (ls : Array Slot) (H : Heap) (locs : List Loc), k v0 x1 = some out → lv_has ls 2 [(0, .ref a0_0), (1, .int x1)] → va_P D classes (wd_Model_apply cC cI a0_0 a0_1 a0_2 a0_3 a0_4 a0_5 a0_6 a0_7 v0) H → va_D A (wd_Model_apply cC cI a0_0 a0_1 a0_2 a0_3 a0_4 a0_5 a0_6 a0_7 v0) → va_S A s.heap H locs → W p l e rm_Model_apply s m args below meth c H locs 0 0 (MQ below (q_Model_apply D cC cI a0_0 a0_1 a0_2 a0_3 a0_4 a0_5 a0_6 a0_7 out A) args s 0 0 A) (F0 m 51 ls [])
def J_Model_apply_101 (p : Program) (l : Launch) (e : Env) (s : State) (m : MethodId) (args : Array Value) (below : List Frame) (meth : Method) (c : Code) (A : Nat → Prop) (D : va_G) (cC cI : ClassId) (a0_0 a0_1 a0_2 a0_3 a0_4 a0_5 a0_6 a0_7 : Nat) (out : O_Model_apply) (k : T_Model → Int32 → Option O_Model_apply) : Prop := ∀ (v0 : T_Model) (s1 : Int32) (ls : Array Slot) (H : Heap) (locs : List Loc), k v0 s1 = some out → lv_has ls 2 [] → va_P D classes (wd_Model_apply cC cI a0_0 a0_1 a0_2 a0_3 a0_4 a0_5 a0_6 a0_7 v0) H → va_D A (wd_Model_apply cC cI a0_0 a0_1 a0_2 a0_3 a0_4 a0_5 a0_6 a0_7 v0) → va_S A s.heap H locs → W p l e rm_Model_apply s m args below meth c H locs 0 0 (MQ below (q_Model_apply D cC cI a0_0 a0_1 a0_2 a0_3 a0_4 a0_5 a0_6 a0_7 out A) args s 0 0 A) (F0 m 101 ls [.int s1, .ref a0_5])
def J_Model_apply_107 (p : Program) (l : Launch) (e : Env) (s : State) (m : MethodId) (args : Array Value) (below : List Frame) (meth : Method) (c : Code) (A : Nat → Prop) (D : va_G) (cC cI : ClassId) (a0_0 a0_1 a0_2 a0_3 a0_4 a0_5 a0_6 a0_7 : Nat) (out : O_Model_apply) (k : T_Model → Int32 → Int32 → Option O_Model_apply) : Prop := ∀ (v0 : T_Model) (s1 : Int32) (s2 : Int32) (ls : Array Slot) (H : Heap) (locs : List Loc), k v0 s1 s2 = some out → lv_has ls 2 [] → va_P D classes (wd_Model_apply cC cI a0_0 a0_1 a0_2 a0_3 a0_4 a0_5 a0_6 a0_7 v0) H → va_D A (wd_Model_apply cC cI a0_0 a0_1 a0_2 a0_3 a0_4 a0_5 a0_6 a0_7 v0) → va_S A s.heap H locs → W p l e rm_Model_apply s m args below meth c H locs 0 0 (MQ below (q_Model_apply D cC cI a0_0 a0_1 a0_2 a0_3 a0_4 a0_5 a0_6 a0_7 out A) args s 0 0 A) (F0 m 107 ls [.int s2, .int s1, .ref a0_5])
def f_Model_apply_107 (v0 : T_Model) (s1 : Int32) (s2 : Int32) : Option O_Model_apply := if ix s1 7 then some ((-1 : Int32), (v0.1, v0.2.1, v0.2.2.1, v0.2.2.2.1, v0.2.2.2.2.1, v0.2.2.2.2.2.1, v0.2.2.2.2.2.2.1, v0.2.2.2.2.2.2.2.1, (upd v0.2.2.2.2.2.2.2.2.1 s1.toNatClampNeg s2), v0.2.2.2.2.2.2.2.2.2.1, v0.2.2.2.2.2.2.2.2.2.2.1, v0.2.2.2.2.2.2.2.2.2.2.2.1, v0.2.2.2.2.2.2.2.2.2.2.2.2.1, v0.2.2.2.2.2.2.2.2.2.2.2.2.2.1, v0.2.2.2.2.2.2.2.2.2.2.2.2.2.2.1, v0.2.2.2.2.2.2.2.2.2.2.2.2.2.2.2.1, v0.2.2.2.2.2.2.2.2.2.2.2.2.2.2.2.2.1, v0.2.2.2.2.2.2.2.2.2.2.2.2.2.2.2.2.2.1, v0.2.2.2.2.2.2.2.2.2.2.2.2.2.2.2.2.2.2.1, v0.2.2.2.2.2.2.2.2.2.2.2.2.2.2.2.2.2.2.2.1, v0.2.2.2.2.2.2.2.2.2.2.2.2.2.2.2.2.2.2.2.2.1, v0.2.2.2.2.2.2.2.2.2.2.2.2.2.2.2.2.2.2.2.2.2.1, v0.2.2.2.2.2.2.2.2.2.2.2.2.2.2.2.2.2.2.2.2.2.2)) else none
set_option maxHeartbeats 4000000 in
set_option maxRecDepth 100000 in
theorem w_Model_apply_107 {p : Program} {l : Launch} {e : Env} {s : State} {m : MethodId} {args : Array Value} {below : List Frame} {meth : Method} {c : Code} {A : Nat → Prop} {D : va_G} {cC cI : ClassId} {a0_0 a0_1 a0_2 a0_3 a0_4 a0_5 a0_6 a0_7 : Nat} (X : xCX p s m args meth c A D cC cI b_Model_apply 2 R_Model (some .int)) {out : O_Model_apply}   : J_Model_apply_107 p l e s m args below meth c A D cC cI a0_0 a0_1 a0_2 a0_3 a0_4 a0_5 a0_6 a0_7 out (f_Model_apply_107  ) := by
  obtain ⟨hx, hb, hml, hown, htB, ⟨hK, hN⟩, hZ, hA, hr, hlocks⟩ := id X
  intro v0 s1 s2 ls H locs h hl hP hD hS
  obtain ⟨hc, h⟩ := x_chk h
  refine va_iast hx hb hK hP hD hS 5 1 rfl rfl hc d_Model_apply_107 (fun H locs hP hD hS => ?_)
  have hP : va_P D classes (wd_Model_apply cC cI a0_0 a0_1 a0_2 a0_3 a0_4 a0_5 a0_6 a0_7 (v0.1, v0.2.1, v0.2.2.1, v0.2.2.2.1, v0.2.2.2.2.1, v0.2.2.2.2.2.1, v0.2.2.2.2.2.2.1, v0.2.2.2.2.2.2.2.1, (upd v0.2.2.2.2.2.2.2.2.1 s1.toNatClampNeg s2), v0.2.2.2.2.2.2.2.2.2.1, v0.2.2.2.2.2.2.2.2.2.2.1, v0.2.2.2.2.2.2.2.2.2.2.2.1, v0.2.2.2.2.2.2.2.2.2.2.2.2.1, v0.2.2.2.2.2.2.2.2.2.2.2.2.2.1, v0.2.2.2.2.2.2.2.2.2.2.2.2.2.2.1, v0.2.2.2.2.2.2.2.2.2.2.2.2.2.2.2.1, v0.2.2.2.2.2.2.2.2.2.2.2.2.2.2.2.2.1, v0.2.2.2.2.2.2.2.2.2.2.2.2.2.2.2.2.2.1, v0.2.2.2.2.2.2.2.2.2.2.2.2.2.2.2.2.2.2.1, v0.2.2.2.2.2.2.2.2.2.2.2.2.2.2.2.2.2.2.2.1, v0.2.2.2.2.2.2.2.2.2.2.2.2.2.2.2.2.2.2.2.2.1, v0.2.2.2.2.2.2.2.2.2.2.2.2.2.2.2.2.2.2.2.2.2.1, v0.2.2.2.2.2.2.2.2.2.2.2.2.2.2.2.2.2.2.2.2.2.2)) H := hP
  have hD : va_D A (wd_Model_apply cC cI a0_0 a0_1 a0_2 a0_3 a0_4 a0_5 a0_6 a0_7 (v0.1, v0.2.1, v0.2.2.1, v0.2.2.2.1, v0.2.2.2.2.1, v0.2.2.2.2.2.1, v0.2.2.2.2.2.2.1, v0.2.2.2.2.2.2.2.1, (upd v0.2.2.2.2.2.2.2.2.1 s1.toNatClampNeg s2), v0.2.2.2.2.2.2.2.2.2.1, v0.2.2.2.2.2.2.2.2.2.2.1, v0.2.2.2.2.2.2.2.2.2.2.2.1, v0.2.2.2.2.2.2.2.2.2.2.2.2.1, v0.2.2.2.2.2.2.2.2.2.2.2.2.2.1, v0.2.2.2.2.2.2.2.2.2.2.2.2.2.2.1, v0.2.2.2.2.2.2.2.2.2.2.2.2.2.2.2.1, v0.2.2.2.2.2.2.2.2.2.2.2.2.2.2.2.2.1, v0.2.2.2.2.2.2.2.2.2.2.2.2.2.2.2.2.2.1, v0.2.2.2.2.2.2.2.2.2.2.2.2.2.2.2.2.2.2.1, v0.2.2.2.2.2.2.2.2.2.2.2.2.2.2.2.2.2.2.2.1, v0.2.2.2.2.2.2.2.2.2.2.2.2.2.2.2.2.2.2.2.2.1, v0.2.2.2.2.2.2.2.2.2.2.2.2.2.2.2.2.2.2.2.2.2.1, v0.2.2.2.2.2.2.2.2.2.2.2.2.2.2.2.2.2.2.2.2.2.2)) := hD
  refine lv_iconst (v := -1) hx hb d_Model_apply_108 (by decide) ?_
  obtain rfl := Option.some.inj h
  exact W.iret (v := (-1 : Int32)) hx hb hr (fun t ht hW => ⟨⟨(-1 : Int32), (), rfl, rfl, by rw [ht]; exact hP, hD⟩, hS.F ht⟩) hS.2.2 d_Model_apply_109 hlocks

def f_Model_apply_101 (v0 : T_Model) (s1 : Int32) : Option O_Model_apply := f_Model_apply_107 v0 s1 (100 : Int32)
set_option maxHeartbeats 4000000 in
set_option maxRecDepth 100000 in
theorem w_Model_apply_101 {p : Program} {l : Launch} {e : Env} {s : State} {m : MethodId} {args : Array Value} {below : List Frame} {meth : Method} {c : Code} {A : Nat → Prop} {D : va_G} {cC cI : ClassId} {a0_0 a0_1 a0_2 a0_3 a0_4 a0_5 a0_6 a0_7 : Nat} (X : xCX p s m args meth c A D cC cI b_Model_apply 2 R_Model (some .int)) {out : O_Model_apply}   : J_Model_apply_101 p l e s m args below meth c A D cC cI a0_0 a0_1 a0_2 a0_3 a0_4 a0_5 a0_6 a0_7 out (f_Model_apply_101  ) := by
  obtain ⟨hx, hb, hml, hown, htB, ⟨hK, hN⟩, hZ, hA, hr, hlocks⟩ := id X
  intro v0 s1 ls H locs h hl hP hD hS
  refine lv_bipush (v := 100) hx hb d_Model_apply_101 (by decide) ?_
  refine lv_goto (tgt := 107) hx hb d_Model_apply_103 rfl ?_
  exact w_Model_apply_107 X v0 s1 (100 : Int32) ls H locs h (lv_sub hl [] rfl) hP hD hS

def f_Model_apply_51   : Nat → T_Model → Int32 → Option O_Model_apply
  | 0, _, _ => none
  | n + 1, v0, x1 => (if (7 : Int32) ≤ x1 then (f_Model_go v0 (1 : Int32)).bind (fun o72 => (f_Model_hasPercent (o72.1, o72.2.1, o72.2.2.1, o72.2.2.2.1, o72.2.2.2.2.1, (1 : Int32), o72.2.2.2.2.2.2.1, o72.2.2.2.2.2.2.2.1, o72.2.2.2.2.2.2.2.2.1, o72.2.2.2.2.2.2.2.2.2.1, o72.2.2.2.2.2.2.2.2.2.2.1, o72.2.2.2.2.2.2.2.2.2.2.2.1, o72.2.2.2.2.2.2.2.2.2.2.2.2.1, o72.2.2.2.2.2.2.2.2.2.2.2.2.2.1, o72.2.2.2.2.2.2.2.2.2.2.2.2.2.2.1, o72.2.2.2.2.2.2.2.2.2.2.2.2.2.2.2.1, o72.2.2.2.2.2.2.2.2.2.2.2.2.2.2.2.2.1, o72.2.2.2.2.2.2.2.2.2.2.2.2.2.2.2.2.2.1, o72.2.2.2.2.2.2.2.2.2.2.2.2.2.2.2.2.2.2.1, o72.2.2.2.2.2.2.2.2.2.2.2.2.2.2.2.2.2.2.2.1, o72.2.2.2.2.2.2.2.2.2.2.2.2.2.2.2.2.2.2.2.2.1, o72.2.2.2.2.2.2.2.2.2.2.2.2.2.2.2.2.2.2.2.2.2.1, o72.2.2.2.2.2.2.2.2.2.2.2.2.2.2.2.2.2.2.2.2.2.2) (0 : Int32)).bind (fun o87 => (if o87 = 0 then (f_Model_hasPercent (o72.1, o72.2.1, o72.2.2.1, o72.2.2.2.1, o72.2.2.2.2.1, (1 : Int32), o72.2.2.2.2.2.2.1, o72.2.2.2.2.2.2.2.1, o72.2.2.2.2.2.2.2.2.1, o72.2.2.2.2.2.2.2.2.2.1, o72.2.2.2.2.2.2.2.2.2.2.1, o72.2.2.2.2.2.2.2.2.2.2.2.1, o72.2.2.2.2.2.2.2.2.2.2.2.2.1, o72.2.2.2.2.2.2.2.2.2.2.2.2.2.1, o72.2.2.2.2.2.2.2.2.2.2.2.2.2.2.1, o72.2.2.2.2.2.2.2.2.2.2.2.2.2.2.2.1, o72.2.2.2.2.2.2.2.2.2.2.2.2.2.2.2.2.1, o72.2.2.2.2.2.2.2.2.2.2.2.2.2.2.2.2.2.1, o72.2.2.2.2.2.2.2.2.2.2.2.2.2.2.2.2.2.2.1, o72.2.2.2.2.2.2.2.2.2.2.2.2.2.2.2.2.2.2.2.1, o72.2.2.2.2.2.2.2.2.2.2.2.2.2.2.2.2.2.2.2.2.1, o72.2.2.2.2.2.2.2.2.2.2.2.2.2.2.2.2.2.2.2.2.2.1, o72.2.2.2.2.2.2.2.2.2.2.2.2.2.2.2.2.2.2.2.2.2.2) (1 : Int32)).bind (fun o95 => (if o95 = 0 then f_Model_apply_107 (o72.1, o72.2.1, o72.2.2.1, o72.2.2.2.1, o72.2.2.2.2.1, (1 : Int32), o72.2.2.2.2.2.2.1, o72.2.2.2.2.2.2.2.1, o72.2.2.2.2.2.2.2.2.1, o72.2.2.2.2.2.2.2.2.2.1, o72.2.2.2.2.2.2.2.2.2.2.1, o72.2.2.2.2.2.2.2.2.2.2.2.1, o72.2.2.2.2.2.2.2.2.2.2.2.2.1, o72.2.2.2.2.2.2.2.2.2.2.2.2.2.1, o72.2.2.2.2.2.2.2.2.2.2.2.2.2.2.1, o72.2.2.2.2.2.2.2.2.2.2.2.2.2.2.2.1, o72.2.2.2.2.2.2.2.2.2.2.2.2.2.2.2.2.1, o72.2.2.2.2.2.2.2.2.2.2.2.2.2.2.2.2.2.1, o72.2.2.2.2.2.2.2.2.2.2.2.2.2.2.2.2.2.2.1, o72.2.2.2.2.2.2.2.2.2.2.2.2.2.2.2.2.2.2.2.1, o72.2.2.2.2.2.2.2.2.2.2.2.2.2.2.2.2.2.2.2.2.1, o72.2.2.2.2.2.2.2.2.2.2.2.2.2.2.2.2.2.2.2.2.2.1, o72.2.2.2.2.2.2.2.2.2.2.2.2.2.2.2.2.2.2.2.2.2.2) (5 : Int32) (1 : Int32) else f_Model_apply_101 (o72.1, o72.2.1, o72.2.2.1, o72.2.2.2.1, o72.2.2.2.2.1, (1 : Int32), o72.2.2.2.2.2.2.1, o72.2.2.2.2.2.2.2.1, o72.2.2.2.2.2.2.2.2.1, o72.2.2.2.2.2.2.2.2.2.1, o72.2.2.2.2.2.2.2.2.2.2.1, o72.2.2.2.2.2.2.2.2.2.2.2.1, o72.2.2.2.2.2.2.2.2.2.2.2.2.1, o72.2.2.2.2.2.2.2.2.2.2.2.2.2.1, o72.2.2.2.2.2.2.2.2.2.2.2.2.2.2.1, o72.2.2.2.2.2.2.2.2.2.2.2.2.2.2.2.1, o72.2.2.2.2.2.2.2.2.2.2.2.2.2.2.2.2.1, o72.2.2.2.2.2.2.2.2.2.2.2.2.2.2.2.2.2.1, o72.2.2.2.2.2.2.2.2.2.2.2.2.2.2.2.2.2.2.1, o72.2.2.2.2.2.2.2.2.2.2.2.2.2.2.2.2.2.2.2.1, o72.2.2.2.2.2.2.2.2.2.2.2.2.2.2.2.2.2.2.2.2.1, o72.2.2.2.2.2.2.2.2.2.2.2.2.2.2.2.2.2.2.2.2.2.1, o72.2.2.2.2.2.2.2.2.2.2.2.2.2.2.2.2.2.2.2.2.2.2) (5 : Int32))) else f_Model_apply_101 (o72.1, o72.2.1, o72.2.2.1, o72.2.2.2.1, o72.2.2.2.2.1, (1 : Int32), o72.2.2.2.2.2.2.1, o72.2.2.2.2.2.2.2.1, o72.2.2.2.2.2.2.2.2.1, o72.2.2.2.2.2.2.2.2.2.1, o72.2.2.2.2.2.2.2.2.2.2.1, o72.2.2.2.2.2.2.2.2.2.2.2.1, o72.2.2.2.2.2.2.2.2.2.2.2.2.1, o72.2.2.2.2.2.2.2.2.2.2.2.2.2.1, o72.2.2.2.2.2.2.2.2.2.2.2.2.2.2.1, o72.2.2.2.2.2.2.2.2.2.2.2.2.2.2.2.1, o72.2.2.2.2.2.2.2.2.2.2.2.2.2.2.2.2.1, o72.2.2.2.2.2.2.2.2.2.2.2.2.2.2.2.2.2.1, o72.2.2.2.2.2.2.2.2.2.2.2.2.2.2.2.2.2.2.1, o72.2.2.2.2.2.2.2.2.2.2.2.2.2.2.2.2.2.2.2.1, o72.2.2.2.2.2.2.2.2.2.2.2.2.2.2.2.2.2.2.2.2.1, o72.2.2.2.2.2.2.2.2.2.2.2.2.2.2.2.2.2.2.2.2.2.1, o72.2.2.2.2.2.2.2.2.2.2.2.2.2.2.2.2.2.2.2.2.2.2) (5 : Int32)))) else if ix x1 7 then (f_Model_apply_51  n) (v0.1, v0.2.1, v0.2.2.1, v0.2.2.2.1, v0.2.2.2.2.1, v0.2.2.2.2.2.1, v0.2.2.2.2.2.2.1, v0.2.2.2.2.2.2.2.1, (upd v0.2.2.2.2.2.2.2.2.1 x1.toNatClampNeg (0 : Int32)), v0.2.2.2.2.2.2.2.2.2.1, v0.2.2.2.2.2.2.2.2.2.2.1, v0.2.2.2.2.2.2.2.2.2.2.2.1, v0.2.2.2.2.2.2.2.2.2.2.2.2.1, v0.2.2.2.2.2.2.2.2.2.2.2.2.2.1, v0.2.2.2.2.2.2.2.2.2.2.2.2.2.2.1, v0.2.2.2.2.2.2.2.2.2.2.2.2.2.2.2.1, v0.2.2.2.2.2.2.2.2.2.2.2.2.2.2.2.2.1, v0.2.2.2.2.2.2.2.2.2.2.2.2.2.2.2.2.2.1, v0.2.2.2.2.2.2.2.2.2.2.2.2.2.2.2.2.2.2.1, v0.2.2.2.2.2.2.2.2.2.2.2.2.2.2.2.2.2.2.2.1, v0.2.2.2.2.2.2.2.2.2.2.2.2.2.2.2.2.2.2.2.2.1, v0.2.2.2.2.2.2.2.2.2.2.2.2.2.2.2.2.2.2.2.2.2.1, v0.2.2.2.2.2.2.2.2.2.2.2.2.2.2.2.2.2.2.2.2.2.2) (x1 + (1 : Int32)) else none)
set_option maxHeartbeats 4000000 in
set_option maxRecDepth 100000 in
theorem w_Model_apply_51 {p : Program} {l : Launch} {e : Env} {s : State} {m : MethodId} {args : Array Value} {below : List Frame} {meth : Method} {c : Code} {A : Nat → Prop} {D : va_G} {cC cI : ClassId} {a0_0 a0_1 a0_2 a0_3 a0_4 a0_5 a0_6 a0_7 : Nat} (X : xCX p s m args meth c A D cC cI b_Model_apply 2 R_Model (some .int)) {out : O_Model_apply}   : ∀ n : Nat, J_Model_apply_51 p l e s m args below meth c A D cC cI a0_0 a0_1 a0_2 a0_3 a0_4 a0_5 a0_6 a0_7 out (f_Model_apply_51   n) := by
  obtain ⟨hx, hb, hml, hown, htB, ⟨hK, hN⟩, hZ, hA, hr, hlocks⟩ := id X
  intro n
  induction n with
  | zero =>
    intro v0 x1 ls H locs h hl hP hD hS
    cases h
  | succ n ih =>
    intro v0 x1 ls H locs h hl hP hD hS
    refine lv_iload_n hx hb d_Model_apply_51 rfl (lv_at hl 1 rfl) ?_
    refine lv_bipush (v := 7) hx hb d_Model_apply_52 (by decide) ?_
    refine lv_icmp_ge (tgt := 70) hx hb d_Model_apply_54 rfl (fun hc => ?_) (fun hc => ?_)
    · have h := (if_pos hc).symm.trans h
      refine lv_aload_n hx hb d_Model_apply_70 rfl (lv_at hl 0 rfl) ?_
      refine lv_iconst (v := 1) hx hb d_Model_apply_71 (by decide) ?_
      obtain ⟨o72, ho72, h⟩ := x_bnd h
      refine x_callv (ws2 := (wd_Model_apply cC cI a0_0 a0_1 a0_2 a0_3 a0_4 a0_5 a0_6 a0_7 o72)) (x_runV (As := [.int (1 : Int32)]) (rest := []) X (c_Model_go l D cC cI H.size a0_0 a0_1 a0_2 a0_3 a0_4 a0_5 a0_6 a0_7 v0 (1 : Int32) o72 ho72) b_356 1 (htB _ b_359) (htB _ b_357) (htB _ b_358) (htB _ b_319) ⟨by decide, by decide, by decide +kernel⟩ ⟨(Nat.le_of_ble_eq_true rfl), (Nat.le_of_ble_eq_true rfl)⟩ 0 rfl rfl hP hD hS [0, 1, 2, 3, 4, 5, 6, 7] rfl (by decide) rfl rfl hl.1 rfl rfl (Nat.le_of_ble_eq_true rfl) d_Model_apply_72) hP hD hS hA [0, 1, 2, 3, 4, 5, 6, 7] [] [0, 1, 2, 3, 4, 5, 6, 7] rfl rfl (by decide) (by decide) rfl (by decide) (fun H locs hP hD hS => ?_)
      refine lv_aload_n hx hb d_Model_apply_75 rfl (lv_at hl 0 rfl) ?_
      refine lv_iconst (v := 1) hx hb d_Model_apply_76 (by decide) ?_
      refine va_put (D := D) (ci := 11) (v := .int (1 : Int32)) (ty := .boolean) (C := R_Model) (T := F_Model) (N := 23) hx hb htB in_Model t_Model t_Model_ok n_Model hown hK hP hD hS 0 rfl rfl 5 (by decide) (htB _ b_360) (fun _ h9 => h9) rfl (by decide +kernel) rfl rfl (Nat.le_of_ble_eq_true rfl) d_Model_apply_77 (fun H locs hP hD hS => ?_)
      have hP : va_P D classes (wd_Model_apply cC cI a0_0 a0_1 a0_2 a0_3 a0_4 a0_5 a0_6 a0_7 (o72.1, o72.2.1, o72.2.2.1, o72.2.2.2.1, o72.2.2.2.2.1, (1 : Int32), o72.2.2.2.2.2.2.1, o72.2.2.2.2.2.2.2.1, o72.2.2.2.2.2.2.2.2.1, o72.2.2.2.2.2.2.2.2.2.1, o72.2.2.2.2.2.2.2.2.2.2.1, o72.2.2.2.2.2.2.2.2.2.2.2.1, o72.2.2.2.2.2.2.2.2.2.2.2.2.1, o72.2.2.2.2.2.2.2.2.2.2.2.2.2.1, o72.2.2.2.2.2.2.2.2.2.2.2.2.2.2.1, o72.2.2.2.2.2.2.2.2.2.2.2.2.2.2.2.1, o72.2.2.2.2.2.2.2.2.2.2.2.2.2.2.2.2.1, o72.2.2.2.2.2.2.2.2.2.2.2.2.2.2.2.2.2.1, o72.2.2.2.2.2.2.2.2.2.2.2.2.2.2.2.2.2.2.1, o72.2.2.2.2.2.2.2.2.2.2.2.2.2.2.2.2.2.2.2.1, o72.2.2.2.2.2.2.2.2.2.2.2.2.2.2.2.2.2.2.2.2.1, o72.2.2.2.2.2.2.2.2.2.2.2.2.2.2.2.2.2.2.2.2.2.1, o72.2.2.2.2.2.2.2.2.2.2.2.2.2.2.2.2.2.2.2.2.2.2)) H := hP
      have hD : va_D A (wd_Model_apply cC cI a0_0 a0_1 a0_2 a0_3 a0_4 a0_5 a0_6 a0_7 (o72.1, o72.2.1, o72.2.2.1, o72.2.2.2.1, o72.2.2.2.2.1, (1 : Int32), o72.2.2.2.2.2.2.1, o72.2.2.2.2.2.2.2.1, o72.2.2.2.2.2.2.2.2.1, o72.2.2.2.2.2.2.2.2.2.1, o72.2.2.2.2.2.2.2.2.2.2.1, o72.2.2.2.2.2.2.2.2.2.2.2.1, o72.2.2.2.2.2.2.2.2.2.2.2.2.1, o72.2.2.2.2.2.2.2.2.2.2.2.2.2.1, o72.2.2.2.2.2.2.2.2.2.2.2.2.2.2.1, o72.2.2.2.2.2.2.2.2.2.2.2.2.2.2.2.1, o72.2.2.2.2.2.2.2.2.2.2.2.2.2.2.2.2.1, o72.2.2.2.2.2.2.2.2.2.2.2.2.2.2.2.2.2.1, o72.2.2.2.2.2.2.2.2.2.2.2.2.2.2.2.2.2.2.1, o72.2.2.2.2.2.2.2.2.2.2.2.2.2.2.2.2.2.2.2.1, o72.2.2.2.2.2.2.2.2.2.2.2.2.2.2.2.2.2.2.2.2.1, o72.2.2.2.2.2.2.2.2.2.2.2.2.2.2.2.2.2.2.2.2.2.1, o72.2.2.2.2.2.2.2.2.2.2.2.2.2.2.2.2.2.2.2.2.2.2)) := hD
      refine lv_aload_n hx hb d_Model_apply_80 rfl (lv_at hl 0 rfl) ?_
      refine va_get (D := D) (ci := 11) (v := .ref a0_5) (C := R_Model) (T := F_Model) (N := 23) hx hb htB in_Model hown hK hP 0 rfl rfl 8 (by decide) (htB _ b_330) (fun _ h9 => h9) rfl d_Model_apply_81 ?_
      refine lv_iconst (v := 5) hx hb d_Model_apply_84 (by decide) ?_
      refine lv_aload_n hx hb d_Model_apply_85 rfl (lv_at hl 0 rfl) ?_
      refine lv_iconst (v := 0) hx hb d_Model_apply_86 (by decide) ?_
      obtain ⟨o87, ho87, h⟩ := x_bnd h
      refine x_calli (r0 := o87) (ws2 := (wd_Model_apply cC cI a0_0 a0_1 a0_2 a0_3 a0_4 a0_5 a0_6 a0_7 (o72.1, o72.2.1, o72.2.2.1, o72.2.2.2.1, o72.2.2.2.2.1, (1 : Int32), o72.2.2.2.2.2.2.1, o72.2.2.2.2.2.2.2.1, o72.2.2.2.2.2.2.2.2.1, o72.2.2.2.2.2.2.2.2.2.1, o72.2.2.2.2.2.2.2.2.2.2.1, o72.2.2.2.2.2.2.2.2.2.2.2.1, o72.2.2.2.2.2.2.2.2.2.2.2.2.1, o72.2.2.2.2.2.2.2.2.2.2.2.2.2.1, o72.2.2.2.2.2.2.2.2.2.2.2.2.2.2.1, o72.2.2.2.2.2.2.2.2.2.2.2.2.2.2.2.1, o72.2.2.2.2.2.2.2.2.2.2.2.2.2.2.2.2.1, o72.2.2.2.2.2.2.2.2.2.2.2.2.2.2.2.2.2.1, o72.2.2.2.2.2.2.2.2.2.2.2.2.2.2.2.2.2.2.1, o72.2.2.2.2.2.2.2.2.2.2.2.2.2.2.2.2.2.2.2.1, o72.2.2.2.2.2.2.2.2.2.2.2.2.2.2.2.2.2.2.2.2.1, o72.2.2.2.2.2.2.2.2.2.2.2.2.2.2.2.2.2.2.2.2.2.1, o72.2.2.2.2.2.2.2.2.2.2.2.2.2.2.2.2.2.2.2.2.2.2))) (x_runV (As := [.int (0 : Int32)]) (rest := [.int (5 : Int32), .ref a0_5]) X (c_Model_hasPercent l D cC cI H.size a0_0 a0_1 a0_2 a0_3 a0_4 a0_5 a0_6 a0_7 (o72.1, o72.2.1, o72.2.2.1, o72.2.2.2.1, o72.2.2.2.2.1, (1 : Int32), o72.2.2.2.2.2.2.1, o72.2.2.2.2.2.2.2.1, o72.2.2.2.2.2.2.2.2.1, o72.2.2.2.2.2.2.2.2.2.1, o72.2.2.2.2.2.2.2.2.2.2.1, o72.2.2.2.2.2.2.2.2.2.2.2.1, o72.2.2.2.2.2.2.2.2.2.2.2.2.1, o72.2.2.2.2.2.2.2.2.2.2.2.2.2.1, o72.2.2.2.2.2.2.2.2.2.2.2.2.2.2.1, o72.2.2.2.2.2.2.2.2.2.2.2.2.2.2.2.1, o72.2.2.2.2.2.2.2.2.2.2.2.2.2.2.2.2.1, o72.2.2.2.2.2.2.2.2.2.2.2.2.2.2.2.2.2.1, o72.2.2.2.2.2.2.2.2.2.2.2.2.2.2.2.2.2.2.1, o72.2.2.2.2.2.2.2.2.2.2.2.2.2.2.2.2.2.2.2.1, o72.2.2.2.2.2.2.2.2.2.2.2.2.2.2.2.2.2.2.2.2.1, o72.2.2.2.2.2.2.2.2.2.2.2.2.2.2.2.2.2.2.2.2.2.1, o72.2.2.2.2.2.2.2.2.2.2.2.2.2.2.2.2.2.2.2.2.2.2) (0 : Int32) o87 ho87) b_361 1 (htB _ b_364) (htB _ b_362) (htB _ b_363) (htB _ b_319) ⟨by decide, by decide, by decide +kernel⟩ ⟨(Nat.le_of_ble_eq_true rfl), (Nat.le_of_ble_eq_true rfl)⟩ 0 rfl rfl hP hD hS [0, 1, 2, 3, 4, 5, 6, 7] rfl (by decide) rfl rfl hl.1 rfl rfl (Nat.le_of_ble_eq_true rfl) d_Model_apply_87) hP hD hS hA [0, 1, 2, 3, 4, 5, 6, 7] [] [0, 1, 2, 3, 4, 5, 6, 7] rfl rfl (by decide) (by decide) rfl (by decide) (fun H locs hP hD hS => ?_)
      refine lv_if_ne (tgt := 101) hx hb d_Model_apply_90 rfl (fun hc => ?_) (fun hc => ?_)
      · have h := (if_neg hc).symm.trans h
        exact w_Model_apply_101 X (o72.1, o72.2.1, o72.2.2.1, o72.2.2.2.1, o72.2.2.2.2.1, (1 : Int32), o72.2.2.2.2.2.2.1, o72.2.2.2.2.2.2.2.1, o72.2.2.2.2.2.2.2.2.1, o72.2.2.2.2.2.2.2.2.2.1, o72.2.2.2.2.2.2.2.2.2.2.1, o72.2.2.2.2.2.2.2.2.2.2.2.1, o72.2.2.2.2.2.2.2.2.2.2.2.2.1, o72.2.2.2.2.2.2.2.2.2.2.2.2.2.1, o72.2.2.2.2.2.2.2.2.2.2.2.2.2.2.1, o72.2.2.2.2.2.2.2.2.2.2.2.2.2.2.2.1, o72.2.2.2.2.2.2.2.2.2.2.2.2.2.2.2.2.1, o72.2.2.2.2.2.2.2.2.2.2.2.2.2.2.2.2.2.1, o72.2.2.2.2.2.2.2.2.2.2.2.2.2.2.2.2.2.2.1, o72.2.2.2.2.2.2.2.2.2.2.2.2.2.2.2.2.2.2.2.1, o72.2.2.2.2.2.2.2.2.2.2.2.2.2.2.2.2.2.2.2.2.1, o72.2.2.2.2.2.2.2.2.2.2.2.2.2.2.2.2.2.2.2.2.2.1, o72.2.2.2.2.2.2.2.2.2.2.2.2.2.2.2.2.2.2.2.2.2.2) (5 : Int32) ls H locs h (lv_sub hl [] rfl) hP hD hS
      have h := (if_pos hc).symm.trans h
      refine lv_aload_n hx hb d_Model_apply_93 rfl (lv_at hl 0 rfl) ?_
      refine lv_iconst (v := 1) hx hb d_Model_apply_94 (by decide) ?_
      obtain ⟨o95, ho95, h⟩ := x_bnd h
      refine x_calli (r0 := o95) (ws2 := (wd_Model_apply cC cI a0_0 a0_1 a0_2 a0_3 a0_4 a0_5 a0_6 a0_7 (o72.1, o72.2.1, o72.2.2.1, o72.2.2.2.1, o72.2.2.2.2.1, (1 : Int32), o72.2.2.2.2.2.2.1, o72.2.2.2.2.2.2.2.1, o72.2.2.2.2.2.2.2.2.1, o72.2.2.2.2.2.2.2.2.2.1, o72.2.2.2.2.2.2.2.2.2.2.1, o72.2.2.2.2.2.2.2.2.2.2.2.1, o72.2.2.2.2.2.2.2.2.2.2.2.2.1, o72.2.2.2.2.2.2.2.2.2.2.2.2.2.1, o72.2.2.2.2.2.2.2.2.2.2.2.2.2.2.1, o72.2.2.2.2.2.2.2.2.2.2.2.2.2.2.2.1, o72.2.2.2.2.2.2.2.2.2.2.2.2.2.2.2.2.1, o72.2.2.2.2.2.2.2.2.2.2.2.2.2.2.2.2.2.1, o72.2.2.2.2.2.2.2.2.2.2.2.2.2.2.2.2.2.2.1, o72.2.2.2.2.2.2.2.2.2.2.2.2.2.2.2.2.2.2.2.1, o72.2.2.2.2.2.2.2.2.2.2.2.2.2.2.2.2.2.2.2.2.1, o72.2.2.2.2.2.2.2.2.2.2.2.2.2.2.2.2.2.2.2.2.2.1, o72.2.2.2.2.2.2.2.2.2.2.2.2.2.2.2.2.2.2.2.2.2.2))) (x_runV (As := [.int (1 : Int32)]) (rest := [.int (5 : Int32), .ref a0_5]) X (c_Model_hasPercent l D cC cI H.size a0_0 a0_1 a0_2 a0_3 a0_4 a0_5 a0_6 a0_7 (o72.1, o72.2.1, o72.2.2.1, o72.2.2.2.1, o72.2.2.2.2.1, (1 : Int32), o72.2.2.2.2.2.2.1, o72.2.2.2.2.2.2.2.1, o72.2.2.2.2.2.2.2.2.1, o72.2.2.2.2.2.2.2.2.2.1, o72.2.2.2.2.2.2.2.2.2.2.1, o72.2.2.2.2.2.2.2.2.2.2.2.1, o72.2.2.2.2.2.2.2.2.2.2.2.2.1, o72.2.2.2.2.2.2.2.2.2.2.2.2.2.1, o72.2.2.2.2.2.2.2.2.2.2.2.2.2.2.1, o72.2.2.2.2.2.2.2.2.2.2.2.2.2.2.2.1, o72.2.2.2.2.2.2.2.2.2.2.2.2.2.2.2.2.1, o72.2.2.2.2.2.2.2.2.2.2.2.2.2.2.2.2.2.1, o72.2.2.2.2.2.2.2.2.2.2.2.2.2.2.2.2.2.2.1, o72.2.2.2.2.2.2.2.2.2.2.2.2.2.2.2.2.2.2.2.1, o72.2.2.2.2.2.2.2.2.2.2.2.2.2.2.2.2.2.2.2.2.1, o72.2.2.2.2.2.2.2.2.2.2.2.2.2.2.2.2.2.2.2.2.2.1, o72.2.2.2.2.2.2.2.2.2.2.2.2.2.2.2.2.2.2.2.2.2.2) (1 : Int32) o95 ho95) b_361 1 (htB _ b_364) (htB _ b_362) (htB _ b_363) (htB _ b_319) ⟨by decide, by decide, by decide +kernel⟩ ⟨(Nat.le_of_ble_eq_true rfl), (Nat.le_of_ble_eq_true rfl)⟩ 0 rfl rfl hP hD hS [0, 1, 2, 3, 4, 5, 6, 7] rfl (by decide) rfl rfl hl.1 rfl rfl (Nat.le_of_ble_eq_true rfl) d_Model_apply_95) hP hD hS hA [0, 1, 2, 3, 4, 5, 6, 7] [] [0, 1, 2, 3, 4, 5, 6, 7] rfl rfl (by decide) (by decide) rfl (by decide) (fun H locs hP hD hS => ?_)
      refine lv_if_eq (tgt := 106) hx hb d_Model_apply_98 rfl (fun hc => ?_) (fun hc => ?_)
      · have h := (if_pos hc).symm.trans h
        refine lv_iconst (v := 1) hx hb d_Model_apply_106 (by decide) ?_
        exact w_Model_apply_107 X (o72.1, o72.2.1, o72.2.2.1, o72.2.2.2.1, o72.2.2.2.2.1, (1 : Int32), o72.2.2.2.2.2.2.1, o72.2.2.2.2.2.2.2.1, o72.2.2.2.2.2.2.2.2.1, o72.2.2.2.2.2.2.2.2.2.1, o72.2.2.2.2.2.2.2.2.2.2.1, o72.2.2.2.2.2.2.2.2.2.2.2.1, o72.2.2.2.2.2.2.2.2.2.2.2.2.1, o72.2.2.2.2.2.2.2.2.2.2.2.2.2.1, o72.2.2.2.2.2.2.2.2.2.2.2.2.2.2.1, o72.2.2.2.2.2.2.2.2.2.2.2.2.2.2.2.1, o72.2.2.2.2.2.2.2.2.2.2.2.2.2.2.2.2.1, o72.2.2.2.2.2.2.2.2.2.2.2.2.2.2.2.2.2.1, o72.2.2.2.2.2.2.2.2.2.2.2.2.2.2.2.2.2.2.1, o72.2.2.2.2.2.2.2.2.2.2.2.2.2.2.2.2.2.2.2.1, o72.2.2.2.2.2.2.2.2.2.2.2.2.2.2.2.2.2.2.2.2.1, o72.2.2.2.2.2.2.2.2.2.2.2.2.2.2.2.2.2.2.2.2.2.1, o72.2.2.2.2.2.2.2.2.2.2.2.2.2.2.2.2.2.2.2.2.2.2) (5 : Int32) (1 : Int32) ls H locs h (lv_sub hl [] rfl) hP hD hS
      have h := (if_neg hc).symm.trans h
      exact w_Model_apply_101 X (o72.1, o72.2.1, o72.2.2.1, o72.2.2.2.1, o72.2.2.2.2.1, (1 : Int32), o72.2.2.2.2.2.2.1, o72.2.2.2.2.2.2.2.1, o72.2.2.2.2.2.2.2.2.1, o72.2.2.2.2.2.2.2.2.2.1, o72.2.2.2.2.2.2.2.2.2.2.1, o72.2.2.2.2.2.2.2.2.2.2.2.1, o72.2.2.2.2.2.2.2.2.2.2.2.2.1, o72.2.2.2.2.2.2.2.2.2.2.2.2.2.1, o72.2.2.2.2.2.2.2.2.2.2.2.2.2.2.1, o72.2.2.2.2.2.2.2.2.2.2.2.2.2.2.2.1, o72.2.2.2.2.2.2.2.2.2.2.2.2.2.2.2.2.1, o72.2.2.2.2.2.2.2.2.2.2.2.2.2.2.2.2.2.1, o72.2.2.2.2.2.2.2.2.2.2.2.2.2.2.2.2.2.2.1, o72.2.2.2.2.2.2.2.2.2.2.2.2.2.2.2.2.2.2.2.1, o72.2.2.2.2.2.2.2.2.2.2.2.2.2.2.2.2.2.2.2.2.1, o72.2.2.2.2.2.2.2.2.2.2.2.2.2.2.2.2.2.2.2.2.2.1, o72.2.2.2.2.2.2.2.2.2.2.2.2.2.2.2.2.2.2.2.2.2.2) (5 : Int32) ls H locs h (lv_sub hl [] rfl) hP hD hS
    have h := (if_neg hc).symm.trans h
    refine lv_aload_n hx hb d_Model_apply_57 rfl (lv_at hl 0 rfl) ?_
    refine va_get (D := D) (ci := 11) (v := .ref a0_5) (C := R_Model) (T := F_Model) (N := 23) hx hb htB in_Model hown hK hP 0 rfl rfl 8 (by decide) (htB _ b_330) (fun _ h9 => h9) rfl d_Model_apply_58 ?_
    refine lv_iload_n hx hb d_Model_apply_61 rfl (lv_at hl 1 rfl) ?_
    refine lv_iconst (v := 0) hx hb d_Model_apply_62 (by decide) ?_
    obtain ⟨hc, h⟩ := x_chk h
    refine va_iast hx hb hK hP hD hS 5 1 rfl rfl hc d_Model_apply_63 (fun H locs hP hD hS => ?_)
    have hP : va_P D classes (wd_Model_apply cC cI a0_0 a0_1 a0_2 a0_3 a0_4 a0_5 a0_6 a0_7 (v0.1, v0.2.1, v0.2.2.1, v0.2.2.2.1, v0.2.2.2.2.1, v0.2.2.2.2.2.1, v0.2.2.2.2.2.2.1, v0.2.2.2.2.2.2.2.1, (upd v0.2.2.2.2.2.2.2.2.1 x1.toNatClampNeg (0 : Int32)), v0.2.2.2.2.2.2.2.2.2.1, v0.2.2.2.2.2.2.2.2.2.2.1, v0.2.2.2.2.2.2.2.2.2.2.2.1, v0.2.2.2.2.2.2.2.2.2.2.2.2.1, v0.2.2.2.2.2.2.2.2.2.2.2.2.2.1, v0.2.2.2.2.2.2.2.2.2.2.2.2.2.2.1, v0.2.2.2.2.2.2.2.2.2.2.2.2.2.2.2.1, v0.2.2.2.2.2.2.2.2.2.2.2.2.2.2.2.2.1, v0.2.2.2.2.2.2.2.2.2.2.2.2.2.2.2.2.2.1, v0.2.2.2.2.2.2.2.2.2.2.2.2.2.2.2.2.2.2.1, v0.2.2.2.2.2.2.2.2.2.2.2.2.2.2.2.2.2.2.2.1, v0.2.2.2.2.2.2.2.2.2.2.2.2.2.2.2.2.2.2.2.2.1, v0.2.2.2.2.2.2.2.2.2.2.2.2.2.2.2.2.2.2.2.2.2.1, v0.2.2.2.2.2.2.2.2.2.2.2.2.2.2.2.2.2.2.2.2.2.2)) H := hP
    have hD : va_D A (wd_Model_apply cC cI a0_0 a0_1 a0_2 a0_3 a0_4 a0_5 a0_6 a0_7 (v0.1, v0.2.1, v0.2.2.1, v0.2.2.2.1, v0.2.2.2.2.1, v0.2.2.2.2.2.1, v0.2.2.2.2.2.2.1, v0.2.2.2.2.2.2.2.1, (upd v0.2.2.2.2.2.2.2.2.1 x1.toNatClampNeg (0 : Int32)), v0.2.2.2.2.2.2.2.2.2.1, v0.2.2.2.2.2.2.2.2.2.2.1, v0.2.2.2.2.2.2.2.2.2.2.2.1, v0.2.2.2.2.2.2.2.2.2.2.2.2.1, v0.2.2.2.2.2.2.2.2.2.2.2.2.2.1, v0.2.2.2.2.2.2.2.2.2.2.2.2.2.2.1, v0.2.2.2.2.2.2.2.2.2.2.2.2.2.2.2.1, v0.2.2.2.2.2.2.2.2.2.2.2.2.2.2.2.2.1, v0.2.2.2.2.2.2.2.2.2.2.2.2.2.2.2.2.2.1, v0.2.2.2.2.2.2.2.2.2.2.2.2.2.2.2.2.2.2.1, v0.2.2.2.2.2.2.2.2.2.2.2.2.2.2.2.2.2.2.2.1, v0.2.2.2.2.2.2.2.2.2.2.2.2.2.2.2.2.2.2.2.2.1, v0.2.2.2.2.2.2.2.2.2.2.2.2.2.2.2.2.2.2.2.2.2.1, v0.2.2.2.2.2.2.2.2.2.2.2.2.2.2.2.2.2.2.2.2.2.2)) := hD
    refine lv_iinc (k := 1) (v := (x1 + (1 : Int32))) (lv' := [(1, .int (x1 + (1 : Int32))), (0, .ref a0_0)]) hx hb d_Model_apply_64 hl rfl (congrArg (fun z => x1 + z) (by decide : Int32.ofInt 1 = (1 : Int32))) (by decide) rfl (fun ls hl => ?_)
    refine lv_goto (tgt := 51) hx hb d_Model_apply_67 rfl ?_
    exact ih (v0.1, v0.2.1, v0.2.2.1, v0.2.2.2.1, v0.2.2.2.2.1, v0.2.2.2.2.2.1, v0.2.2.2.2.2.2.1, v0.2.2.2.2.2.2.2.1, (upd v0.2.2.2.2.2.2.2.2.1 x1.toNatClampNeg (0 : Int32)), v0.2.2.2.2.2.2.2.2.2.1, v0.2.2.2.2.2.2.2.2.2.2.1, v0.2.2.2.2.2.2.2.2.2.2.2.1, v0.2.2.2.2.2.2.2.2.2.2.2.2.1, v0.2.2.2.2.2.2.2.2.2.2.2.2.2.1, v0.2.2.2.2.2.2.2.2.2.2.2.2.2.2.1, v0.2.2.2.2.2.2.2.2.2.2.2.2.2.2.2.1, v0.2.2.2.2.2.2.2.2.2.2.2.2.2.2.2.2.1, v0.2.2.2.2.2.2.2.2.2.2.2.2.2.2.2.2.2.1, v0.2.2.2.2.2.2.2.2.2.2.2.2.2.2.2.2.2.2.1, v0.2.2.2.2.2.2.2.2.2.2.2.2.2.2.2.2.2.2.2.1, v0.2.2.2.2.2.2.2.2.2.2.2.2.2.2.2.2.2.2.2.2.1, v0.2.2.2.2.2.2.2.2.2.2.2.2.2.2.2.2.2.2.2.2.2.1, v0.2.2.2.2.2.2.2.2.2.2.2.2.2.2.2.2.2.2.2.2.2.2) (x1 + (1 : Int32)) ls H locs h (lv_sub hl [1, 0] rfl) hP hD hS

def f_Model_apply_31   : Nat → T_Model → Int32 → Option O_Model_apply
  | 0, _, _ => none
  | n + 1, v0, x1 => (if (4 : Int32) ≤ x1 then f_Model_apply_51 FU v0 (0 : Int32) else if ix x1 4 then (f_Model_apply_31  n) (v0.1, v0.2.1, v0.2.2.1, v0.2.2.2.1, v0.2.2.2.2.1, v0.2.2.2.2.2.1, v0.2.2.2.2.2.2.1, (upd v0.2.2.2.2.2.2.2.1 x1.toNatClampNeg (0 : Int32)), v0.2.2.2.2.2.2.2.2.1, v0.2.2.2.2.2.2.2.2.2.1, v0.2.2.2.2.2.2.2.2.2.2.1, v0.2.2.2.2.2.2.2.2.2.2.2.1, v0.2.2.2.2.2.2.2.2.2.2.2.2.1, v0.2.2.2.2.2.2.2.2.2.2.2.2.2.1, v0.2.2.2.2.2.2.2.2.2.2.2.2.2.2.1, v0.2.2.2.2.2.2.2.2.2.2.2.2.2.2.2.1, v0.2.2.2.2.2.2.2.2.2.2.2.2.2.2.2.2.1, v0.2.2.2.2.2.2.2.2.2.2.2.2.2.2.2.2.2.1, v0.2.2.2.2.2.2.2.2.2.2.2.2.2.2.2.2.2.2.1, v0.2.2.2.2.2.2.2.2.2.2.2.2.2.2.2.2.2.2.2.1, v0.2.2.2.2.2.2.2.2.2.2.2.2.2.2.2.2.2.2.2.2.1, v0.2.2.2.2.2.2.2.2.2.2.2.2.2.2.2.2.2.2.2.2.2.1, v0.2.2.2.2.2.2.2.2.2.2.2.2.2.2.2.2.2.2.2.2.2.2) (x1 + (1 : Int32)) else none)
set_option maxHeartbeats 4000000 in
set_option maxRecDepth 100000 in
theorem w_Model_apply_31 {p : Program} {l : Launch} {e : Env} {s : State} {m : MethodId} {args : Array Value} {below : List Frame} {meth : Method} {c : Code} {A : Nat → Prop} {D : va_G} {cC cI : ClassId} {a0_0 a0_1 a0_2 a0_3 a0_4 a0_5 a0_6 a0_7 : Nat} (X : xCX p s m args meth c A D cC cI b_Model_apply 2 R_Model (some .int)) {out : O_Model_apply}   : ∀ n : Nat, J_Model_apply_31 p l e s m args below meth c A D cC cI a0_0 a0_1 a0_2 a0_3 a0_4 a0_5 a0_6 a0_7 out (f_Model_apply_31   n) := by
  obtain ⟨hx, hb, hml, hown, htB, ⟨hK, hN⟩, hZ, hA, hr, hlocks⟩ := id X
  intro n
  induction n with
  | zero =>
    intro v0 x1 ls H locs h hl hP hD hS
    cases h
  | succ n ih =>
    intro v0 x1 ls H locs h hl hP hD hS
    refine lv_iload_n hx hb d_Model_apply_31 rfl (lv_at hl 1 rfl) ?_
    refine lv_iconst (v := 4) hx hb d_Model_apply_32 (by decide) ?_
    refine lv_icmp_ge (tgt := 49) hx hb d_Model_apply_33 rfl (fun hc => ?_) (fun hc => ?_)
    · have h := (if_pos hc).symm.trans h
      refine lv_iconst (v := 0) hx hb d_Model_apply_49 (by decide) ?_
      refine lv_istore_n (lv' := [(1, .int (0 : Int32)), (0, .ref a0_0)]) hx hb d_Model_apply_50 rfl hl (by decide) rfl (fun ls hl => ?_)
      exact w_Model_apply_51 X FU v0 (0 : Int32) ls H locs h (lv_sub hl [1, 0] rfl) hP hD hS
    have h := (if_neg hc).symm.trans h
    refine lv_aload_n hx hb d_Model_apply_36 rfl (lv_at hl 0 rfl) ?_
    refine va_get (D := D) (ci := 11) (v := .ref a0_4) (C := R_Model) (T := F_Model) (N := 23) hx hb htB in_Model hown hK hP 0 rfl rfl 7 (by decide) (htB _ b_315) (fun _ h9 => h9) rfl d_Model_apply_37 ?_
    refine lv_iload_n hx hb d_Model_apply_40 rfl (lv_at hl 1 rfl) ?_
    refine lv_iconst (v := 0) hx hb d_Model_apply_41 (by decide) ?_
    obtain ⟨hc, h⟩ := x_chk h
    refine va_iast hx hb hK hP hD hS 4 1 rfl rfl hc d_Model_apply_42 (fun H locs hP hD hS => ?_)
    have hP : va_P D classes (wd_Model_apply cC cI a0_0 a0_1 a0_2 a0_3 a0_4 a0_5 a0_6 a0_7 (v0.1, v0.2.1, v0.2.2.1, v0.2.2.2.1, v0.2.2.2.2.1, v0.2.2.2.2.2.1, v0.2.2.2.2.2.2.1, (upd v0.2.2.2.2.2.2.2.1 x1.toNatClampNeg (0 : Int32)), v0.2.2.2.2.2.2.2.2.1, v0.2.2.2.2.2.2.2.2.2.1, v0.2.2.2.2.2.2.2.2.2.2.1, v0.2.2.2.2.2.2.2.2.2.2.2.1, v0.2.2.2.2.2.2.2.2.2.2.2.2.1, v0.2.2.2.2.2.2.2.2.2.2.2.2.2.1, v0.2.2.2.2.2.2.2.2.2.2.2.2.2.2.1, v0.2.2.2.2.2.2.2.2.2.2.2.2.2.2.2.1, v0.2.2.2.2.2.2.2.2.2.2.2.2.2.2.2.2.1, v0.2.2.2.2.2.2.2.2.2.2.2.2.2.2.2.2.2.1, v0.2.2.2.2.2.2.2.2.2.2.2.2.2.2.2.2.2.2.1, v0.2.2.2.2.2.2.2.2.2.2.2.2.2.2.2.2.2.2.2.1, v0.2.2.2.2.2.2.2.2.2.2.2.2.2.2.2.2.2.2.2.2.1, v0.2.2.2.2.2.2.2.2.2.2.2.2.2.2.2.2.2.2.2.2.2.1, v0.2.2.2.2.2.2.2.2.2.2.2.2.2.2.2.2.2.2.2.2.2.2)) H := hP
    have hD : va_D A (wd_Model_apply cC cI a0_0 a0_1 a0_2 a0_3 a0_4 a0_5 a0_6 a0_7 (v0.1, v0.2.1, v0.2.2.1, v0.2.2.2.1, v0.2.2.2.2.1, v0.2.2.2.2.2.1, v0.2.2.2.2.2.2.1, (upd v0.2.2.2.2.2.2.2.1 x1.toNatClampNeg (0 : Int32)), v0.2.2.2.2.2.2.2.2.1, v0.2.2.2.2.2.2.2.2.2.1, v0.2.2.2.2.2.2.2.2.2.2.1, v0.2.2.2.2.2.2.2.2.2.2.2.1, v0.2.2.2.2.2.2.2.2.2.2.2.2.1, v0.2.2.2.2.2.2.2.2.2.2.2.2.2.1, v0.2.2.2.2.2.2.2.2.2.2.2.2.2.2.1, v0.2.2.2.2.2.2.2.2.2.2.2.2.2.2.2.1, v0.2.2.2.2.2.2.2.2.2.2.2.2.2.2.2.2.1, v0.2.2.2.2.2.2.2.2.2.2.2.2.2.2.2.2.2.1, v0.2.2.2.2.2.2.2.2.2.2.2.2.2.2.2.2.2.2.1, v0.2.2.2.2.2.2.2.2.2.2.2.2.2.2.2.2.2.2.2.1, v0.2.2.2.2.2.2.2.2.2.2.2.2.2.2.2.2.2.2.2.2.1, v0.2.2.2.2.2.2.2.2.2.2.2.2.2.2.2.2.2.2.2.2.2.1, v0.2.2.2.2.2.2.2.2.2.2.2.2.2.2.2.2.2.2.2.2.2.2)) := hD
    refine lv_iinc (k := 1) (v := (x1 + (1 : Int32))) (lv' := [(1, .int (x1 + (1 : Int32))), (0, .ref a0_0)]) hx hb d_Model_apply_43 hl rfl (congrArg (fun z => x1 + z) (by decide : Int32.ofInt 1 = (1 : Int32))) (by decide) rfl (fun ls hl => ?_)
    refine lv_goto (tgt := 31) hx hb d_Model_apply_46 rfl ?_
    exact ih (v0.1, v0.2.1, v0.2.2.1, v0.2.2.2.1, v0.2.2.2.2.1, v0.2.2.2.2.2.1, v0.2.2.2.2.2.2.1, (upd v0.2.2.2.2.2.2.2.1 x1.toNatClampNeg (0 : Int32)), v0.2.2.2.2.2.2.2.2.1, v0.2.2.2.2.2.2.2.2.2.1, v0.2.2.2.2.2.2.2.2.2.2.1, v0.2.2.2.2.2.2.2.2.2.2.2.1, v0.2.2.2.2.2.2.2.2.2.2.2.2.1, v0.2.2.2.2.2.2.2.2.2.2.2.2.2.1, v0.2.2.2.2.2.2.2.2.2.2.2.2.2.2.1, v0.2.2.2.2.2.2.2.2.2.2.2.2.2.2.2.1, v0.2.2.2.2.2.2.2.2.2.2.2.2.2.2.2.2.1, v0.2.2.2.2.2.2.2.2.2.2.2.2.2.2.2.2.2.1, v0.2.2.2.2.2.2.2.2.2.2.2.2.2.2.2.2.2.2.1, v0.2.2.2.2.2.2.2.2.2.2.2.2.2.2.2.2.2.2.2.1, v0.2.2.2.2.2.2.2.2.2.2.2.2.2.2.2.2.2.2.2.2.1, v0.2.2.2.2.2.2.2.2.2.2.2.2.2.2.2.2.2.2.2.2.2.1, v0.2.2.2.2.2.2.2.2.2.2.2.2.2.2.2.2.2.2.2.2.2.2) (x1 + (1 : Int32)) ls H locs h (lv_sub hl [1, 0] rfl) hP hD hS

def f_Model_apply (v0 : T_Model) : Option O_Model_apply := (f_Model_go v0 (0 : Int32)).bind (fun o2 => (if o2.2.2.2.2.2.2.2.2.2.2.1 < 0 then (if o2.2.1 ≤ (40 : Int32) then f_Model_apply_31 FU o2 (0 : Int32) else some ((40 : Int32), o2)) else some (o2.2.2.2.2.2.2.2.2.2.2.1, o2)))
set_option maxHeartbeats 4000000 in
set_option maxRecDepth 100000 in
theorem w_Model_apply {p : Program} {l : Launch} {e : Env} {s : State} {m : MethodId} {args : Array Value} {below : List Frame} {meth : Method} {c : Code} {A : Nat → Prop} {D : va_G} {cC cI : ClassId} {a0_0 a0_1 a0_2 a0_3 a0_4 a0_5 a0_6 a0_7 : Nat} (X : xCX p s m args meth c A D cC cI b_Model_apply 2 R_Model (some .int)) {out : O_Model_apply} (v0 : T_Model) {ls : Array Slot} {H : Heap} {locs : List Loc} (h : f_Model_apply v0 = some out) (hl : lv_has ls 2 [(0, .ref a0_0)]) (hP : va_P D classes (wd_Model_apply cC cI a0_0 a0_1 a0_2 a0_3 a0_4 a0_5 a0_6 a0_7 v0) H) (hD : va_D A (wd_Model_apply cC cI a0_0 a0_1 a0_2 a0_3 a0_4 a0_5 a0_6 a0_7 v0)) (hS : va_S A s.heap H locs) : W p l e rm_Model_apply s m args below meth c H locs 0 0 (MQ below (q_Model_apply D cC cI a0_0 a0_1 a0_2 a0_3 a0_4 a0_5 a0_6 a0_7 out A) args s 0 0 A) (F0 m 0 ls []) := by
  obtain ⟨hx, hb, hml, hown, htB, ⟨hK, hN⟩, hZ, hA, hr, hlocks⟩ := id X
  refine lv_aload_n hx hb d_Model_apply_0 rfl (lv_at hl 0 rfl) ?_
  refine lv_iconst (v := 0) hx hb d_Model_apply_1 (by decide) ?_
  obtain ⟨o2, ho2, h⟩ := x_bnd h
  refine x_callv (ws2 := (wd_Model_apply cC cI a0_0 a0_1 a0_2 a0_3 a0_4 a0_5 a0_6 a0_7 o2)) (x_runV (As := [.int (0 : Int32)]) (rest := []) X (c_Model_go l D cC cI H.size a0_0 a0_1 a0_2 a0_3 a0_4 a0_5 a0_6 a0_7 v0 (0 : Int32) o2 ho2) b_356 1 (htB _ b_359) (htB _ b_357) (htB _ b_358) (htB _ b_319) ⟨by decide, by decide, by decide +kernel⟩ ⟨(Nat.le_of_ble_eq_true rfl), (Nat.le_of_ble_eq_true rfl)⟩ 0 rfl rfl hP hD hS [0, 1, 2, 3, 4, 5, 6, 7] rfl (by decide) rfl rfl hl.1 rfl rfl (Nat.le_of_ble_eq_true rfl) d_Model_apply_2) hP hD hS hA [0, 1, 2, 3, 4, 5, 6, 7] [] [0, 1, 2, 3, 4, 5, 6, 7] rfl rfl (by decide) (by decide) rfl (by decide) (fun H locs hP hD hS => ?_)
  refine lv_aload_n hx hb d_Model_apply_5 rfl (lv_at hl 0 rfl) ?_
  refine va_get (D := D) (ci := 11) (v := .int o2.2.2.2.2.2.2.2.2.2.2.1) (C := R_Model) (T := F_Model) (N := 23) hx hb htB in_Model hown hK hP 0 rfl rfl 10 (by decide) (htB _ b_331) (fun _ h9 => h9) rfl d_Model_apply_6 ?_
  refine lv_if_lt (tgt := 17) hx hb d_Model_apply_9 rfl (fun hc => ?_) (fun hc => ?_)
  · have h := (if_pos hc).symm.trans h
    refine lv_aload_n hx hb d_Model_apply_17 rfl (lv_at hl 0 rfl) ?_
    refine va_get (D := D) (ci := 11) (v := .int o2.2.1) (C := R_Model) (T := F_Model) (N := 23) hx hb htB in_Model hown hK hP 0 rfl rfl 1 (by decide) (htB _ b_309) (fun _ h9 => h9) rfl d_Model_apply_18 ?_
    refine lv_bipush (v := 40) hx hb d_Model_apply_21 (by decide) ?_
    refine lv_icmp_le (tgt := 29) hx hb d_Model_apply_23 rfl (fun hc => ?_) (fun hc => ?_)
    · have h := (if_pos hc).symm.trans h
      refine lv_iconst (v := 0) hx hb d_Model_apply_29 (by decide) ?_
      refine lv_istore_n (lv' := [(1, .int (0 : Int32)), (0, .ref a0_0)]) hx hb d_Model_apply_30 rfl hl (by decide) rfl (fun ls hl => ?_)
      exact w_Model_apply_31 X FU o2 (0 : Int32) ls H locs h (lv_sub hl [1, 0] rfl) hP hD hS
    have h := (if_neg hc).symm.trans h
    refine lv_bipush (v := 40) hx hb d_Model_apply_26 (by decide) ?_
    obtain rfl := Option.some.inj h
    exact W.iret (v := (40 : Int32)) hx hb hr (fun t ht hW => ⟨⟨(40 : Int32), (), rfl, rfl, by rw [ht]; exact hP, hD⟩, hS.F ht⟩) hS.2.2 d_Model_apply_28 hlocks
  have h := (if_neg hc).symm.trans h
  refine lv_aload_n hx hb d_Model_apply_12 rfl (lv_at hl 0 rfl) ?_
  refine va_get (D := D) (ci := 11) (v := .int o2.2.2.2.2.2.2.2.2.2.2.1) (C := R_Model) (T := F_Model) (N := 23) hx hb htB in_Model hown hK hP 0 rfl rfl 10 (by decide) (htB _ b_331) (fun _ h9 => h9) rfl d_Model_apply_13 ?_
  obtain rfl := Option.some.inj h
  exact W.iret (v := o2.2.2.2.2.2.2.2.2.2.2.1) hx hb hr (fun t ht hW => ⟨⟨o2.2.2.2.2.2.2.2.2.2.2.1, (), rfl, rfl, by rw [ht]; exact hP, hD⟩, hS.F ht⟩) hS.2.2 d_Model_apply_16 hlocks

set_option maxHeartbeats 4000000 in
set_option maxRecDepth 100000 in
theorem c_Model_apply (l : Launch) (D : va_G) (cC cI : ClassId) (sz : Nat) (a0_0 a0_1 a0_2 a0_3 a0_4 a0_5 a0_6 a0_7 : Nat) (v0 : T_Model) (out : O_Model_apply) (h : f_Model_apply v0 = some out) : Met l y_Model_apply (.code y_Model_apply b_Model_apply 2 (some .int) :: BIG) rm_Model_apply (va_Pc [.ref a0_0] (xPre D cC cI (wd_Model_apply cC cI a0_0 a0_1 a0_2 a0_3 a0_4 a0_5 a0_6 a0_7 v0) sz)) (q_Model_apply D cC cI a0_0 a0_1 a0_2 a0_3 a0_4 a0_5 a0_6 a0_7 out (va_A (wd_Model_apply cC cI a0_0 a0_1 a0_2 a0_3 a0_4 a0_5 a0_6 a0_7 v0) sz)) 0 0 (va_A (wd_Model_apply cC cI a0_0 a0_1 a0_2 a0_3 a0_4 a0_5 a0_6 a0_7 v0) sz) := by
  refine Met.ofW (cc := b_Model_apply) (maxL := 2) (ret := (some .int)) (by decide) rfl ?_
  intro p e s m args below meth c s₁ B hml hv
  obtain ⟨rfl, rfl, hP, hD0, hG, hZ⟩ := hv
  have hl := lv_entry [.ref a0_0] (n := 2) (Nat.le_of_ble_eq_true rfl)
  rw [lg_entry_eq]
  exact w_Model_apply (x_cx B hml hG hZ) v0 h hl hP hD0.self va_S.rf

abbrev wd_Model_mode (cC cI : ClassId) (a0_0 a0_1 a0_2 a0_3 a0_4 a0_5 a0_6 a0_7 : Nat) (v0 : T_Model) : va_W := [(a0_0, .inr (11, [.ref a0_1, .int v0.2.1, .ref a0_2, .int v0.2.2.2.1, .int v0.2.2.2.2.1, .int v0.2.2.2.2.2.1, .ref a0_3, .ref a0_4, .ref a0_5, .int v0.2.2.2.2.2.2.2.2.2.1, .int v0.2.2.2.2.2.2.2.2.2.2.1, .int v0.2.2.2.2.2.2.2.2.2.2.2.1, .int v0.2.2.2.2.2.2.2.2.2.2.2.2.1, .ref a0_6, .int v0.2.2.2.2.2.2.2.2.2.2.2.2.2.2.1, .int v0.2.2.2.2.2.2.2.2.2.2.2.2.2.2.2.1, .int v0.2.2.2.2.2.2.2.2.2.2.2.2.2.2.2.2.1, .ref a0_7, .long v0.2.2.2.2.2.2.2.2.2.2.2.2.2.2.2.2.2.2.1, .int v0.2.2.2.2.2.2.2.2.2.2.2.2.2.2.2.2.2.2.2.1, .long v0.2.2.2.2.2.2.2.2.2.2.2.2.2.2.2.2.2.2.2.2.1, .int v0.2.2.2.2.2.2.2.2.2.2.2.2.2.2.2.2.2.2.2.2.2.1, .int v0.2.2.2.2.2.2.2.2.2.2.2.2.2.2.2.2.2.2.2.2.2.2])), (a0_1, .inl (cC, 120, .inl v0.1)), (a0_2, .inl (cC, 200, .inl v0.2.2.1)), (a0_3, .inl (cI, 160, .inl v0.2.2.2.2.2.2.1)), (a0_4, .inl (cI, 4, .inl v0.2.2.2.2.2.2.2.1)), (a0_5, .inl (cI, 7, .inl v0.2.2.2.2.2.2.2.2.1)), (a0_6, .inl (cI, 40, .inl v0.2.2.2.2.2.2.2.2.2.2.2.2.2.1)), (a0_7, .inl (cI, 6, .inl v0.2.2.2.2.2.2.2.2.2.2.2.2.2.2.2.2.2.1))]
abbrev O_Model_mode : Type := Int32 × T_Model
abbrev q_Model_mode (D : va_G) (cC cI : ClassId) (a0_0 a0_1 a0_2 a0_3 a0_4 a0_5 a0_6 a0_7 : Nat)  (out : O_Model_mode) (A : Nat → Prop) : Array Value → State → Outcome → State → Prop := va_Qi (fun r (_ : Unit) => r = out.1) (fun _ t => va_P D classes (wd_Model_mode cC cI a0_0 a0_1 a0_2 a0_3 a0_4 a0_5 a0_6 a0_7 out.2) t.heap ∧ va_D A (wd_Model_mode cC cI a0_0 a0_1 a0_2 a0_3 a0_4 a0_5 a0_6 a0_7 out.2)) A
abbrev rm_Model_mode : Room := { frames := 0, cells := 0, slots := 0, locals := 0 }
def J_Model_mode_10 (p : Program) (l : Launch) (e : Env) (s : State) (m : MethodId) (args : Array Value) (below : List Frame) (meth : Method) (c : Code) (A : Nat → Prop) (D : va_G) (cC cI : ClassId) (a0_0 a0_1 a0_2 a0_3 a0_4 a0_5 a0_6 a0_7 : Nat) (out : O_Model_mode) (k : T_Model → Option O_Model_mode) : Prop := ∀ (v0 : T_Model) (ls : Array Slot) (H : Heap) (locs : List Loc), k v0 = some out → lv_has ls 2 [] → va_P D classes (wd_Model_mode cC cI a0_0 a0_1 a0_2 a0_3 a0_4 a0_5 a0_6 a0_7 v0) H → va_D A (wd_Model_mode cC cI a0_0 a0_1 a0_2 a0_3 a0_4 a0_5 a0_6 a0_7 v0) → va_S A s.heap H locs → W p l e rm_Model_mode s m args below meth c H locs 0 0 (MQ below (q_Model_mode D cC cI a0_0 a0_1 a0_2 a0_3 a0_4 a0_5 a0_6 a0_7 out A) args s 0 0 A) (F0 m 10 ls [])
def f_Model_mode_10 (v0 : T_Model) : Option O_Model_mode := some ((0 : Int32), v0)
set_option maxHeartbeats 4000000 in
set_option maxRecDepth 100000 in
theorem w_Model_mode_10 {p : Program} {l : Launch} {e : Env} {s : State} {m : MethodId} {args : Array Value} {below : List Frame} {meth : Method} {c : Code} {A : Nat → Prop} {D : va_G} {cC cI : ClassId} {a0_0 a0_1 a0_2 a0_3 a0_4 a0_5 a0_6 a0_7 : Nat} (X : xCX p s m args meth c A D cC cI b_Model_mode 2 R_Model (some .boolean)) {out : O_Model_mode}   : J_Model_mode_10 p l e s m args below meth c A D cC cI a0_0 a0_1 a0_2 a0_3 a0_4 a0_5 a0_6 a0_7 out (f_Model_mode_10  ) := by
  obtain ⟨hx, hb, hml, hown, htB, ⟨hK, hN⟩, hZ, hA, hr, hlocks⟩ := id X
  intro v0 ls H locs h hl hP hD hS
  refine lv_iconst (v := 0) hx hb d_Model_mode_10 (by decide) ?_
  obtain rfl := Option.some.inj h
  exact W.zret (v := (0 : Int32)) (ty := .boolean) hx hb hr rfl (fun t ht hW => ⟨⟨(0 : Int32), (), rfl, rfl, by rw [ht]; exact hP, hD⟩, hS.F ht⟩) hS.2.2 d_Model_mode_11 hlocks

def f_Model_mode (v0 : T_Model) (v1 : Int32) : Option O_Model_mode := (if v1 < 0 then f_Model_mode_10 v0 else (if v1 ≤ (7 : Int32) then some ((1 : Int32), (v0.1, v0.2.1, v0.2.2.1, v0.2.2.2.1, v1, v0.2.2.2.2.2.1, v0.2.2.2.2.2.2.1, v0.2.2.2.2.2.2.2.1, v0.2.2.2.2.2.2.2.2.1, v0.2.2.2.2.2.2.2.2.2.1, v0.2.2.2.2.2.2.2.2.2.2.1, v0.2.2.2.2.2.2.2.2.2.2.2.1, v0.2.2.2.2.2.2.2.2.2.2.2.2.1, v0.2.2.2.2.2.2.2.2.2.2.2.2.2.1, v0.2.2.2.2.2.2.2.2.2.2.2.2.2.2.1, v0.2.2.2.2.2.2.2.2.2.2.2.2.2.2.2.1, v0.2.2.2.2.2.2.2.2.2.2.2.2.2.2.2.2.1, v0.2.2.2.2.2.2.2.2.2.2.2.2.2.2.2.2.2.1, v0.2.2.2.2.2.2.2.2.2.2.2.2.2.2.2.2.2.2.1, v0.2.2.2.2.2.2.2.2.2.2.2.2.2.2.2.2.2.2.2.1, v0.2.2.2.2.2.2.2.2.2.2.2.2.2.2.2.2.2.2.2.2.1, v0.2.2.2.2.2.2.2.2.2.2.2.2.2.2.2.2.2.2.2.2.2.1, v0.2.2.2.2.2.2.2.2.2.2.2.2.2.2.2.2.2.2.2.2.2.2)) else f_Model_mode_10 v0))
set_option maxHeartbeats 4000000 in
set_option maxRecDepth 100000 in
theorem w_Model_mode {p : Program} {l : Launch} {e : Env} {s : State} {m : MethodId} {args : Array Value} {below : List Frame} {meth : Method} {c : Code} {A : Nat → Prop} {D : va_G} {cC cI : ClassId} {a0_0 a0_1 a0_2 a0_3 a0_4 a0_5 a0_6 a0_7 : Nat} (X : xCX p s m args meth c A D cC cI b_Model_mode 2 R_Model (some .boolean)) {out : O_Model_mode} (v0 : T_Model) (v1 : Int32) {ls : Array Slot} {H : Heap} {locs : List Loc} (h : f_Model_mode v0 v1 = some out) (hl : lv_has ls 2 [(0, .ref a0_0), (1, .int v1)]) (hP : va_P D classes (wd_Model_mode cC cI a0_0 a0_1 a0_2 a0_3 a0_4 a0_5 a0_6 a0_7 v0) H) (hD : va_D A (wd_Model_mode cC cI a0_0 a0_1 a0_2 a0_3 a0_4 a0_5 a0_6 a0_7 v0)) (hS : va_S A s.heap H locs) : W p l e rm_Model_mode s m args below meth c H locs 0 0 (MQ below (q_Model_mode D cC cI a0_0 a0_1 a0_2 a0_3 a0_4 a0_5 a0_6 a0_7 out A) args s 0 0 A) (F0 m 0 ls []) := by
  obtain ⟨hx, hb, hml, hown, htB, ⟨hK, hN⟩, hZ, hA, hr, hlocks⟩ := id X
  refine lv_iload_n hx hb d_Model_mode_0 rfl (lv_at hl 1 rfl) ?_
  refine lv_if_lt (tgt := 10) hx hb d_Model_mode_1 rfl (fun hc => ?_) (fun hc => ?_)
  · have h := (if_pos hc).symm.trans h
    exact w_Model_mode_10 X v0 ls H locs h (lv_sub hl [] rfl) hP hD hS
  have h := (if_neg hc).symm.trans h
  refine lv_iload_n hx hb d_Model_mode_4 rfl (lv_at hl 1 rfl) ?_
  refine lv_bipush (v := 7) hx hb d_Model_mode_5 (by decide) ?_
  refine lv_icmp_le (tgt := 12) hx hb d_Model_mode_7 rfl (fun hc => ?_) (fun hc => ?_)
  · have h := (if_pos hc).symm.trans h
    refine lv_aload_n hx hb d_Model_mode_12 rfl (lv_at hl 0 rfl) ?_
    refine lv_iload_n hx hb d_Model_mode_13 rfl (lv_at hl 1 rfl) ?_
    refine va_put (D := D) (ci := 11) (v := .int v1) (ty := .int) (C := R_Model) (T := F_Model) (N := 23) hx hb htB in_Model t_Model t_Model_ok n_Model hown hK hP hD hS 0 rfl rfl 4 (by decide) (htB _ b_365) (fun _ h9 => h9) rfl (by decide +kernel) rfl rfl (Nat.le_of_ble_eq_true rfl) d_Model_mode_14 (fun H locs hP hD hS => ?_)
    have hP : va_P D classes (wd_Model_mode cC cI a0_0 a0_1 a0_2 a0_3 a0_4 a0_5 a0_6 a0_7 (v0.1, v0.2.1, v0.2.2.1, v0.2.2.2.1, v1, v0.2.2.2.2.2.1, v0.2.2.2.2.2.2.1, v0.2.2.2.2.2.2.2.1, v0.2.2.2.2.2.2.2.2.1, v0.2.2.2.2.2.2.2.2.2.1, v0.2.2.2.2.2.2.2.2.2.2.1, v0.2.2.2.2.2.2.2.2.2.2.2.1, v0.2.2.2.2.2.2.2.2.2.2.2.2.1, v0.2.2.2.2.2.2.2.2.2.2.2.2.2.1, v0.2.2.2.2.2.2.2.2.2.2.2.2.2.2.1, v0.2.2.2.2.2.2.2.2.2.2.2.2.2.2.2.1, v0.2.2.2.2.2.2.2.2.2.2.2.2.2.2.2.2.1, v0.2.2.2.2.2.2.2.2.2.2.2.2.2.2.2.2.2.1, v0.2.2.2.2.2.2.2.2.2.2.2.2.2.2.2.2.2.2.1, v0.2.2.2.2.2.2.2.2.2.2.2.2.2.2.2.2.2.2.2.1, v0.2.2.2.2.2.2.2.2.2.2.2.2.2.2.2.2.2.2.2.2.1, v0.2.2.2.2.2.2.2.2.2.2.2.2.2.2.2.2.2.2.2.2.2.1, v0.2.2.2.2.2.2.2.2.2.2.2.2.2.2.2.2.2.2.2.2.2.2)) H := hP
    have hD : va_D A (wd_Model_mode cC cI a0_0 a0_1 a0_2 a0_3 a0_4 a0_5 a0_6 a0_7 (v0.1, v0.2.1, v0.2.2.1, v0.2.2.2.1, v1, v0.2.2.2.2.2.1, v0.2.2.2.2.2.2.1, v0.2.2.2.2.2.2.2.1, v0.2.2.2.2.2.2.2.2.1, v0.2.2.2.2.2.2.2.2.2.1, v0.2.2.2.2.2.2.2.2.2.2.1, v0.2.2.2.2.2.2.2.2.2.2.2.1, v0.2.2.2.2.2.2.2.2.2.2.2.2.1, v0.2.2.2.2.2.2.2.2.2.2.2.2.2.1, v0.2.2.2.2.2.2.2.2.2.2.2.2.2.2.1, v0.2.2.2.2.2.2.2.2.2.2.2.2.2.2.2.1, v0.2.2.2.2.2.2.2.2.2.2.2.2.2.2.2.2.1, v0.2.2.2.2.2.2.2.2.2.2.2.2.2.2.2.2.2.1, v0.2.2.2.2.2.2.2.2.2.2.2.2.2.2.2.2.2.2.1, v0.2.2.2.2.2.2.2.2.2.2.2.2.2.2.2.2.2.2.2.1, v0.2.2.2.2.2.2.2.2.2.2.2.2.2.2.2.2.2.2.2.2.1, v0.2.2.2.2.2.2.2.2.2.2.2.2.2.2.2.2.2.2.2.2.2.1, v0.2.2.2.2.2.2.2.2.2.2.2.2.2.2.2.2.2.2.2.2.2.2)) := hD
    refine lv_iconst (v := 1) hx hb d_Model_mode_17 (by decide) ?_
    obtain rfl := Option.some.inj h
    exact W.zret (v := (1 : Int32)) (ty := .boolean) hx hb hr rfl (fun t ht hW => ⟨⟨(1 : Int32), (), rfl, rfl, by rw [ht]; exact hP, hD⟩, hS.F ht⟩) hS.2.2 d_Model_mode_18 hlocks
  have h := (if_neg hc).symm.trans h
  exact w_Model_mode_10 X v0 ls H locs h (lv_sub hl [] rfl) hP hD hS

set_option maxHeartbeats 4000000 in
set_option maxRecDepth 100000 in
theorem c_Model_mode (l : Launch) (D : va_G) (cC cI : ClassId) (sz : Nat) (a0_0 a0_1 a0_2 a0_3 a0_4 a0_5 a0_6 a0_7 : Nat) (v0 : T_Model) (v1 : Int32) (out : O_Model_mode) (h : f_Model_mode v0 v1 = some out) : Met l y_Model_mode (.code y_Model_mode b_Model_mode 2 (some .boolean) :: BIG) rm_Model_mode (va_Pc [.ref a0_0, .int v1] (xPre D cC cI (wd_Model_mode cC cI a0_0 a0_1 a0_2 a0_3 a0_4 a0_5 a0_6 a0_7 v0) sz)) (q_Model_mode D cC cI a0_0 a0_1 a0_2 a0_3 a0_4 a0_5 a0_6 a0_7 out (va_A (wd_Model_mode cC cI a0_0 a0_1 a0_2 a0_3 a0_4 a0_5 a0_6 a0_7 v0) sz)) 0 0 (va_A (wd_Model_mode cC cI a0_0 a0_1 a0_2 a0_3 a0_4 a0_5 a0_6 a0_7 v0) sz) := by
  refine Met.ofW (cc := b_Model_mode) (maxL := 2) (ret := (some .boolean)) (by decide) rfl ?_
  intro p e s m args below meth c s₁ B hml hv
  obtain ⟨rfl, rfl, hP, hD0, hG, hZ⟩ := hv
  have hl := lv_entry [.ref a0_0, .int v1] (n := 2) (Nat.le_of_ble_eq_true rfl)
  rw [lg_entry_eq]
  exact w_Model_mode (x_cx B hml hG hZ) v0 v1 h hl hP hD0.self va_S.rf

abbrev wd_Model_setting (cC cI : ClassId) (a0_0 a0_1 a0_2 a0_3 a0_4 a0_5 a0_6 a0_7 : Nat) (v0 : T_Model) : va_W := [(a0_0, .inr (11, [.ref a0_1, .int v0.2.1, .ref a0_2, .int v0.2.2.2.1, .int v0.2.2.2.2.1, .int v0.2.2.2.2.2.1, .ref a0_3, .ref a0_4, .ref a0_5, .int v0.2.2.2.2.2.2.2.2.2.1, .int v0.2.2.2.2.2.2.2.2.2.2.1, .int v0.2.2.2.2.2.2.2.2.2.2.2.1, .int v0.2.2.2.2.2.2.2.2.2.2.2.2.1, .ref a0_6, .int v0.2.2.2.2.2.2.2.2.2.2.2.2.2.2.1, .int v0.2.2.2.2.2.2.2.2.2.2.2.2.2.2.2.1, .int v0.2.2.2.2.2.2.2.2.2.2.2.2.2.2.2.2.1, .ref a0_7, .long v0.2.2.2.2.2.2.2.2.2.2.2.2.2.2.2.2.2.2.1, .int v0.2.2.2.2.2.2.2.2.2.2.2.2.2.2.2.2.2.2.2.1, .long v0.2.2.2.2.2.2.2.2.2.2.2.2.2.2.2.2.2.2.2.2.1, .int v0.2.2.2.2.2.2.2.2.2.2.2.2.2.2.2.2.2.2.2.2.2.1, .int v0.2.2.2.2.2.2.2.2.2.2.2.2.2.2.2.2.2.2.2.2.2.2])), (a0_1, .inl (cC, 120, .inl v0.1)), (a0_2, .inl (cC, 200, .inl v0.2.2.1)), (a0_3, .inl (cI, 160, .inl v0.2.2.2.2.2.2.1)), (a0_4, .inl (cI, 4, .inl v0.2.2.2.2.2.2.2.1)), (a0_5, .inl (cI, 7, .inl v0.2.2.2.2.2.2.2.2.1)), (a0_6, .inl (cI, 40, .inl v0.2.2.2.2.2.2.2.2.2.2.2.2.2.1)), (a0_7, .inl (cI, 6, .inl v0.2.2.2.2.2.2.2.2.2.2.2.2.2.2.2.2.2.1))]
abbrev O_Model_setting : Type := Int32
abbrev q_Model_setting (D : va_G) (cC cI : ClassId) (a0_0 a0_1 a0_2 a0_3 a0_4 a0_5 a0_6 a0_7 : Nat) (v0 : T_Model) (out : O_Model_setting) (A : Nat → Prop) : Array Value → State → Outcome → State → Prop := va_Qi (fun r (_ : Unit) => r = out) (fun _ t => va_P D classes (wd_Model_setting cC cI a0_0 a0_1 a0_2 a0_3 a0_4 a0_5 a0_6 a0_7 v0) t.heap ∧ va_D A (wd_Model_setting cC cI a0_0 a0_1 a0_2 a0_3 a0_4 a0_5 a0_6 a0_7 v0)) A
abbrev rm_Model_setting : Room := { frames := 0, cells := 0, slots := 0, locals := 0 }
def J_Model_setting_17 (p : Program) (l : Launch) (e : Env) (s : State) (m : MethodId) (args : Array Value) (below : List Frame) (meth : Method) (c : Code) (A : Nat → Prop) (D : va_G) (cC cI : ClassId) (a0_0 a0_1 a0_2 a0_3 a0_4 a0_5 a0_6 a0_7 : Nat) (v0 : T_Model) (out : O_Model_setting) (k : Option O_Model_setting) : Prop := ∀  (ls : Array Slot) (H : Heap) (locs : List Loc), k  = some out → lv_has ls 2 [] → va_P D classes (wd_Model_setting cC cI a0_0 a0_1 a0_2 a0_3 a0_4 a0_5 a0_6 a0_7 v0) H → va_D A (wd_Model_setting cC cI a0_0 a0_1 a0_2 a0_3 a0_4 a0_5 a0_6 a0_7 v0) → va_S A s.heap H locs → W p l e rm_Model_setting s m args below meth c H locs 0 0 (MQ below (q_Model_setting D cC cI a0_0 a0_1 a0_2 a0_3 a0_4 a0_5 a0_6 a0_7 v0 out A) args s 0 0 A) (F0 m 17 ls [])
def J_Model_setting_27 (p : Program) (l : Launch) (e : Env) (s : State) (m : MethodId) (args : Array Value) (below : List Frame) (meth : Method) (c : Code) (A : Nat → Prop) (D : va_G) (cC cI : ClassId) (a0_0 a0_1 a0_2 a0_3 a0_4 a0_5 a0_6 a0_7 : Nat) (v0 : T_Model) (out : O_Model_setting) (k : Int32 → Option O_Model_setting) : Prop := ∀ (s0 : Int32) (ls : Array Slot) (H : Heap) (locs : List Loc), k s0 = some out → lv_has ls 2 [] → va_P D classes (wd_Model_setting cC cI a0_0 a0_1 a0_2 a0_3 a0_4 a0_5 a0_6 a0_7 v0) H → va_D A (wd_Model_setting cC cI a0_0 a0_1 a0_2 a0_3 a0_4 a0_5 a0_6 a0_7 v0) → va_S A s.heap H locs → W p l e rm_Model_setting s m args below meth c H locs 0 0 (MQ below (q_Model_setting D cC cI a0_0 a0_1 a0_2 a0_3 a0_4 a0_5 a0_6 a0_7 v0 out A) args s 0 0 A) (F0 m 27 ls [.int s0])
def f_Model_setting_27 (v0 : T_Model) (s0 : Int32) : Option O_Model_setting := some s0
set_option maxHeartbeats 4000000 in
set_option maxRecDepth 100000 in
theorem w_Model_setting_27 {p : Program} {l : Launch} {e : Env} {s : State} {m : MethodId} {args : Array Value} {below : List Frame} {meth : Method} {c : Code} {A : Nat → Prop} {D : va_G} {cC cI : ClassId} {a0_0 a0_1 a0_2 a0_3 a0_4 a0_5 a0_6 a0_7 : Nat} {v0 : T_Model} (X : xCX p s m args meth c A D cC cI b_Model_setting 2 R_Model (some .int)) {out : O_Model_setting}   : J_Model_setting_27 p l e s m args below meth c A D cC cI a0_0 a0_1 a0_2 a0_3 a0_4 a0_5 a0_6 a0_7 v0 out (f_Model_setting_27 v0 ) := by
  obtain ⟨hx, hb, hml, hown, htB, ⟨hK, hN⟩, hZ, hA, hr, hlocks⟩ := id X
  intro s0 ls H locs h hl hP hD hS
  obtain rfl := Option.some.inj h
  exact W.iret (v := s0) hx hb hr (fun t ht hW => ⟨⟨s0, (), rfl, rfl, by rw [ht]; exact hP, hD⟩, hS.F ht⟩) hS.2.2 d_Model_setting_27 hlocks

def f_Model_setting_17 (v0 : T_Model) : Option O_Model_setting := f_Model_setting_27 v0 (-1 : Int32)
set_option maxHeartbeats 4000000 in
set_option maxRecDepth 100000 in
theorem w_Model_setting_17 {p : Program} {l : Launch} {e : Env} {s : State} {m : MethodId} {args : Array Value} {below : List Frame} {meth : Method} {c : Code} {A : Nat → Prop} {D : va_G} {cC cI : ClassId} {a0_0 a0_1 a0_2 a0_3 a0_4 a0_5 a0_6 a0_7 : Nat} {v0 : T_Model} (X : xCX p s m args meth c A D cC cI b_Model_setting 2 R_Model (some .int)) {out : O_Model_setting}   : J_Model_setting_17 p l e s m args below meth c A D cC cI a0_0 a0_1 a0_2 a0_3 a0_4 a0_5 a0_6 a0_7 v0 out (f_Model_setting_17 v0 ) := by
  obtain ⟨hx, hb, hml, hown, htB, ⟨hK, hN⟩, hZ, hA, hr, hlocks⟩ := id X
  intro  ls H locs h hl hP hD hS
  refine lv_iconst (v := -1) hx hb d_Model_setting_17 (by decide) ?_
  refine lv_goto (tgt := 27) hx hb d_Model_setting_18 rfl ?_
  exact w_Model_setting_27 X (-1 : Int32) ls H locs h (lv_sub hl [] rfl) hP hD hS

def f_Model_setting (v0 : T_Model) (v1 : Int32) : Option O_Model_setting := (if v0.2.2.2.2.2.1 = 0 then f_Model_setting_17 v0 else (if v1 < 0 then f_Model_setting_17 v0 else (if v1 ≤ (6 : Int32) then if ix v1 7 then f_Model_setting_27 v0 (v0.2.2.2.2.2.2.2.2.1 v1.toNatClampNeg) else none else f_Model_setting_17 v0)))
set_option maxHeartbeats 4000000 in
set_option maxRecDepth 100000 in
theorem w_Model_setting {p : Program} {l : Launch} {e : Env} {s : State} {m : MethodId} {args : Array Value} {below : List Frame} {meth : Method} {c : Code} {A : Nat → Prop} {D : va_G} {cC cI : ClassId} {a0_0 a0_1 a0_2 a0_3 a0_4 a0_5 a0_6 a0_7 : Nat} {v0 : T_Model} (X : xCX p s m args meth c A D cC cI b_Model_setting 2 R_Model (some .int)) {out : O_Model_setting} (v1 : Int32) {ls : Array Slot} {H : Heap} {locs : List Loc} (h : f_Model_setting v0 v1 = some out) (hl : lv_has ls 2 [(0, .ref a0_0), (1, .int v1)]) (hP : va_P D classes (wd_Model_setting cC cI a0_0 a0_1 a0_2 a0_3 a0_4 a0_5 a0_6 a0_7 v0) H) (hD : va_D A (wd_Model_setting cC cI a0_0 a0_1 a0_2 a0_3 a0_4 a0_5 a0_6 a0_7 v0)) (hS : va_S A s.heap H locs) : W p l e rm_Model_setting s m args below meth c H locs 0 0 (MQ below (q_Model_setting D cC cI a0_0 a0_1 a0_2 a0_3 a0_4 a0_5 a0_6 a0_7 v0 out A) args s 0 0 A) (F0 m 0 ls []) := by
  obtain ⟨hx, hb, hml, hown, htB, ⟨hK, hN⟩, hZ, hA, hr, hlocks⟩ := id X
  refine lv_aload_n hx hb d_Model_setting_0 rfl (lv_at hl 0 rfl) ?_
  refine va_get (D := D) (ci := 11) (v := .int v0.2.2.2.2.2.1) (C := R_Model) (T := F_Model) (N := 23) hx hb htB in_Model hown hK hP 0 rfl rfl 5 (by decide) (htB _ b_360) (fun _ h9 => h9) rfl d_Model_setting_1 ?_
  refine lv_if_eq (tgt := 17) hx hb d_Model_setting_4 rfl (fun hc => ?_) (fun hc => ?_)
  · have h := (if_pos hc).symm.trans h
    exact w_Model_setting_17 X ls H locs h (lv_sub hl [] rfl) hP hD hS
  have h := (if_neg hc).symm.trans h
  refine lv_iload_n hx hb d_Model_setting_7 rfl (lv_at hl 1 rfl) ?_
  refine lv_if_lt (tgt := 17) hx hb d_Model_setting_8 rfl (fun hc => ?_) (fun hc => ?_)
  · have h := (if_pos hc).symm.trans h
    exact w_Model_setting_17 X ls H locs h (lv_sub hl [] rfl) hP hD hS
  have h := (if_neg hc).symm.trans h
  refine lv_iload_n hx hb d_Model_setting_11 rfl (lv_at hl 1 rfl) ?_
  refine lv_bipush (v := 6) hx hb d_Model_setting_12 (by decide) ?_
  refine lv_icmp_le (tgt := 21) hx hb d_Model_setting_14 rfl (fun hc => ?_) (fun hc => ?_)
  · have h := (if_pos hc).symm.trans h
    refine lv_aload_n hx hb d_Model_setting_21 rfl (lv_at hl 0 rfl) ?_
    refine va_get (D := D) (ci := 11) (v := .ref a0_5) (C := R_Model) (T := F_Model) (N := 23) hx hb htB in_Model hown hK hP 0 rfl rfl 8 (by decide) (htB _ b_330) (fun _ h9 => h9) rfl d_Model_setting_22 ?_
    refine lv_iload_n hx hb d_Model_setting_25 rfl (lv_at hl 1 rfl) ?_
    obtain ⟨hc, h⟩ := x_chk h
    refine va_iald hx hb hK hP 5 1 rfl rfl hc d_Model_setting_26 ?_
    exact w_Model_setting_27 X (v0.2.2.2.2.2.2.2.2.1 v1.toNatClampNeg) ls H locs h (lv_sub hl [] rfl) hP hD hS
  have h := (if_neg hc).symm.trans h
  exact w_Model_setting_17 X ls H locs h (lv_sub hl [] rfl) hP hD hS

set_option maxHeartbeats 4000000 in
set_option maxRecDepth 100000 in
theorem c_Model_setting (l : Launch) (D : va_G) (cC cI : ClassId) (sz : Nat) (a0_0 a0_1 a0_2 a0_3 a0_4 a0_5 a0_6 a0_7 : Nat) (v0 : T_Model) (v1 : Int32) (out : O_Model_setting) (h : f_Model_setting v0 v1 = some out) : Met l y_Model_setting (.code y_Model_setting b_Model_setting 2 (some .int) :: BIG) rm_Model_setting (va_Pc [.ref a0_0, .int v1] (xPre D cC cI (wd_Model_setting cC cI a0_0 a0_1 a0_2 a0_3 a0_4 a0_5 a0_6 a0_7 v0) sz)) (q_Model_setting D cC cI a0_0 a0_1 a0_2 a0_3 a0_4 a0_5 a0_6 a0_7 v0 out (va_A (wd_Model_setting cC cI a0_0 a0_1 a0_2 a0_3 a0_4 a0_5 a0_6 a0_7 v0) sz)) 0 0 (va_A (wd_Model_setting cC cI a0_0 a0_1 a0_2 a0_3 a0_4 a0_5 a0_6 a0_7 v0) sz) := by
  refine Met.ofW (cc := b_Model_setting) (maxL := 2) (ret := (some .int)) (by decide) rfl ?_
  intro p e s m args below meth c s₁ B hml hv
  obtain ⟨rfl, rfl, hP, hD0, hG, hZ⟩ := hv
  have hl := lv_entry [.ref a0_0, .int v1] (n := 2) (Nat.le_of_ble_eq_true rfl)
  rw [lg_entry_eq]
  exact w_Model_setting (x_cx B hml hG hZ) v1 h hl hP hD0.self va_S.rf

abbrev wd_Model_borrowed (cC cI : ClassId) (a0_0 a0_1 a0_2 a0_3 a0_4 a0_5 a0_6 a0_7 : Nat) (v0 : T_Model) : va_W := [(a0_0, .inr (11, [.ref a0_1, .int v0.2.1, .ref a0_2, .int v0.2.2.2.1, .int v0.2.2.2.2.1, .int v0.2.2.2.2.2.1, .ref a0_3, .ref a0_4, .ref a0_5, .int v0.2.2.2.2.2.2.2.2.2.1, .int v0.2.2.2.2.2.2.2.2.2.2.1, .int v0.2.2.2.2.2.2.2.2.2.2.2.1, .int v0.2.2.2.2.2.2.2.2.2.2.2.2.1, .ref a0_6, .int v0.2.2.2.2.2.2.2.2.2.2.2.2.2.2.1, .int v0.2.2.2.2.2.2.2.2.2.2.2.2.2.2.2.1, .int v0.2.2.2.2.2.2.2.2.2.2.2.2.2.2.2.2.1, .ref a0_7, .long v0.2.2.2.2.2.2.2.2.2.2.2.2.2.2.2.2.2.2.1, .int v0.2.2.2.2.2.2.2.2.2.2.2.2.2.2.2.2.2.2.2.1, .long v0.2.2.2.2.2.2.2.2.2.2.2.2.2.2.2.2.2.2.2.2.1, .int v0.2.2.2.2.2.2.2.2.2.2.2.2.2.2.2.2.2.2.2.2.2.1, .int v0.2.2.2.2.2.2.2.2.2.2.2.2.2.2.2.2.2.2.2.2.2.2])), (a0_1, .inl (cC, 120, .inl v0.1)), (a0_2, .inl (cC, 200, .inl v0.2.2.1)), (a0_3, .inl (cI, 160, .inl v0.2.2.2.2.2.2.1)), (a0_4, .inl (cI, 4, .inl v0.2.2.2.2.2.2.2.1)), (a0_5, .inl (cI, 7, .inl v0.2.2.2.2.2.2.2.2.1)), (a0_6, .inl (cI, 40, .inl v0.2.2.2.2.2.2.2.2.2.2.2.2.2.1)), (a0_7, .inl (cI, 6, .inl v0.2.2.2.2.2.2.2.2.2.2.2.2.2.2.2.2.2.1))]
abbrev O_Model_borrowed : Type := Int32
abbrev q_Model_borrowed (D : va_G) (cC cI : ClassId) (a0_0 a0_1 a0_2 a0_3 a0_4 a0_5 a0_6 a0_7 : Nat) (v0 : T_Model) (out : O_Model_borrowed) (A : Nat → Prop) : Array Value → State → Outcome → State → Prop := va_Qi (fun r (_ : Unit) => r = out) (fun _ t => va_P D classes (wd_Model_borrowed cC cI a0_0 a0_1 a0_2 a0_3 a0_4 a0_5 a0_6 a0_7 v0) t.heap ∧ va_D A (wd_Model_borrowed cC cI a0_0 a0_1 a0_2 a0_3 a0_4 a0_5 a0_6 a0_7 v0)) A
abbrev rm_Model_borrowed : Room := { frames := 0, cells := 0, slots := 0, locals := 0 }
def J_Model_borrowed_18 (p : Program) (l : Launch) (e : Env) (s : State) (m : MethodId) (args : Array Value) (below : List Frame) (meth : Method) (c : Code) (A : Nat → Prop) (D : va_G) (cC cI : ClassId) (a0_0 a0_1 a0_2 a0_3 a0_4 a0_5 a0_6 a0_7 : Nat) (v0 : T_Model) (out : O_Model_borrowed) (k : Option O_Model_borrowed) : Prop := ∀  (ls : Array Slot) (H : Heap) (locs : List Loc), k  = some out → lv_has ls 2 [] → va_P D classes (wd_Model_borrowed cC cI a0_0 a0_1 a0_2 a0_3 a0_4 a0_5 a0_6 a0_7 v0) H → va_D A (wd_Model_borrowed cC cI a0_0 a0_1 a0_2 a0_3 a0_4 a0_5 a0_6 a0_7 v0) → va_S A s.heap H locs → W p l e rm_Model_borrowed s m args below meth c H locs 0 0 (MQ below (q_Model_borrowed D cC cI a0_0 a0_1 a0_2 a0_3 a0_4 a0_5 a0_6 a0_7 v0 out A) args s 0 0 A) (F0 m 18 ls [])
def J_Model_borrowed_19 (p : Program) (l : Launch) (e : Env) (s : State) (m : MethodId) (args : Array Value) (below : List Frame) (meth : Method) (c : Code) (A : Nat → Prop) (D : va_G) (cC cI : ClassId) (a0_0 a0_1 a0_2 a0_3 a0_4 a0_5 a0_6 a0_7 : Nat) (v0 : T_Model) (out : O_Model_borrowed) (k : Int32 → Option O_Model_borrowed) : Prop := ∀ (s0 : Int32) (ls : Array Slot) (H : Heap) (locs : List Loc), k s0 = some out → lv_has ls 2 [] → va_P D classes (wd_Model_borrowed cC cI a0_0 a0_1 a0_2 a0_3 a0_4 a0_5 a0_6 a0_7 v0) H → va_D A (wd_Model_borrowed cC cI a0_0 a0_1 a0_2 a0_3 a0_4 a0_5 a0_6 a0_7 v0) → va_S A s.heap H locs → W p l e rm_Model_borrowed s m args below meth c H locs 0 0 (MQ below (q_Model_borrowed D cC cI a0_0 a0_1 a0_2 a0_3 a0_4 a0_5 a0_6 a0_7 v0 out A) args s 0 0 A) (F0 m 19 ls [.int s0])
def f_Model_borrowed_19 (v0 : T_Model) (s0 : Int32) : Option O_Model_borrowed := if (s0 = 0 ∨ s0 = 1) then some s0 else none
set_option maxHeartbeats 4000000 in
set_option maxRecDepth 100000 in
theorem w_Model_borrowed_19 {p : Program} {l : Launch} {e : Env} {s : State} {m : MethodId} {args : Array Value} {below : List Frame} {meth : Method} {c : Code} {A : Nat → Prop} {D : va_G} {cC cI : ClassId} {a0_0 a0_1 a0_2 a0_3 a0_4 a0_5 a0_6 a0_7 : Nat} {v0 : T_Model} (X : xCX p s m args meth c A D cC cI b_Model_borrowed 2 R_Model (some .boolean)) {out : O_Model_borrowed}   : J_Model_borrowed_19 p l e s m args below meth c A D cC cI a0_0 a0_1 a0_2 a0_3 a0_4 a0_5 a0_6 a0_7 v0 out (f_Model_borrowed_19 v0 ) := by
  obtain ⟨hx, hb, hml, hown, htB, ⟨hK, hN⟩, hZ, hA, hr, hlocks⟩ := id X
  intro s0 ls H locs h hl hP hD hS
  obtain ⟨hc, h⟩ := x_chk h
  obtain rfl := Option.some.inj h
  exact W.zret (v := s0) (ty := .boolean) hx hb hr (x_zn hc) (fun t ht hW => ⟨⟨s0, (), rfl, rfl, by rw [ht]; exact hP, hD⟩, hS.F ht⟩) hS.2.2 d_Model_borrowed_19 hlocks

def f_Model_borrowed_18 (v0 : T_Model) : Option O_Model_borrowed := f_Model_borrowed_19 v0 (0 : Int32)
set_option maxHeartbeats 4000000 in
set_option maxRecDepth 100000 in
theorem w_Model_borrowed_18 {p : Program} {l : Launch} {e : Env} {s : State} {m : MethodId} {args : Array Value} {below : List Frame} {meth : Method} {c : Code} {A : Nat → Prop} {D : va_G} {cC cI : ClassId} {a0_0 a0_1 a0_2 a0_3 a0_4 a0_5 a0_6 a0_7 : Nat} {v0 : T_Model} (X : xCX p s m args meth c A D cC cI b_Model_borrowed 2 R_Model (some .boolean)) {out : O_Model_borrowed}   : J_Model_borrowed_18 p l e s m args below meth c A D cC cI a0_0 a0_1 a0_2 a0_3 a0_4 a0_5 a0_6 a0_7 v0 out (f_Model_borrowed_18 v0 ) := by
  obtain ⟨hx, hb, hml, hown, htB, ⟨hK, hN⟩, hZ, hA, hr, hlocks⟩ := id X
  intro  ls H locs h hl hP hD hS
  refine lv_iconst (v := 0) hx hb d_Model_borrowed_18 (by decide) ?_
  exact w_Model_borrowed_19 X (0 : Int32) ls H locs h (lv_sub hl [] rfl) hP hD hS

def f_Model_borrowed (v0 : T_Model) (v1 : Int32) : Option O_Model_borrowed := (if v1 = 0 then f_Model_borrowed_18 v0 else (if (v0.2.2.2.2.2.2.2.2.1 (6 : Int32).toNatClampNeg) = 0 then f_Model_borrowed_19 v0 (1 : Int32) else f_Model_borrowed_18 v0))
set_option maxHeartbeats 4000000 in
set_option maxRecDepth 100000 in
theorem w_Model_borrowed {p : Program} {l : Launch} {e : Env} {s : State} {m : MethodId} {args : Array Value} {below : List Frame} {meth : Method} {c : Code} {A : Nat → Prop} {D : va_G} {cC cI : ClassId} {a0_0 a0_1 a0_2 a0_3 a0_4 a0_5 a0_6 a0_7 : Nat} {v0 : T_Model} (X : xCX p s m args meth c A D cC cI b_Model_borrowed 2 R_Model (some .boolean)) {out : O_Model_borrowed} (v1 : Int32) {ls : Array Slot} {H : Heap} {locs : List Loc} (h : f_Model_borrowed v0 v1 = some out) (hl : lv_has ls 2 [(0, .ref a0_0), (1, .int v1)]) (hP : va_P D classes (wd_Model_borrowed cC cI a0_0 a0_1 a0_2 a0_3 a0_4 a0_5 a0_6 a0_7 v0) H) (hD : va_D A (wd_Model_borrowed cC cI a0_0 a0_1 a0_2 a0_3 a0_4 a0_5 a0_6 a0_7 v0)) (hS : va_S A s.heap H locs) : W p l e rm_Model_borrowed s m args below meth c H locs 0 0 (MQ below (q_Model_borrowed D cC cI a0_0 a0_1 a0_2 a0_3 a0_4 a0_5 a0_6 a0_7 v0 out A) args s 0 0 A) (F0 m 0 ls []) := by
  obtain ⟨hx, hb, hml, hown, htB, ⟨hK, hN⟩, hZ, hA, hr, hlocks⟩ := id X
  refine lv_iload_n hx hb d_Model_borrowed_0 rfl (lv_at hl 1 rfl) ?_
  refine lv_if_eq (tgt := 18) hx hb d_Model_borrowed_1 rfl (fun hc => ?_) (fun hc => ?_)
  · have h := (if_pos hc).symm.trans h
    exact w_Model_borrowed_18 X ls H locs h (lv_sub hl [] rfl) hP hD hS
  have h := (if_neg hc).symm.trans h
  refine lv_aload_n hx hb d_Model_borrowed_4 rfl (lv_at hl 0 rfl) ?_
  refine va_get (D := D) (ci := 11) (v := .ref a0_5) (C := R_Model) (T := F_Model) (N := 23) hx hb htB in_Model hown hK hP 0 rfl rfl 8 (by decide) (htB _ b_330) (fun _ h9 => h9) rfl d_Model_borrowed_5 ?_
  refine lv_bipush (v := 6) hx hb d_Model_borrowed_8 (by decide) ?_
  refine va_iald hx hb hK hP 5 1 rfl rfl (show ¬ (((6 : Int32) : Int32) < 0 ∨ 7 ≤ ((6 : Int32) : Int32).toNatClampNeg) by decide) d_Model_borrowed_10 ?_
  refine lv_if_ne (tgt := 18) hx hb d_Model_borrowed_11 rfl (fun hc => ?_) (fun hc => ?_)
  · have h := (if_neg hc).symm.trans h
    exact w_Model_borrowed_18 X ls H locs h (lv_sub hl [] rfl) hP hD hS
  have h := (if_pos hc).symm.trans h
  refine lv_iconst (v := 1) hx hb d_Model_borrowed_14 (by decide) ?_
  refine lv_goto (tgt := 19) hx hb d_Model_borrowed_15 rfl ?_
  exact w_Model_borrowed_19 X (1 : Int32) ls H locs h (lv_sub hl [] rfl) hP hD hS

set_option maxHeartbeats 4000000 in
set_option maxRecDepth 100000 in
theorem c_Model_borrowed (l : Launch) (D : va_G) (cC cI : ClassId) (sz : Nat) (a0_0 a0_1 a0_2 a0_3 a0_4 a0_5 a0_6 a0_7 : Nat) (v0 : T_Model) (v1 : Int32) (out : O_Model_borrowed) (h : f_Model_borrowed v0 v1 = some out) : Met l y_Model_borrowed (.code y_Model_borrowed b_Model_borrowed 2 (some .boolean) :: BIG) rm_Model_borrowed (va_Pc [.ref a0_0, .int v1] (xPre D cC cI (wd_Model_borrowed cC cI a0_0 a0_1 a0_2 a0_3 a0_4 a0_5 a0_6 a0_7 v0) sz)) (q_Model_borrowed D cC cI a0_0 a0_1 a0_2 a0_3 a0_4 a0_5 a0_6 a0_7 v0 out (va_A (wd_Model_borrowed cC cI a0_0 a0_1 a0_2 a0_3 a0_4 a0_5 a0_6 a0_7 v0) sz)) 0 0 (va_A (wd_Model_borrowed cC cI a0_0 a0_1 a0_2 a0_3 a0_4 a0_5 a0_6 a0_7 v0) sz) := by
  refine Met.ofW (cc := b_Model_borrowed) (maxL := 2) (ret := (some .boolean)) (by decide) rfl ?_
  intro p e s m args below meth c s₁ B hml hv
  obtain ⟨rfl, rfl, hP, hD0, hG, hZ⟩ := hv
  have hl := lv_entry [.ref a0_0, .int v1] (n := 2) (Nat.le_of_ble_eq_true rfl)
  rw [lg_entry_eq]
  exact w_Model_borrowed (x_cx B hml hG hZ) v1 h hl hP hD0.self va_S.rf

abbrev wd_Model_shownLength (cC cI : ClassId) (a0_0 a0_1 a0_2 a0_3 a0_4 a0_5 a0_6 a0_7 : Nat) (v0 : T_Model) : va_W := [(a0_0, .inr (11, [.ref a0_1, .int v0.2.1, .ref a0_2, .int v0.2.2.2.1, .int v0.2.2.2.2.1, .int v0.2.2.2.2.2.1, .ref a0_3, .ref a0_4, .ref a0_5, .int v0.2.2.2.2.2.2.2.2.2.1, .int v0.2.2.2.2.2.2.2.2.2.2.1, .int v0.2.2.2.2.2.2.2.2.2.2.2.1, .int v0.2.2.2.2.2.2.2.2.2.2.2.2.1, .ref a0_6, .int v0.2.2.2.2.2.2.2.2.2.2.2.2.2.2.1, .int v0.2.2.2.2.2.2.2.2.2.2.2.2.2.2.2.1, .int v0.2.2.2.2.2.2.2.2.2.2.2.2.2.2.2.2.1, .ref a0_7, .long v0.2.2.2.2.2.2.2.2.2.2.2.2.2.2.2.2.2.2.1, .int v0.2.2.2.2.2.2.2.2.2.2.2.2.2.2.2.2.2.2.2.1, .long v0.2.2.2.2.2.2.2.2.2.2.2.2.2.2.2.2.2.2.2.2.1, .int v0.2.2.2.2.2.2.2.2.2.2.2.2.2.2.2.2.2.2.2.2.2.1, .int v0.2.2.2.2.2.2.2.2.2.2.2.2.2.2.2.2.2.2.2.2.2.2])), (a0_1, .inl (cC, 120, .inl v0.1)), (a0_2, .inl (cC, 200, .inl v0.2.2.1)), (a0_3, .inl (cI, 160, .inl v0.2.2.2.2.2.2.1)), (a0_4, .inl (cI, 4, .inl v0.2.2.2.2.2.2.2.1)), (a0_5, .inl (cI, 7, .inl v0.2.2.2.2.2.2.2.2.1)), (a0_6, .inl (cI, 40, .inl v0.2.2.2.2.2.2.2.2.2.2.2.2.2.1)), (a0_7, .inl (cI, 6, .inl v0.2.2.2.2.2.2.2.2.2.2.2.2.2.2.2.2.2.1))]
abbrev O_Model_shownLength : Type := Int32
abbrev q_Model_shownLength (D : va_G) (cC cI : ClassId) (a0_0 a0_1 a0_2 a0_3 a0_4 a0_5 a0_6 a0_7 : Nat) (v0 : T_Model) (out : O_Model_shownLength) (A : Nat → Prop) : Array Value → State → Outcome → State → Prop := va_Qi (fun r (_ : Unit) => r = out) (fun _ t => va_P D classes (wd_Model_shownLength cC cI a0_0 a0_1 a0_2 a0_3 a0_4 a0_5 a0_6 a0_7 v0) t.heap ∧ va_D A (wd_Model_shownLength cC cI a0_0 a0_1 a0_2 a0_3 a0_4 a0_5 a0_6 a0_7 v0)) A
abbrev rm_Model_shownLength : Room := { frames := 1, cells := 0, slots := 0, locals := 21 }
def J_Model_shownLength_40 (p : Program) (l : Launch) (e : Env) (s : State) (m : MethodId) (args : Array Value) (below : List Frame) (meth : Method) (c : Code) (A : Nat → Prop) (D : va_G) (cC cI : ClassId) (a0_0 a0_1 a0_2 a0_3 a0_4 a0_5 a0_6 a0_7 : Nat) (v0 : T_Model) (out : O_Model_shownLength) (k : Int32 → Option O_Model_shownLength) : Prop := ∀ (s1 : Int32) (ls : Array Slot) (H : Heap) (locs : List Loc), k s1 = some out → lv_has ls 3 [] → va_P D classes (wd_Model_shownLength cC cI a0_0 a0_1 a0_2 a0_3 a0_4 a0_5 a0_6 a0_7 v0) H → va_D A (wd_Model_shownLength cC cI a0_0 a0_1 a0_2 a0_3 a0_4 a0_5 a0_6 a0_7 v0) → va_S A s.heap H locs → W p l e rm_Model_shownLength s m args below meth c H locs 0 0 (MQ below (q_Model_shownLength D cC cI a0_0 a0_1 a0_2 a0_3 a0_4 a0_5 a0_6 a0_7 v0 out A) args s 0 0 A) (F0 m 40 ls [.int s1, .ref a0_4])
def f_Model_shownLength_40 (v0 : T_Model) (s1 : Int32) : Option O_Model_shownLength := if ix s1 4 then some (v0.2.2.2.2.2.2.2.1 s1.toNatClampNeg) else none
set_option maxHeartbeats 4000000 in
set_option maxRecDepth 100000 in
theorem w_Model_shownLength_40 {p : Program} {l : Launch} {e : Env} {s : State} {m : MethodId} {args : Array Value} {below : List Frame} {meth : Method} {c : Code} {A : Nat → Prop} {D : va_G} {cC cI : ClassId} {a0_0 a0_1 a0_2 a0_3 a0_4 a0_5 a0_6 a0_7 : Nat} {v0 : T_Model} (X : xCX p s m args meth c A D cC cI b_Model_shownLength 3 R_Model (some .int)) {out : O_Model_shownLength}   : J_Model_shownLength_40 p l e s m args below meth c A D cC cI a0_0 a0_1 a0_2 a0_3 a0_4 a0_5 a0_6 a0_7 v0 out (f_Model_shownLength_40 v0 ) := by
  obtain ⟨hx, hb, hml, hown, htB, ⟨hK, hN⟩, hZ, hA, hr, hlocks⟩ := id X
  intro s1 ls H locs h hl hP hD hS
  obtain ⟨hc, h⟩ := x_chk h
  refine va_iald hx hb hK hP 4 1 rfl rfl hc d_Model_shownLength_40 ?_
  obtain rfl := Option.some.inj h
  exact W.iret (v := (v0.2.2.2.2.2.2.2.1 s1.toNatClampNeg)) hx hb hr (fun t ht hW => ⟨⟨(v0.2.2.2.2.2.2.2.1 s1.toNatClampNeg), (), rfl, rfl, by rw [ht]; exact hP, hD⟩, hS.F ht⟩) hS.2.2 d_Model_shownLength_41 hlocks

def J_Model_shownLength_23 (p : Program) (l : Launch) (e : Env) (s : State) (m : MethodId) (args : Array Value) (below : List Frame) (meth : Method) (c : Code) (A : Nat → Prop) (D : va_G) (cC cI : ClassId) (a0_0 a0_1 a0_2 a0_3 a0_4 a0_5 a0_6 a0_7 : Nat) (v0 : T_Model) (out : O_Model_shownLength) (k : Int32 → Int32 → Option O_Model_shownLength) : Prop := ∀ (s0 : Int32) (s1 : Int32) (ls : Array Slot) (H : Heap) (locs : List Loc), k s0 s1 = some out → lv_has ls 3 [] → va_P D classes (wd_Model_shownLength cC cI a0_0 a0_1 a0_2 a0_3 a0_4 a0_5 a0_6 a0_7 v0) H → va_D A (wd_Model_shownLength cC cI a0_0 a0_1 a0_2 a0_3 a0_4 a0_5 a0_6 a0_7 v0) → va_S A s.heap H locs → W p l e rm_Model_shownLength s m args below meth c H locs 0 0 (MQ below (q_Model_shownLength D cC cI a0_0 a0_1 a0_2 a0_3 a0_4 a0_5 a0_6 a0_7 v0 out A) args s 0 0 A) (F0 m 23 ls [.int s1, .int s0])
def f_Model_shownLength_23 (v0 : T_Model) (s0 : Int32) (s1 : Int32) : Option O_Model_shownLength := some (s0 + s1)
set_option maxHeartbeats 4000000 in
set_option maxRecDepth 100000 in
theorem w_Model_shownLength_23 {p : Program} {l : Launch} {e : Env} {s : State} {m : MethodId} {args : Array Value} {below : List Frame} {meth : Method} {c : Code} {A : Nat → Prop} {D : va_G} {cC cI : ClassId} {a0_0 a0_1 a0_2 a0_3 a0_4 a0_5 a0_6 a0_7 : Nat} {v0 : T_Model} (X : xCX p s m args meth c A D cC cI b_Model_shownLength 3 R_Model (some .int)) {out : O_Model_shownLength}   : J_Model_shownLength_23 p l e s m args below meth c A D cC cI a0_0 a0_1 a0_2 a0_3 a0_4 a0_5 a0_6 a0_7 v0 out (f_Model_shownLength_23 v0 ) := by
  obtain ⟨hx, hb, hml, hown, htB, ⟨hK, hN⟩, hZ, hA, hr, hlocks⟩ := id X
  intro s0 s1 ls H locs h hl hP hD hS
  refine lv_iadd hx hb d_Model_shownLength_23 ?_
  obtain rfl := Option.some.inj h
  exact W.iret (v := (s0 + s1)) hx hb hr (fun t ht hW => ⟨⟨(s0 + s1), (), rfl, rfl, by rw [ht]; exact hP, hD⟩, hS.F ht⟩) hS.2.2 d_Model_shownLength_24 hlocks

def f_Model_shownLength (v0 : T_Model) (v1 : Int32) (v2 : Int32) : Option O_Model_shownLength := (f_Model_borrowed v0 v1).bind (fun o2 => (if o2 = 0 then (if v1 = 0 then f_Model_shownLength_40 v0 v2 else f_Model_shownLength_40 v0 ((2 : Int32) + v2)) else if ix v2 4 then (if v2 = 0 then f_Model_shownLength_23 v0 (v0.2.2.2.2.2.2.2.1 v2.toNatClampNeg) (1 : Int32) else f_Model_shownLength_23 v0 (v0.2.2.2.2.2.2.2.1 v2.toNatClampNeg) (0 : Int32)) else none))
set_option maxHeartbeats 4000000 in
set_option maxRecDepth 100000 in
theorem w_Model_shownLength {p : Program} {l : Launch} {e : Env} {s : State} {m : MethodId} {args : Array Value} {below : List Frame} {meth : Method} {c : Code} {A : Nat → Prop} {D : va_G} {cC cI : ClassId} {a0_0 a0_1 a0_2 a0_3 a0_4 a0_5 a0_6 a0_7 : Nat} {v0 : T_Model} (X : xCX p s m args meth c A D cC cI b_Model_shownLength 3 R_Model (some .int)) {out : O_Model_shownLength} (v1 : Int32) (v2 : Int32) {ls : Array Slot} {H : Heap} {locs : List Loc} (h : f_Model_shownLength v0 v1 v2 = some out) (hl : lv_has ls 3 [(0, .ref a0_0), (1, .int v1), (2, .int v2)]) (hP : va_P D classes (wd_Model_shownLength cC cI a0_0 a0_1 a0_2 a0_3 a0_4 a0_5 a0_6 a0_7 v0) H) (hD : va_D A (wd_Model_shownLength cC cI a0_0 a0_1 a0_2 a0_3 a0_4 a0_5 a0_6 a0_7 v0)) (hS : va_S A s.heap H locs) : W p l e rm_Model_shownLength s m args below meth c H locs 0 0 (MQ below (q_Model_shownLength D cC cI a0_0 a0_1 a0_2 a0_3 a0_4 a0_5 a0_6 a0_7 v0 out A) args s 0 0 A) (F0 m 0 ls []) := by
  obtain ⟨hx, hb, hml, hown, htB, ⟨hK, hN⟩, hZ, hA, hr, hlocks⟩ := id X
  refine lv_aload_n hx hb d_Model_shownLength_0 rfl (lv_at hl 0 rfl) ?_
  refine lv_iload_n hx hb d_Model_shownLength_1 rfl (lv_at hl 1 rfl) ?_
  obtain ⟨o2, ho2, h⟩ := x_bnd h
  refine x_calli (r0 := o2) (ws2 := (wd_Model_shownLength cC cI a0_0 a0_1 a0_2 a0_3 a0_4 a0_5 a0_6 a0_7 v0)) (x_runV (As := [.int v1]) (rest := []) X (c_Model_borrowed l D cC cI H.size a0_0 a0_1 a0_2 a0_3 a0_4 a0_5 a0_6 a0_7 v0 v1 o2 ho2) b_366 1 (htB _ b_369) (htB _ b_367) (htB _ b_368) (htB _ b_319) ⟨by decide, by decide, by decide +kernel⟩ ⟨(Nat.le_of_ble_eq_true rfl), (Nat.le_of_ble_eq_true rfl)⟩ 0 rfl rfl hP hD hS [0, 1, 2, 3, 4, 5, 6, 7] rfl (by decide) rfl rfl hl.1 rfl rfl (Nat.le_of_ble_eq_true rfl) d_Model_shownLength_2) hP hD hS hA [0, 1, 2, 3, 4, 5, 6, 7] [] [0, 1, 2, 3, 4, 5, 6, 7] rfl rfl (by decide) (by decide) rfl (by decide) (fun H locs hP hD hS => ?_)
  refine lv_if_eq (tgt := 25) hx hb d_Model_shownLength_5 rfl (fun hc => ?_) (fun hc => ?_)
  · have h := (if_pos hc).symm.trans h
    refine lv_aload_n hx hb d_Model_shownLength_25 rfl (lv_at hl 0 rfl) ?_
    refine va_get (D := D) (ci := 11) (v := .ref a0_4) (C := R_Model) (T := F_Model) (N := 23) hx hb htB in_Model hown hK hP 0 rfl rfl 7 (by decide) (htB _ b_315) (fun _ h9 => h9) rfl d_Model_shownLength_26 ?_
    refine lv_iload_n hx hb d_Model_shownLength_29 rfl (lv_at hl 1 rfl) ?_
    refine lv_if_eq (tgt := 39) hx hb d_Model_shownLength_30 rfl (fun hc => ?_) (fun hc => ?_)
    · have h := (if_pos hc).symm.trans h
      refine lv_iload_n hx hb d_Model_shownLength_39 rfl (lv_at hl 2 rfl) ?_
      exact w_Model_shownLength_40 X v2 ls H locs h (lv_sub hl [] rfl) hP hD hS
    have h := (if_neg hc).symm.trans h
    refine lv_iconst (v := 2) hx hb d_Model_shownLength_33 (by decide) ?_
    refine lv_iload_n hx hb d_Model_shownLength_34 rfl (lv_at hl 2 rfl) ?_
    refine lv_iadd hx hb d_Model_shownLength_35 ?_
    refine lv_goto (tgt := 40) hx hb d_Model_shownLength_36 rfl ?_
    exact w_Model_shownLength_40 X ((2 : Int32) + v2) ls H locs h (lv_sub hl [] rfl) hP hD hS
  have h := (if_neg hc).symm.trans h
  refine lv_aload_n hx hb d_Model_shownLength_8 rfl (lv_at hl 0 rfl) ?_
  refine va_get (D := D) (ci := 11) (v := .ref a0_4) (C := R_Model) (T := F_Model) (N := 23) hx hb htB in_Model hown hK hP 0 rfl rfl 7 (by decide) (htB _ b_315) (fun _ h9 => h9) rfl d_Model_shownLength_9 ?_
  refine lv_iload_n hx hb d_Model_shownLength_12 rfl (lv_at hl 2 rfl) ?_
  obtain ⟨hc, h⟩ := x_chk h
  refine va_iald hx hb hK hP 4 1 rfl rfl hc d_Model_shownLength_13 ?_
  refine lv_iload_n hx hb d_Model_shownLength_14 rfl (lv_at hl 2 rfl) ?_
  refine lv_if_ne (tgt := 22) hx hb d_Model_shownLength_15 rfl (fun hc => ?_) (fun hc => ?_)
  · have h := (if_neg hc).symm.trans h
    refine lv_iconst (v := 0) hx hb d_Model_shownLength_22 (by decide) ?_
    exact w_Model_shownLength_23 X (v0.2.2.2.2.2.2.2.1 v2.toNatClampNeg) (0 : Int32) ls H locs h (lv_sub hl [] rfl) hP hD hS
  have h := (if_pos hc).symm.trans h
  refine lv_iconst (v := 1) hx hb d_Model_shownLength_18 (by decide) ?_
  refine lv_goto (tgt := 23) hx hb d_Model_shownLength_19 rfl ?_
  exact w_Model_shownLength_23 X (v0.2.2.2.2.2.2.2.1 v2.toNatClampNeg) (1 : Int32) ls H locs h (lv_sub hl [] rfl) hP hD hS

set_option maxHeartbeats 4000000 in
set_option maxRecDepth 100000 in
theorem c_Model_shownLength (l : Launch) (D : va_G) (cC cI : ClassId) (sz : Nat) (a0_0 a0_1 a0_2 a0_3 a0_4 a0_5 a0_6 a0_7 : Nat) (v0 : T_Model) (v1 : Int32) (v2 : Int32) (out : O_Model_shownLength) (h : f_Model_shownLength v0 v1 v2 = some out) : Met l y_Model_shownLength (.code y_Model_shownLength b_Model_shownLength 3 (some .int) :: BIG) rm_Model_shownLength (va_Pc [.ref a0_0, .int v1, .int v2] (xPre D cC cI (wd_Model_shownLength cC cI a0_0 a0_1 a0_2 a0_3 a0_4 a0_5 a0_6 a0_7 v0) sz)) (q_Model_shownLength D cC cI a0_0 a0_1 a0_2 a0_3 a0_4 a0_5 a0_6 a0_7 v0 out (va_A (wd_Model_shownLength cC cI a0_0 a0_1 a0_2 a0_3 a0_4 a0_5 a0_6 a0_7 v0) sz)) 0 0 (va_A (wd_Model_shownLength cC cI a0_0 a0_1 a0_2 a0_3 a0_4 a0_5 a0_6 a0_7 v0) sz) := by
  refine Met.ofW (cc := b_Model_shownLength) (maxL := 3) (ret := (some .int)) (by decide) rfl ?_
  intro p e s m args below meth c s₁ B hml hv
  obtain ⟨rfl, rfl, hP, hD0, hG, hZ⟩ := hv
  have hl := lv_entry [.ref a0_0, .int v1, .int v2] (n := 3) (Nat.le_of_ble_eq_true rfl)
  rw [lg_entry_eq]
  exact w_Model_shownLength (x_cx B hml hG hZ) v1 v2 h hl hP hD0.self va_S.rf

abbrev wd_Model_shown (cC cI : ClassId) (a0_0 a0_1 a0_2 a0_3 a0_4 a0_5 a0_6 a0_7 : Nat) (v0 : T_Model) : va_W := [(a0_0, .inr (11, [.ref a0_1, .int v0.2.1, .ref a0_2, .int v0.2.2.2.1, .int v0.2.2.2.2.1, .int v0.2.2.2.2.2.1, .ref a0_3, .ref a0_4, .ref a0_5, .int v0.2.2.2.2.2.2.2.2.2.1, .int v0.2.2.2.2.2.2.2.2.2.2.1, .int v0.2.2.2.2.2.2.2.2.2.2.2.1, .int v0.2.2.2.2.2.2.2.2.2.2.2.2.1, .ref a0_6, .int v0.2.2.2.2.2.2.2.2.2.2.2.2.2.2.1, .int v0.2.2.2.2.2.2.2.2.2.2.2.2.2.2.2.1, .int v0.2.2.2.2.2.2.2.2.2.2.2.2.2.2.2.2.1, .ref a0_7, .long v0.2.2.2.2.2.2.2.2.2.2.2.2.2.2.2.2.2.2.1, .int v0.2.2.2.2.2.2.2.2.2.2.2.2.2.2.2.2.2.2.2.1, .long v0.2.2.2.2.2.2.2.2.2.2.2.2.2.2.2.2.2.2.2.2.1, .int v0.2.2.2.2.2.2.2.2.2.2.2.2.2.2.2.2.2.2.2.2.2.1, .int v0.2.2.2.2.2.2.2.2.2.2.2.2.2.2.2.2.2.2.2.2.2.2])), (a0_1, .inl (cC, 120, .inl v0.1)), (a0_2, .inl (cC, 200, .inl v0.2.2.1)), (a0_3, .inl (cI, 160, .inl v0.2.2.2.2.2.2.1)), (a0_4, .inl (cI, 4, .inl v0.2.2.2.2.2.2.2.1)), (a0_5, .inl (cI, 7, .inl v0.2.2.2.2.2.2.2.2.1)), (a0_6, .inl (cI, 40, .inl v0.2.2.2.2.2.2.2.2.2.2.2.2.2.1)), (a0_7, .inl (cI, 6, .inl v0.2.2.2.2.2.2.2.2.2.2.2.2.2.2.2.2.2.1))]
abbrev O_Model_shown : Type := Int32
abbrev q_Model_shown (D : va_G) (cC cI : ClassId) (a0_0 a0_1 a0_2 a0_3 a0_4 a0_5 a0_6 a0_7 : Nat) (v0 : T_Model) (out : O_Model_shown) (A : Nat → Prop) : Array Value → State → Outcome → State → Prop := va_Qi (fun r (_ : Unit) => r = out) (fun _ t => va_P D classes (wd_Model_shown cC cI a0_0 a0_1 a0_2 a0_3 a0_4 a0_5 a0_6 a0_7 v0) t.heap ∧ va_D A (wd_Model_shown cC cI a0_0 a0_1 a0_2 a0_3 a0_4 a0_5 a0_6 a0_7 v0)) A
abbrev rm_Model_shown : Room := { frames := 1, cells := 0, slots := 0, locals := 21 }
def J_Model_shown_18 (p : Program) (l : Launch) (e : Env) (s : State) (m : MethodId) (args : Array Value) (below : List Frame) (meth : Method) (c : Code) (A : Nat → Prop) (D : va_G) (cC cI : ClassId) (a0_0 a0_1 a0_2 a0_3 a0_4 a0_5 a0_6 a0_7 : Nat) (v0 : T_Model) (out : O_Model_shown) (k : Int32 → Int32 → Int32 → Option O_Model_shown) : Prop := ∀ (x1 : Int32) (x2 : Int32) (x3 : Int32) (ls : Array Slot) (H : Heap) (locs : List Loc), k x1 x2 x3 = some out → lv_has ls 7 [(0, .ref a0_0), (1, .int x1), (2, .int x2), (3, .int x3)] → va_P D classes (wd_Model_shown cC cI a0_0 a0_1 a0_2 a0_3 a0_4 a0_5 a0_6 a0_7 v0) H → va_D A (wd_Model_shown cC cI a0_0 a0_1 a0_2 a0_3 a0_4 a0_5 a0_6 a0_7 v0) → va_S A s.heap H locs → W p l e rm_Model_shown s m args below meth c H locs 0 0 (MQ below (q_Model_shown D cC cI a0_0 a0_1 a0_2 a0_3 a0_4 a0_5 a0_6 a0_7 v0 out A) args s 0 0 A) (F0 m 18 ls [])
def J_Model_shown_19 (p : Program) (l : Launch) (e : Env) (s : State) (m : MethodId) (args : Array Value) (below : List Frame) (meth : Method) (c : Code) (A : Nat → Prop) (D : va_G) (cC cI : ClassId) (a0_0 a0_1 a0_2 a0_3 a0_4 a0_5 a0_6 a0_7 : Nat) (v0 : T_Model) (out : O_Model_shown) (k : Int32 → Int32 → Int32 → Int32 → Option O_Model_shown) : Prop := ∀ (x1 : Int32) (x2 : Int32) (x3 : Int32) (s0 : Int32) (ls : Array Slot) (H : Heap) (locs : List Loc), k x1 x2 x3 s0 = some out → lv_has ls 7 [(0, .ref a0_0), (1, .int x1), (2, .int x2), (3, .int x3)] → va_P D classes (wd_Model_shown cC cI a0_0 a0_1 a0_2 a0_3 a0_4 a0_5 a0_6 a0_7 v0) H → va_D A (wd_Model_shown cC cI a0_0 a0_1 a0_2 a0_3 a0_4 a0_5 a0_6 a0_7 v0) → va_S A s.heap H locs → W p l e rm_Model_shown s m args below meth c H locs 0 0 (MQ below (q_Model_shown D cC cI a0_0 a0_1 a0_2 a0_3 a0_4 a0_5 a0_6 a0_7 v0 out A) args s 0 0 A) (F0 m 19 ls [.int s0])
def J_Model_shown_39 (p : Program) (l : Launch) (e : Env) (s : State) (m : MethodId) (args : Array Value) (below : List Frame) (meth : Method) (c : Code) (A : Nat → Prop) (D : va_G) (cC cI : ClassId) (a0_0 a0_1 a0_2 a0_3 a0_4 a0_5 a0_6 a0_7 : Nat) (v0 : T_Model) (out : O_Model_shown) (k : Int32 → Int32 → Option O_Model_shown) : Prop := ∀ (x3 : Int32) (x4 : Int32) (ls : Array Slot) (H : Heap) (locs : List Loc), k x3 x4 = some out → lv_has ls 7 [(0, .ref a0_0), (3, .int x3), (4, .int x4)] → va_P D classes (wd_Model_shown cC cI a0_0 a0_1 a0_2 a0_3 a0_4 a0_5 a0_6 a0_7 v0) H → va_D A (wd_Model_shown cC cI a0_0 a0_1 a0_2 a0_3 a0_4 a0_5 a0_6 a0_7 v0) → va_S A s.heap H locs → W p l e rm_Model_shown s m args below meth c H locs 0 0 (MQ below (q_Model_shown D cC cI a0_0 a0_1 a0_2 a0_3 a0_4 a0_5 a0_6 a0_7 v0 out A) args s 0 0 A) (F0 m 39 ls [])
def J_Model_shown_40 (p : Program) (l : Launch) (e : Env) (s : State) (m : MethodId) (args : Array Value) (below : List Frame) (meth : Method) (c : Code) (A : Nat → Prop) (D : va_G) (cC cI : ClassId) (a0_0 a0_1 a0_2 a0_3 a0_4 a0_5 a0_6 a0_7 : Nat) (v0 : T_Model) (out : O_Model_shown) (k : Int32 → Int32 → Option O_Model_shown) : Prop := ∀ (x4 : Int32) (s0 : Int32) (ls : Array Slot) (H : Heap) (locs : List Loc), k x4 s0 = some out → lv_has ls 7 [(0, .ref a0_0), (4, .int x4)] → va_P D classes (wd_Model_shown cC cI a0_0 a0_1 a0_2 a0_3 a0_4 a0_5 a0_6 a0_7 v0) H → va_D A (wd_Model_shown cC cI a0_0 a0_1 a0_2 a0_3 a0_4 a0_5 a0_6 a0_7 v0) → va_S A s.heap H locs → W p l e rm_Model_shown s m args below meth c H locs 0 0 (MQ below (q_Model_shown D cC cI a0_0 a0_1 a0_2 a0_3 a0_4 a0_5 a0_6 a0_7 v0 out A) args s 0 0 A) (F0 m 40 ls [.int s0])
def J_Model_shown_80 (p : Program) (l : Launch) (e : Env) (s : State) (m : MethodId) (args : Array Value) (below : List Frame) (meth : Method) (c : Code) (A : Nat → Prop) (D : va_G) (cC cI : ClassId) (a0_0 a0_1 a0_2 a0_3 a0_4 a0_5 a0_6 a0_7 : Nat) (v0 : T_Model) (out : O_Model_shown) (k : Int32 → Option O_Model_shown) : Prop := ∀ (s0 : Int32) (ls : Array Slot) (H : Heap) (locs : List Loc), k s0 = some out → lv_has ls 7 [] → va_P D classes (wd_Model_shown cC cI a0_0 a0_1 a0_2 a0_3 a0_4 a0_5 a0_6 a0_7 v0) H → va_D A (wd_Model_shown cC cI a0_0 a0_1 a0_2 a0_3 a0_4 a0_5 a0_6 a0_7 v0) → va_S A s.heap H locs → W p l e rm_Model_shown s m args below meth c H locs 0 0 (MQ below (q_Model_shown D cC cI a0_0 a0_1 a0_2 a0_3 a0_4 a0_5 a0_6 a0_7 v0 out A) args s 0 0 A) (F0 m 80 ls [.int s0])
def f_Model_shown_80 (v0 : T_Model) (s0 : Int32) : Option O_Model_shown := some s0
set_option maxHeartbeats 4000000 in
set_option maxRecDepth 100000 in
theorem w_Model_shown_80 {p : Program} {l : Launch} {e : Env} {s : State} {m : MethodId} {args : Array Value} {below : List Frame} {meth : Method} {c : Code} {A : Nat → Prop} {D : va_G} {cC cI : ClassId} {a0_0 a0_1 a0_2 a0_3 a0_4 a0_5 a0_6 a0_7 : Nat} {v0 : T_Model} (X : xCX p s m args meth c A D cC cI b_Model_shown 7 R_Model (some .int)) {out : O_Model_shown}   : J_Model_shown_80 p l e s m args below meth c A D cC cI a0_0 a0_1 a0_2 a0_3 a0_4 a0_5 a0_6 a0_7 v0 out (f_Model_shown_80 v0 ) := by
  obtain ⟨hx, hb, hml, hown, htB, ⟨hK, hN⟩, hZ, hA, hr, hlocks⟩ := id X
  intro s0 ls H locs h hl hP hD hS
  obtain rfl := Option.some.inj h
  exact W.iret (v := s0) hx hb hr (fun t ht hW => ⟨⟨s0, (), rfl, rfl, by rw [ht]; exact hP, hD⟩, hS.F ht⟩) hS.2.2 d_Model_shown_80 hlocks

def f_Model_shown_40 (v0 : T_Model) (x4 : Int32) (s0 : Int32) : Option O_Model_shown := (if 0 ≤ s0 then if ix (((40 : Int32) * x4) + s0) 160 then (if (v0.2.2.2.2.2.2.1 (((40 : Int32) * x4) + s0).toNatClampNeg) = (200 : Int32) then f_Model_shown_80 v0 (37 : Int32) else f_Model_shown_80 v0 (v0.2.2.2.2.2.2.1 (((40 : Int32) * x4) + s0).toNatClampNeg)) else none else some (45 : Int32))
set_option maxHeartbeats 4000000 in
set_option maxRecDepth 100000 in
theorem w_Model_shown_40 {p : Program} {l : Launch} {e : Env} {s : State} {m : MethodId} {args : Array Value} {below : List Frame} {meth : Method} {c : Code} {A : Nat → Prop} {D : va_G} {cC cI : ClassId} {a0_0 a0_1 a0_2 a0_3 a0_4 a0_5 a0_6 a0_7 : Nat} {v0 : T_Model} (X : xCX p s m args meth c A D cC cI b_Model_shown 7 R_Model (some .int)) {out : O_Model_shown}   : J_Model_shown_40 p l e s m args below meth c A D cC cI a0_0 a0_1 a0_2 a0_3 a0_4 a0_5 a0_6 a0_7 v0 out (f_Model_shown_40 v0 ) := by
  obtain ⟨hx, hb, hml, hown, htB, ⟨hK, hN⟩, hZ, hA, hr, hlocks⟩ := id X
  intro x4 s0 ls H locs h hl hP hD hS
  refine lv_istore (lv' := [(5, .int s0), (0, .ref a0_0), (4, .int x4)]) hx hb d_Model_shown_40 hl (by decide) rfl (fun ls hl => ?_)
  refine lv_iload hx hb d_Model_shown_42 (lv_at hl 0 rfl) ?_
  refine lv_if_ge (tgt := 50) hx hb d_Model_shown_44 rfl (fun hc => ?_) (fun hc => ?_)
  · have h := (if_pos hc).symm.trans h
    refine lv_aload_n hx hb d_Model_shown_50 rfl (lv_at hl 1 rfl) ?_
    refine va_get (D := D) (ci := 11) (v := .ref a0_3) (C := R_Model) (T := F_Model) (N := 23) hx hb htB in_Model hown hK hP 0 rfl rfl 6 (by decide) (htB _ b_314) (fun _ h9 => h9) rfl d_Model_shown_51 ?_
    refine lv_bipush (v := 40) hx hb d_Model_shown_54 (by decide) ?_
    refine lv_iload hx hb d_Model_shown_56 (lv_at hl 2 rfl) ?_
    refine lv_imul hx hb d_Model_shown_58 ?_
    refine lv_iload hx hb d_Model_shown_59 (lv_at hl 0 rfl) ?_
    refine lv_iadd hx hb d_Model_shown_61 ?_
    obtain ⟨hc, h⟩ := x_chk h
    refine va_iald hx hb hK hP 3 1 rfl rfl hc d_Model_shown_62 ?_
    refine lv_istore (lv' := [(6, .int (v0.2.2.2.2.2.2.1 (((40 : Int32) * x4) + s0).toNatClampNeg)), (5, .int s0), (0, .ref a0_0), (4, .int x4)]) hx hb d_Model_shown_63 hl (by decide) rfl (fun ls hl => ?_)
    refine lv_iload hx hb d_Model_shown_65 (lv_at hl 0 rfl) ?_
    refine lv_sipush (v := 200) hx hb d_Model_shown_67 (by decide) ?_
    refine lv_icmp_ne (tgt := 78) hx hb d_Model_shown_70 rfl (fun hc => ?_) (fun hc => ?_)
    · have h := (if_neg hc).symm.trans h
      refine lv_iload hx hb d_Model_shown_78 (lv_at hl 0 rfl) ?_
      exact w_Model_shown_80 X (v0.2.2.2.2.2.2.1 (((40 : Int32) * x4) + s0).toNatClampNeg) ls H locs h (lv_sub hl [] rfl) hP hD hS
    have h := (if_pos hc).symm.trans h
    refine lv_bipush (v := 37) hx hb d_Model_shown_73 (by decide) ?_
    refine lv_goto (tgt := 80) hx hb d_Model_shown_75 rfl ?_
    exact w_Model_shown_80 X (37 : Int32) ls H locs h (lv_sub hl [] rfl) hP hD hS
  have h := (if_neg hc).symm.trans h
  refine lv_bipush (v := 45) hx hb d_Model_shown_47 (by decide) ?_
  obtain rfl := Option.some.inj h
  exact W.iret (v := (45 : Int32)) hx hb hr (fun t ht hW => ⟨⟨(45 : Int32), (), rfl, rfl, by rw [ht]; exact hP, hD⟩, hS.F ht⟩) hS.2.2 d_Model_shown_49 hlocks

def f_Model_shown_39 (v0 : T_Model) (x3 : Int32) (x4 : Int32) : Option O_Model_shown := f_Model_shown_40 v0 x4 x3
set_option maxHeartbeats 4000000 in
set_option maxRecDepth 100000 in
theorem w_Model_shown_39 {p : Program} {l : Launch} {e : Env} {s : State} {m : MethodId} {args : Array Value} {below : List Frame} {meth : Method} {c : Code} {A : Nat → Prop} {D : va_G} {cC cI : ClassId} {a0_0 a0_1 a0_2 a0_3 a0_4 a0_5 a0_6 a0_7 : Nat} {v0 : T_Model} (X : xCX p s m args meth c A D cC cI b_Model_shown 7 R_Model (some .int)) {out : O_Model_shown}   : J_Model_shown_39 p l e s m args below meth c A D cC cI a0_0 a0_1 a0_2 a0_3 a0_4 a0_5 a0_6 a0_7 v0 out (f_Model_shown_39 v0 ) := by
  obtain ⟨hx, hb, hml, hown, htB, ⟨hK, hN⟩, hZ, hA, hr, hlocks⟩ := id X
  intro x3 x4 ls H locs h hl hP hD hS
  refine lv_iload_n hx hb d_Model_shown_39 rfl (lv_at hl 1 rfl) ?_
  exact w_Model_shown_40 X x4 x3 ls H locs h (lv_sub hl [0, 2] rfl) hP hD hS

def f_Model_shown_19 (v0 : T_Model) (x1 : Int32) (x2 : Int32) (x3 : Int32) (s0 : Int32) : Option O_Model_shown := (f_Model_borrowed v0 x1).bind (fun o23 => (if o23 = 0 then f_Model_shown_39 v0 x3 s0 else (if x2 = 0 then f_Model_shown_40 v0 s0 (x3 - (1 : Int32)) else f_Model_shown_39 v0 x3 s0)))
set_option maxHeartbeats 4000000 in
set_option maxRecDepth 100000 in
theorem w_Model_shown_19 {p : Program} {l : Launch} {e : Env} {s : State} {m : MethodId} {args : Array Value} {below : List Frame} {meth : Method} {c : Code} {A : Nat → Prop} {D : va_G} {cC cI : ClassId} {a0_0 a0_1 a0_2 a0_3 a0_4 a0_5 a0_6 a0_7 : Nat} {v0 : T_Model} (X : xCX p s m args meth c A D cC cI b_Model_shown 7 R_Model (some .int)) {out : O_Model_shown}   : J_Model_shown_19 p l e s m args below meth c A D cC cI a0_0 a0_1 a0_2 a0_3 a0_4 a0_5 a0_6 a0_7 v0 out (f_Model_shown_19 v0 ) := by
  obtain ⟨hx, hb, hml, hown, htB, ⟨hK, hN⟩, hZ, hA, hr, hlocks⟩ := id X
  intro x1 x2 x3 s0 ls H locs h hl hP hD hS
  refine lv_istore (lv' := [(4, .int s0), (0, .ref a0_0), (1, .int x1), (2, .int x2), (3, .int x3)]) hx hb d_Model_shown_19 hl (by decide) rfl (fun ls hl => ?_)
  refine lv_aload_n hx hb d_Model_shown_21 rfl (lv_at hl 1 rfl) ?_
  refine lv_iload_n hx hb d_Model_shown_22 rfl (lv_at hl 2 rfl) ?_
  obtain ⟨o23, ho23, h⟩ := x_bnd h
  refine x_calli (r0 := o23) (ws2 := (wd_Model_shown cC cI a0_0 a0_1 a0_2 a0_3 a0_4 a0_5 a0_6 a0_7 v0)) (x_runV (As := [.int x1]) (rest := []) X (c_Model_borrowed l D cC cI H.size a0_0 a0_1 a0_2 a0_3 a0_4 a0_5 a0_6 a0_7 v0 x1 o23 ho23) b_366 1 (htB _ b_369) (htB _ b_367) (htB _ b_368) (htB _ b_319) ⟨by decide, by decide, by decide +kernel⟩ ⟨(Nat.le_of_ble_eq_true rfl), (Nat.le_of_ble_eq_true rfl)⟩ 0 rfl rfl hP hD hS [0, 1, 2, 3, 4, 5, 6, 7] rfl (by decide) rfl rfl hl.1 rfl rfl (Nat.le_of_ble_eq_true rfl) d_Model_shown_23) hP hD hS hA [0, 1, 2, 3, 4, 5, 6, 7] [] [0, 1, 2, 3, 4, 5, 6, 7] rfl rfl (by decide) (by decide) rfl (by decide) (fun H locs hP hD hS => ?_)
  refine lv_if_eq (tgt := 39) hx hb d_Model_shown_26 rfl (fun hc => ?_) (fun hc => ?_)
  · have h := (if_pos hc).symm.trans h
    exact w_Model_shown_39 X x3 s0 ls H locs h (lv_sub hl [1, 4, 0] rfl) hP hD hS
  have h := (if_neg hc).symm.trans h
  refine lv_iload_n hx hb d_Model_shown_29 rfl (lv_at hl 3 rfl) ?_
  refine lv_if_ne (tgt := 39) hx hb d_Model_shown_30 rfl (fun hc => ?_) (fun hc => ?_)
  · have h := (if_neg hc).symm.trans h
    exact w_Model_shown_39 X x3 s0 ls H locs h (lv_sub hl [1, 4, 0] rfl) hP hD hS
  have h := (if_pos hc).symm.trans h
  refine lv_iload_n hx hb d_Model_shown_33 rfl (lv_at hl 4 rfl) ?_
  refine lv_iconst (v := 1) hx hb d_Model_shown_34 (by decide) ?_
  refine lv_isub hx hb d_Model_shown_35 ?_
  refine lv_goto (tgt := 40) hx hb d_Model_shown_36 rfl ?_
  exact w_Model_shown_40 X s0 (x3 - (1 : Int32)) ls H locs h (lv_sub hl [1, 0] rfl) hP hD hS

def f_Model_shown_18 (v0 : T_Model) (x1 : Int32) (x2 : Int32) (x3 : Int32) : Option O_Model_shown := f_Model_shown_19 v0 x1 x2 x3 x2
set_option maxHeartbeats 4000000 in
set_option maxRecDepth 100000 in
theorem w_Model_shown_18 {p : Program} {l : Launch} {e : Env} {s : State} {m : MethodId} {args : Array Value} {below : List Frame} {meth : Method} {c : Code} {A : Nat → Prop} {D : va_G} {cC cI : ClassId} {a0_0 a0_1 a0_2 a0_3 a0_4 a0_5 a0_6 a0_7 : Nat} {v0 : T_Model} (X : xCX p s m args meth c A D cC cI b_Model_shown 7 R_Model (some .int)) {out : O_Model_shown}   : J_Model_shown_18 p l e s m args below meth c A D cC cI a0_0 a0_1 a0_2 a0_3 a0_4 a0_5 a0_6 a0_7 v0 out (f_Model_shown_18 v0 ) := by
  obtain ⟨hx, hb, hml, hown, htB, ⟨hK, hN⟩, hZ, hA, hr, hlocks⟩ := id X
  intro x1 x2 x3 ls H locs h hl hP hD hS
  refine lv_iload_n hx hb d_Model_shown_18 rfl (lv_at hl 2 rfl) ?_
  exact w_Model_shown_19 X x1 x2 x3 x2 ls H locs h (lv_sub hl [0, 1, 2, 3] rfl) hP hD hS

def f_Model_shown (v0 : T_Model) (v1 : Int32) (v2 : Int32) (v3 : Int32) : Option O_Model_shown := (if v1 = 0 then f_Model_shown_18 v0 v1 v2 v3 else (f_Model_borrowed v0 v1).bind (fun o6 => (if o6 = 0 then f_Model_shown_19 v0 v1 v2 v3 ((2 : Int32) + v2) else f_Model_shown_18 v0 v1 v2 v3)))
set_option maxHeartbeats 4000000 in
set_option maxRecDepth 100000 in
theorem w_Model_shown {p : Program} {l : Launch} {e : Env} {s : State} {m : MethodId} {args : Array Value} {below : List Frame} {meth : Method} {c : Code} {A : Nat → Prop} {D : va_G} {cC cI : ClassId} {a0_0 a0_1 a0_2 a0_3 a0_4 a0_5 a0_6 a0_7 : Nat} {v0 : T_Model} (X : xCX p s m args meth c A D cC cI b_Model_shown 7 R_Model (some .int)) {out : O_Model_shown} (v1 : Int32) (v2 : Int32) (v3 : Int32) {ls : Array Slot} {H : Heap} {locs : List Loc} (h : f_Model_shown v0 v1 v2 v3 = some out) (hl : lv_has ls 7 [(0, .ref a0_0), (1, .int v1), (2, .int v2), (3, .int v3)]) (hP : va_P D classes (wd_Model_shown cC cI a0_0 a0_1 a0_2 a0_3 a0_4 a0_5 a0_6 a0_7 v0) H) (hD : va_D A (wd_Model_shown cC cI a0_0 a0_1 a0_2 a0_3 a0_4 a0_5 a0_6 a0_7 v0)) (hS : va_S A s.heap H locs) : W p l e rm_Model_shown s m args below meth c H locs 0 0 (MQ below (q_Model_shown D cC cI a0_0 a0_1 a0_2 a0_3 a0_4 a0_5 a0_6 a0_7 v0 out A) args s 0 0 A) (F0 m 0 ls []) := by
  obtain ⟨hx, hb, hml, hown, htB, ⟨hK, hN⟩, hZ, hA, hr, hlocks⟩ := id X
  refine lv_iload_n hx hb d_Model_shown_0 rfl (lv_at hl 1 rfl) ?_
  refine lv_if_eq (tgt := 18) hx hb d_Model_shown_1 rfl (fun hc => ?_) (fun hc => ?_)
  · have h := (if_pos hc).symm.trans h
    exact w_Model_shown_18 X v1 v2 v3 ls H locs h (lv_sub hl [0, 1, 2, 3] rfl) hP hD hS
  have h := (if_neg hc).symm.trans h
  refine lv_aload_n hx hb d_Model_shown_4 rfl (lv_at hl 0 rfl) ?_
  refine lv_iload_n hx hb d_Model_shown_5 rfl (lv_at hl 1 rfl) ?_
  obtain ⟨o6, ho6, h⟩ := x_bnd h
  refine x_calli (r0 := o6) (ws2 := (wd_Model_shown cC cI a0_0 a0_1 a0_2 a0_3 a0_4 a0_5 a0_6 a0_7 v0)) (x_runV (As := [.int v1]) (rest := []) X (c_Model_borrowed l D cC cI H.size a0_0 a0_1 a0_2 a0_3 a0_4 a0_5 a0_6 a0_7 v0 v1 o6 ho6) b_366 1 (htB _ b_369) (htB _ b_367) (htB _ b_368) (htB _ b_319) ⟨by decide, by decide, by decide +kernel⟩ ⟨(Nat.le_of_ble_eq_true rfl), (Nat.le_of_ble_eq_true rfl)⟩ 0 rfl rfl hP hD hS [0, 1, 2, 3, 4, 5, 6, 7] rfl (by decide) rfl rfl hl.1 rfl rfl (Nat.le_of_ble_eq_true rfl) d_Model_shown_6) hP hD hS hA [0, 1, 2, 3, 4, 5, 6, 7] [] [0, 1, 2, 3, 4, 5, 6, 7] rfl rfl (by decide) (by decide) rfl (by decide) (fun H locs hP hD hS => ?_)
  refine lv_if_ne (tgt := 18) hx hb d_Model_shown_9 rfl (fun hc => ?_) (fun hc => ?_)
  · have h := (if_neg hc).symm.trans h
    exact w_Model_shown_18 X v1 v2 v3 ls H locs h (lv_sub hl [0, 1, 2, 3] rfl) hP hD hS
  have h := (if_pos hc).symm.trans h
  refine lv_iconst (v := 2) hx hb d_Model_shown_12 (by decide) ?_
  refine lv_iload_n hx hb d_Model_shown_13 rfl (lv_at hl 2 rfl) ?_
  refine lv_iadd hx hb d_Model_shown_14 ?_
  refine lv_goto (tgt := 19) hx hb d_Model_shown_15 rfl ?_
  exact w_Model_shown_19 X v1 v2 v3 ((2 : Int32) + v2) ls H locs h (lv_sub hl [0, 1, 2, 3] rfl) hP hD hS

set_option maxHeartbeats 4000000 in
set_option maxRecDepth 100000 in
theorem c_Model_shown (l : Launch) (D : va_G) (cC cI : ClassId) (sz : Nat) (a0_0 a0_1 a0_2 a0_3 a0_4 a0_5 a0_6 a0_7 : Nat) (v0 : T_Model) (v1 : Int32) (v2 : Int32) (v3 : Int32) (out : O_Model_shown) (h : f_Model_shown v0 v1 v2 v3 = some out) : Met l y_Model_shown (.code y_Model_shown b_Model_shown 7 (some .int) :: BIG) rm_Model_shown (va_Pc [.ref a0_0, .int v1, .int v2, .int v3] (xPre D cC cI (wd_Model_shown cC cI a0_0 a0_1 a0_2 a0_3 a0_4 a0_5 a0_6 a0_7 v0) sz)) (q_Model_shown D cC cI a0_0 a0_1 a0_2 a0_3 a0_4 a0_5 a0_6 a0_7 v0 out (va_A (wd_Model_shown cC cI a0_0 a0_1 a0_2 a0_3 a0_4 a0_5 a0_6 a0_7 v0) sz)) 0 0 (va_A (wd_Model_shown cC cI a0_0 a0_1 a0_2 a0_3 a0_4 a0_5 a0_6 a0_7 v0) sz) := by
  refine Met.ofW (cc := b_Model_shown) (maxL := 7) (ret := (some .int)) (by decide) rfl ?_
  intro p e s m args below meth c s₁ B hml hv
  obtain ⟨rfl, rfl, hP, hD0, hG, hZ⟩ := hv
  have hl := lv_entry [.ref a0_0, .int v1, .int v2, .int v3] (n := 7) (Nat.le_of_ble_eq_true rfl)
  rw [lg_entry_eq]
  exact w_Model_shown (x_cx B hml hG hZ) v1 v2 v3 h hl hP hD0.self va_S.rf

abbrev wd_Model_write (cC cI : ClassId) (a0_0 a0_1 a0_2 a0_3 a0_4 a0_5 a0_6 a0_7 : Nat) (v0 : T_Model) : va_W := [(a0_0, .inr (11, [.ref a0_1, .int v0.2.1, .ref a0_2, .int v0.2.2.2.1, .int v0.2.2.2.2.1, .int v0.2.2.2.2.2.1, .ref a0_3, .ref a0_4, .ref a0_5, .int v0.2.2.2.2.2.2.2.2.2.1, .int v0.2.2.2.2.2.2.2.2.2.2.1, .int v0.2.2.2.2.2.2.2.2.2.2.2.1, .int v0.2.2.2.2.2.2.2.2.2.2.2.2.1, .ref a0_6, .int v0.2.2.2.2.2.2.2.2.2.2.2.2.2.2.1, .int v0.2.2.2.2.2.2.2.2.2.2.2.2.2.2.2.1, .int v0.2.2.2.2.2.2.2.2.2.2.2.2.2.2.2.2.1, .ref a0_7, .long v0.2.2.2.2.2.2.2.2.2.2.2.2.2.2.2.2.2.2.1, .int v0.2.2.2.2.2.2.2.2.2.2.2.2.2.2.2.2.2.2.2.1, .long v0.2.2.2.2.2.2.2.2.2.2.2.2.2.2.2.2.2.2.2.2.1, .int v0.2.2.2.2.2.2.2.2.2.2.2.2.2.2.2.2.2.2.2.2.2.1, .int v0.2.2.2.2.2.2.2.2.2.2.2.2.2.2.2.2.2.2.2.2.2.2])), (a0_1, .inl (cC, 120, .inl v0.1)), (a0_2, .inl (cC, 200, .inl v0.2.2.1)), (a0_3, .inl (cI, 160, .inl v0.2.2.2.2.2.2.1)), (a0_4, .inl (cI, 4, .inl v0.2.2.2.2.2.2.2.1)), (a0_5, .inl (cI, 7, .inl v0.2.2.2.2.2.2.2.2.1)), (a0_6, .inl (cI, 40, .inl v0.2.2.2.2.2.2.2.2.2.2.2.2.2.1)), (a0_7, .inl (cI, 6, .inl v0.2.2.2.2.2.2.2.2.2.2.2.2.2.2.2.2.2.1))]
abbrev O_Model_write : Type := T_Model
abbrev q_Model_write (D : va_G) (cC cI : ClassId) (a0_0 a0_1 a0_2 a0_3 a0_4 a0_5 a0_6 a0_7 : Nat)  (out : O_Model_write) (A : Nat → Prop) : Array Value → State → Outcome → State → Prop := va_Qv (fun _ : Unit => True) (fun _ t => va_P D classes (wd_Model_write cC cI a0_0 a0_1 a0_2 a0_3 a0_4 a0_5 a0_6 a0_7 out) t.heap ∧ va_D A (wd_Model_write cC cI a0_0 a0_1 a0_2 a0_3 a0_4 a0_5 a0_6 a0_7 out)) A
abbrev rm_Model_write : Room := { frames := 0, cells := 0, slots := 0, locals := 0 }
def f_Model_write (v0 : T_Model) (v1 : Int32) : Option O_Model_write := if ix v0.2.2.2.1 200 then some (v0.1, v0.2.1, (upd v0.2.2.1 v0.2.2.2.1.toNatClampNeg (vp_nar .char (i2c v1))), (v0.2.2.2.1 + (1 : Int32)), v0.2.2.2.2.1, v0.2.2.2.2.2.1, v0.2.2.2.2.2.2.1, v0.2.2.2.2.2.2.2.1, v0.2.2.2.2.2.2.2.2.1, v0.2.2.2.2.2.2.2.2.2.1, v0.2.2.2.2.2.2.2.2.2.2.1, v0.2.2.2.2.2.2.2.2.2.2.2.1, v0.2.2.2.2.2.2.2.2.2.2.2.2.1, v0.2.2.2.2.2.2.2.2.2.2.2.2.2.1, v0.2.2.2.2.2.2.2.2.2.2.2.2.2.2.1, v0.2.2.2.2.2.2.2.2.2.2.2.2.2.2.2.1, v0.2.2.2.2.2.2.2.2.2.2.2.2.2.2.2.2.1, v0.2.2.2.2.2.2.2.2.2.2.2.2.2.2.2.2.2.1, v0.2.2.2.2.2.2.2.2.2.2.2.2.2.2.2.2.2.2.1, v0.2.2.2.2.2.2.2.2.2.2.2.2.2.2.2.2.2.2.2.1, v0.2.2.2.2.2.2.2.2.2.2.2.2.2.2.2.2.2.2.2.2.1, v0.2.2.2.2.2.2.2.2.2.2.2.2.2.2.2.2.2.2.2.2.2.1, v0.2.2.2.2.2.2.2.2.2.2.2.2.2.2.2.2.2.2.2.2.2.2) else none
set_option maxHeartbeats 4000000 in
set_option maxRecDepth 100000 in
theorem w_Model_write {p : Program} {l : Launch} {e : Env} {s : State} {m : MethodId} {args : Array Value} {below : List Frame} {meth : Method} {c : Code} {A : Nat → Prop} {D : va_G} {cC cI : ClassId} {a0_0 a0_1 a0_2 a0_3 a0_4 a0_5 a0_6 a0_7 : Nat} (X : xCX p s m args meth c A D cC cI b_Model_write 2 R_Model none) {out : O_Model_write} (v0 : T_Model) (v1 : Int32) {ls : Array Slot} {H : Heap} {locs : List Loc} (h : f_Model_write v0 v1 = some out) (hl : lv_has ls 2 [(0, .ref a0_0), (1, .int v1)]) (hP : va_P D classes (wd_Model_write cC cI a0_0 a0_1 a0_2 a0_3 a0_4 a0_5 a0_6 a0_7 v0) H) (hD : va_D A (wd_Model_write cC cI a0_0 a0_1 a0_2 a0_3 a0_4 a0_5 a0_6 a0_7 v0)) (hS : va_S A s.heap H locs) : W p l e rm_Model_write s m args below meth c H locs 0 0 (MQ below (q_Model_write D cC cI a0_0 a0_1 a0_2 a0_3 a0_4 a0_5 a0_6 a0_7 out A) args s 0 0 A) (F0 m 0 ls []) := by
  obtain ⟨hx, hb, hml, hown, htB, ⟨hK, hN⟩, hZ, hA, hr, hlocks⟩ := id X
  refine lv_aload_n hx hb d_Model_write_0 rfl (lv_at hl 0 rfl) ?_
  refine va_get (D := D) (ci := 11) (v := .ref a0_2) (C := R_Model) (T := F_Model) (N := 23) hx hb htB in_Model hown hK hP 0 rfl rfl 2 (by decide) (htB _ b_312) (fun _ h9 => h9) rfl d_Model_write_1 ?_
  refine lv_aload_n hx hb d_Model_write_4 rfl (lv_at hl 0 rfl) ?_
  refine va_get (D := D) (ci := 11) (v := .int v0.2.2.2.1) (C := R_Model) (T := F_Model) (N := 23) hx hb htB in_Model hown hK hP 0 rfl rfl 3 (by decide) (htB _ b_311) (fun _ h9 => h9) rfl d_Model_write_5 ?_
  refine lv_iload_n hx hb d_Model_write_8 rfl (lv_at hl 1 rfl) ?_
  refine lv_i2c (v := i2c v1) hx hb d_Model_write_9 rfl ?_
  obtain ⟨hc, h⟩ := x_chk h
  refine va_cast hx hb hK hP hD hS 2 0 rfl rfl hc d_Model_write_10 (fun H locs hP hD hS => ?_)
  have hP : va_P D classes (wd_Model_write cC cI a0_0 a0_1 a0_2 a0_3 a0_4 a0_5 a0_6 a0_7 (v0.1, v0.2.1, (upd v0.2.2.1 v0.2.2.2.1.toNatClampNeg (vp_nar .char (i2c v1))), v0.2.2.2.1, v0.2.2.2.2.1, v0.2.2.2.2.2.1, v0.2.2.2.2.2.2.1, v0.2.2.2.2.2.2.2.1, v0.2.2.2.2.2.2.2.2.1, v0.2.2.2.2.2.2.2.2.2.1, v0.2.2.2.2.2.2.2.2.2.2.1, v0.2.2.2.2.2.2.2.2.2.2.2.1, v0.2.2.2.2.2.2.2.2.2.2.2.2.1, v0.2.2.2.2.2.2.2.2.2.2.2.2.2.1, v0.2.2.2.2.2.2.2.2.2.2.2.2.2.2.1, v0.2.2.2.2.2.2.2.2.2.2.2.2.2.2.2.1, v0.2.2.2.2.2.2.2.2.2.2.2.2.2.2.2.2.1, v0.2.2.2.2.2.2.2.2.2.2.2.2.2.2.2.2.2.1, v0.2.2.2.2.2.2.2.2.2.2.2.2.2.2.2.2.2.2.1, v0.2.2.2.2.2.2.2.2.2.2.2.2.2.2.2.2.2.2.2.1, v0.2.2.2.2.2.2.2.2.2.2.2.2.2.2.2.2.2.2.2.2.1, v0.2.2.2.2.2.2.2.2.2.2.2.2.2.2.2.2.2.2.2.2.2.1, v0.2.2.2.2.2.2.2.2.2.2.2.2.2.2.2.2.2.2.2.2.2.2)) H := hP
  have hD : va_D A (wd_Model_write cC cI a0_0 a0_1 a0_2 a0_3 a0_4 a0_5 a0_6 a0_7 (v0.1, v0.2.1, (upd v0.2.2.1 v0.2.2.2.1.toNatClampNeg (vp_nar .char (i2c v1))), v0.2.2.2.1, v0.2.2.2.2.1, v0.2.2.2.2.2.1, v0.2.2.2.2.2.2.1, v0.2.2.2.2.2.2.2.1, v0.2.2.2.2.2.2.2.2.1, v0.2.2.2.2.2.2.2.2.2.1, v0.2.2.2.2.2.2.2.2.2.2.1, v0.2.2.2.2.2.2.2.2.2.2.2.1, v0.2.2.2.2.2.2.2.2.2.2.2.2.1, v0.2.2.2.2.2.2.2.2.2.2.2.2.2.1, v0.2.2.2.2.2.2.2.2.2.2.2.2.2.2.1, v0.2.2.2.2.2.2.2.2.2.2.2.2.2.2.2.1, v0.2.2.2.2.2.2.2.2.2.2.2.2.2.2.2.2.1, v0.2.2.2.2.2.2.2.2.2.2.2.2.2.2.2.2.2.1, v0.2.2.2.2.2.2.2.2.2.2.2.2.2.2.2.2.2.2.1, v0.2.2.2.2.2.2.2.2.2.2.2.2.2.2.2.2.2.2.2.1, v0.2.2.2.2.2.2.2.2.2.2.2.2.2.2.2.2.2.2.2.2.1, v0.2.2.2.2.2.2.2.2.2.2.2.2.2.2.2.2.2.2.2.2.2.1, v0.2.2.2.2.2.2.2.2.2.2.2.2.2.2.2.2.2.2.2.2.2.2)) := hD
  refine lv_aload_n hx hb d_Model_write_11 rfl (lv_at hl 0 rfl) ?_
  refine lv_aload_n hx hb d_Model_write_12 rfl (lv_at hl 0 rfl) ?_
  refine va_get (D := D) (ci := 11) (v := .int v0.2.2.2.1) (C := R_Model) (T := F_Model) (N := 23) hx hb htB in_Model hown hK hP 0 rfl rfl 3 (by decide) (htB _ b_311) (fun _ h9 => h9) rfl d_Model_write_13 ?_
  refine lv_iconst (v := 1) hx hb d_Model_write_16 (by decide) ?_
  refine lv_iadd hx hb d_Model_write_17 ?_
  refine va_put (D := D) (ci := 11) (v := .int (v0.2.2.2.1 + (1 : Int32))) (ty := .int) (C := R_Model) (T := F_Model) (N := 23) hx hb htB in_Model t_Model t_Model_ok n_Model hown hK hP hD hS 0 rfl rfl 3 (by decide) (htB _ b_311) (fun _ h9 => h9) rfl (by decide +kernel) rfl rfl (Nat.le_of_ble_eq_true rfl) d_Model_write_18 (fun H locs hP hD hS => ?_)
  have hP : va_P D classes (wd_Model_write cC cI a0_0 a0_1 a0_2 a0_3 a0_4 a0_5 a0_6 a0_7 (v0.1, v0.2.1, (upd v0.2.2.1 v0.2.2.2.1.toNatClampNeg (vp_nar .char (i2c v1))), (v0.2.2.2.1 + (1 : Int32)), v0.2.2.2.2.1, v0.2.2.2.2.2.1, v0.2.2.2.2.2.2.1, v0.2.2.2.2.2.2.2.1, v0.2.2.2.2.2.2.2.2.1, v0.2.2.2.2.2.2.2.2.2.1, v0.2.2.2.2.2.2.2.2.2.2.1, v0.2.2.2.2.2.2.2.2.2.2.2.1, v0.2.2.2.2.2.2.2.2.2.2.2.2.1, v0.2.2.2.2.2.2.2.2.2.2.2.2.2.1, v0.2.2.2.2.2.2.2.2.2.2.2.2.2.2.1, v0.2.2.2.2.2.2.2.2.2.2.2.2.2.2.2.1, v0.2.2.2.2.2.2.2.2.2.2.2.2.2.2.2.2.1, v0.2.2.2.2.2.2.2.2.2.2.2.2.2.2.2.2.2.1, v0.2.2.2.2.2.2.2.2.2.2.2.2.2.2.2.2.2.2.1, v0.2.2.2.2.2.2.2.2.2.2.2.2.2.2.2.2.2.2.2.1, v0.2.2.2.2.2.2.2.2.2.2.2.2.2.2.2.2.2.2.2.2.1, v0.2.2.2.2.2.2.2.2.2.2.2.2.2.2.2.2.2.2.2.2.2.1, v0.2.2.2.2.2.2.2.2.2.2.2.2.2.2.2.2.2.2.2.2.2.2)) H := hP
  have hD : va_D A (wd_Model_write cC cI a0_0 a0_1 a0_2 a0_3 a0_4 a0_5 a0_6 a0_7 (v0.1, v0.2.1, (upd v0.2.2.1 v0.2.2.2.1.toNatClampNeg (vp_nar .char (i2c v1))), (v0.2.2.2.1 + (1 : Int32)), v0.2.2.2.2.1, v0.2.2.2.2.2.1, v0.2.2.2.2.2.2.1, v0.2.2.2.2.2.2.2.1, v0.2.2.2.2.2.2.2.2.1, v0.2.2.2.2.2.2.2.2.2.1, v0.2.2.2.2.2.2.2.2.2.2.1, v0.2.2.2.2.2.2.2.2.2.2.2.1, v0.2.2.2.2.2.2.2.2.2.2.2.2.1, v0.2.2.2.2.2.2.2.2.2.2.2.2.2.1, v0.2.2.2.2.2.2.2.2.2.2.2.2.2.2.1, v0.2.2.2.2.2.2.2.2.2.2.2.2.2.2.2.1, v0.2.2.2.2.2.2.2.2.2.2.2.2.2.2.2.2.1, v0.2.2.2.2.2.2.2.2.2.2.2.2.2.2.2.2.2.1, v0.2.2.2.2.2.2.2.2.2.2.2.2.2.2.2.2.2.2.1, v0.2.2.2.2.2.2.2.2.2.2.2.2.2.2.2.2.2.2.2.1, v0.2.2.2.2.2.2.2.2.2.2.2.2.2.2.2.2.2.2.2.2.1, v0.2.2.2.2.2.2.2.2.2.2.2.2.2.2.2.2.2.2.2.2.2.1, v0.2.2.2.2.2.2.2.2.2.2.2.2.2.2.2.2.2.2.2.2.2.2)) := hD
  obtain rfl := Option.some.inj h
  exact W.vret hx hb hr (fun t ht hW => ⟨⟨(), rfl, trivial, by rw [ht]; exact hP, hD⟩, hS.F ht⟩) hS.2.2 d_Model_write_21 hlocks

set_option maxHeartbeats 4000000 in
set_option maxRecDepth 100000 in
theorem c_Model_write (l : Launch) (D : va_G) (cC cI : ClassId) (sz : Nat) (a0_0 a0_1 a0_2 a0_3 a0_4 a0_5 a0_6 a0_7 : Nat) (v0 : T_Model) (v1 : Int32) (out : O_Model_write) (h : f_Model_write v0 v1 = some out) : Met l y_Model_write (.code y_Model_write b_Model_write 2 none :: BIG) rm_Model_write (va_Pc [.ref a0_0, .int v1] (xPre D cC cI (wd_Model_write cC cI a0_0 a0_1 a0_2 a0_3 a0_4 a0_5 a0_6 a0_7 v0) sz)) (q_Model_write D cC cI a0_0 a0_1 a0_2 a0_3 a0_4 a0_5 a0_6 a0_7 out (va_A (wd_Model_write cC cI a0_0 a0_1 a0_2 a0_3 a0_4 a0_5 a0_6 a0_7 v0) sz)) 0 0 (va_A (wd_Model_write cC cI a0_0 a0_1 a0_2 a0_3 a0_4 a0_5 a0_6 a0_7 v0) sz) := by
  refine Met.ofW (cc := b_Model_write) (maxL := 2) (ret := none) (by decide) rfl ?_
  intro p e s m args below meth c s₁ B hml hv
  obtain ⟨rfl, rfl, hP, hD0, hG, hZ⟩ := hv
  have hl := lv_entry [.ref a0_0, .int v1] (n := 2) (Nat.le_of_ble_eq_true rfl)
  rw [lg_entry_eq]
  exact w_Model_write (x_cx B hml hG hZ) v0 v1 h hl hP hD0.self va_S.rf

abbrev wd_Model_writeAffix (cC cI : ClassId) (a0_0 a0_1 a0_2 a0_3 a0_4 a0_5 a0_6 a0_7 : Nat) (v0 : T_Model) : va_W := [(a0_0, .inr (11, [.ref a0_1, .int v0.2.1, .ref a0_2, .int v0.2.2.2.1, .int v0.2.2.2.2.1, .int v0.2.2.2.2.2.1, .ref a0_3, .ref a0_4, .ref a0_5, .int v0.2.2.2.2.2.2.2.2.2.1, .int v0.2.2.2.2.2.2.2.2.2.2.1, .int v0.2.2.2.2.2.2.2.2.2.2.2.1, .int v0.2.2.2.2.2.2.2.2.2.2.2.2.1, .ref a0_6, .int v0.2.2.2.2.2.2.2.2.2.2.2.2.2.2.1, .int v0.2.2.2.2.2.2.2.2.2.2.2.2.2.2.2.1, .int v0.2.2.2.2.2.2.2.2.2.2.2.2.2.2.2.2.1, .ref a0_7, .long v0.2.2.2.2.2.2.2.2.2.2.2.2.2.2.2.2.2.2.1, .int v0.2.2.2.2.2.2.2.2.2.2.2.2.2.2.2.2.2.2.2.1, .long v0.2.2.2.2.2.2.2.2.2.2.2.2.2.2.2.2.2.2.2.2.1, .int v0.2.2.2.2.2.2.2.2.2.2.2.2.2.2.2.2.2.2.2.2.2.1, .int v0.2.2.2.2.2.2.2.2.2.2.2.2.2.2.2.2.2.2.2.2.2.2])), (a0_1, .inl (cC, 120, .inl v0.1)), (a0_2, .inl (cC, 200, .inl v0.2.2.1)), (a0_3, .inl (cI, 160, .inl v0.2.2.2.2.2.2.1)), (a0_4, .inl (cI, 4, .inl v0.2.2.2.2.2.2.2.1)), (a0_5, .inl (cI, 7, .inl v0.2.2.2.2.2.2.2.2.1)), (a0_6, .inl (cI, 40, .inl v0.2.2.2.2.2.2.2.2.2.2.2.2.2.1)), (a0_7, .inl (cI, 6, .inl v0.2.2.2.2.2.2.2.2.2.2.2.2.2.2.2.2.2.1))]
abbrev O_Model_writeAffix : Type := T_Model
abbrev q_Model_writeAffix (D : va_G) (cC cI : ClassId) (a0_0 a0_1 a0_2 a0_3 a0_4 a0_5 a0_6 a0_7 : Nat)  (out : O_Model_writeAffix) (A : Nat → Prop) : Array Value → State → Outcome → State → Prop := va_Qv (fun _ : Unit => True) (fun _ t => va_P D classes (wd_Model_writeAffix cC cI a0_0 a0_1 a0_2 a0_3 a0_4 a0_5 a0_6 a0_7 out) t.heap ∧ va_D A (wd_Model_writeAffix cC cI a0_0 a0_1 a0_2 a0_3 a0_4 a0_5 a0_6 a0_7 out)) A
abbrev rm_Model_writeAffix : Room := { frames := 2, cells := 0, slots := 0, locals := 47 }
def J_Model_writeAffix_10 (p : Program) (l : Launch) (e : Env) (s : State) (m : MethodId) (args : Array Value) (below : List Frame) (meth : Method) (c : Code) (A : Nat → Prop) (D : va_G) (cC cI : ClassId) (a0_0 a0_1 a0_2 a0_3 a0_4 a0_5 a0_6 a0_7 : Nat) (out : O_Model_writeAffix) (k : T_Model → Int32 → Int32 → Int32 → Int32 → Option O_Model_writeAffix) : Prop := ∀ (v0 : T_Model) (x1 : Int32) (x2 : Int32) (x3 : Int32) (x4 : Int32) (ls : Array Slot) (H : Heap) (locs : List Loc), k v0 x1 x2 x3 x4 = some out → lv_has ls 6 [(0, .ref a0_0), (1, .int x1), (2, .int x2), (3, .int x3), (4, .int x4)] → va_P D classes (wd_Model_writeAffix cC cI a0_0 a0_1 a0_2 a0_3 a0_4 a0_5 a0_6 a0_7 v0) H → va_D A (wd_Model_writeAffix cC cI a0_0 a0_1 a0_2 a0_3 a0_4 a0_5 a0_6 a0_7 v0) → va_S A s.heap H locs → W p l e rm_Model_writeAffix s m args below meth c H locs 0 0 (MQ below (q_Model_writeAffix D cC cI a0_0 a0_1 a0_2 a0_3 a0_4 a0_5 a0_6 a0_7 out A) args s 0 0 A) (F0 m 10 ls [])
def f_Model_writeAffix_10   : Nat → T_Model → Int32 → Int32 → Int32 → Int32 → Option O_Model_writeAffix
  | 0, _, _, _, _, _ => none
  | n + 1, v0, x1, x2, x3, x4 => (if x3 ≤ x4 then some v0 else (f_Model_shown v0 x1 x2 x4).bind (fun o21 => (f_Model_write v0 o21).bind (fun o29 => (f_Model_writeAffix_10  n) o29 x1 x2 x3 (x4 + (1 : Int32)))))
set_option maxHeartbeats 4000000 in
set_option maxRecDepth 100000 in
theorem w_Model_writeAffix_10 {p : Program} {l : Launch} {e : Env} {s : State} {m : MethodId} {args : Array Value} {below : List Frame} {meth : Method} {c : Code} {A : Nat → Prop} {D : va_G} {cC cI : ClassId} {a0_0 a0_1 a0_2 a0_3 a0_4 a0_5 a0_6 a0_7 : Nat} (X : xCX p s m args meth c A D cC cI b_Model_writeAffix 6 R_Model none) {out : O_Model_writeAffix}   : ∀ n : Nat, J_Model_writeAffix_10 p l e s m args below meth c A D cC cI a0_0 a0_1 a0_2 a0_3 a0_4 a0_5 a0_6 a0_7 out (f_Model_writeAffix_10   n) := by
  obtain ⟨hx, hb, hml, hown, htB, ⟨hK, hN⟩, hZ, hA, hr, hlocks⟩ := id X
  intro n
  induction n with
  | zero =>
    intro v0 x1 x2 x3 x4 ls H locs h hl hP hD hS
    cases h
  | succ n ih =>
    intro v0 x1 x2 x3 x4 ls H locs h hl hP hD hS
    refine lv_iload hx hb d_Model_writeAffix_10 (lv_at hl 4 rfl) ?_
    refine lv_iload_n hx hb d_Model_writeAffix_12 rfl (lv_at hl 3 rfl) ?_
    refine lv_icmp_ge (tgt := 38) hx hb d_Model_writeAffix_13 rfl (fun hc => ?_) (fun hc => ?_)
    · have h := (if_pos hc).symm.trans h
      obtain rfl := Option.some.inj h
      exact W.vret hx hb hr (fun t ht hW => ⟨⟨(), rfl, trivial, by rw [ht]; exact hP, hD⟩, hS.F ht⟩) hS.2.2 d_Model_writeAffix_38 hlocks
    have h := (if_neg hc).symm.trans h
    refine lv_aload_n hx hb d_Model_writeAffix_16 rfl (lv_at hl 0 rfl) ?_
    refine lv_iload_n hx hb d_Model_writeAffix_17 rfl (lv_at hl 1 rfl) ?_
    refine lv_iload_n hx hb d_Model_writeAffix_18 rfl (lv_at hl 2 rfl) ?_
    refine lv_iload hx hb d_Model_writeAffix_19 (lv_at hl 4 rfl) ?_
    obtain ⟨o21, ho21, h⟩ := x_bnd h
    refine x_calli (r0 := o21) (ws2 := (wd_Model_writeAffix cC cI a0_0 a0_1 a0_2 a0_3 a0_4 a0_5 a0_6 a0_7 v0)) (x_runV (As := [.int x1, .int x2, .int x4]) (rest := []) X (c_Model_shown l D cC cI H.size a0_0 a0_1 a0_2 a0_3 a0_4 a0_5 a0_6 a0_7 v0 x1 x2 x4 o21 ho21) b_374 3 (htB _ b_377) (htB _ b_375) (htB _ b_376) (htB _ b_319) ⟨by decide, by decide, by decide +kernel⟩ ⟨(Nat.le_of_ble_eq_true rfl), (Nat.le_of_ble_eq_true rfl)⟩ 0 rfl rfl hP hD hS [0, 1, 2, 3, 4, 5, 6, 7] rfl (by decide) rfl rfl hl.1 rfl rfl (Nat.le_of_ble_eq_true rfl) d_Model_writeAffix_21) hP hD hS hA [0, 1, 2, 3, 4, 5, 6, 7] [] [0, 1, 2, 3, 4, 5, 6, 7] rfl rfl (by decide) (by decide) rfl (by decide) (fun H locs hP hD hS => ?_)
    refine lv_istore (lv' := [(5, .int o21), (0, .ref a0_0), (1, .int x1), (2, .int x2), (3, .int x3), (4, .int x4)]) hx hb d_Model_writeAffix_24 hl (by decide) rfl (fun ls hl => ?_)
    refine lv_aload_n hx hb d_Model_writeAffix_26 rfl (lv_at hl 1 rfl) ?_
    refine lv_iload hx hb d_Model_writeAffix_27 (lv_at hl 0 rfl) ?_
    obtain ⟨o29, ho29, h⟩ := x_bnd h
    refine x_callv (ws2 := (wd_Model_writeAffix cC cI a0_0 a0_1 a0_2 a0_3 a0_4 a0_5 a0_6 a0_7 o29)) (x_runV (As := [.int o21]) (rest := []) X (c_Model_write l D cC cI H.size a0_0 a0_1 a0_2 a0_3 a0_4 a0_5 a0_6 a0_7 v0 o21 o29 ho29) b_378 1 (htB _ b_381) (htB _ b_379) (htB _ b_380) (htB _ b_319) ⟨by decide, by decide, by decide +kernel⟩ ⟨(Nat.le_of_ble_eq_true rfl), (Nat.le_of_ble_eq_true rfl)⟩ 0 rfl rfl hP hD hS [0, 1, 2, 3, 4, 5, 6, 7] rfl (by decide) rfl rfl hl.1 rfl rfl (Nat.le_of_ble_eq_true rfl) d_Model_writeAffix_29) hP hD hS hA [0, 1, 2, 3, 4, 5, 6, 7] [] [0, 1, 2, 3, 4, 5, 6, 7] rfl rfl (by decide) (by decide) rfl (by decide) (fun H locs hP hD hS => ?_)
    refine lv_iinc (k := 5) (v := (x4 + (1 : Int32))) (lv' := [(4, .int (x4 + (1 : Int32))), (5, .int o21), (0, .ref a0_0), (1, .int x1), (2, .int x2), (3, .int x3)]) hx hb d_Model_writeAffix_32 hl rfl (congrArg (fun z => x4 + z) (by decide : Int32.ofInt 1 = (1 : Int32))) (by decide) rfl (fun ls hl => ?_)
    refine lv_goto (tgt := 10) hx hb d_Model_writeAffix_35 rfl ?_
    exact ih o29 x1 x2 x3 (x4 + (1 : Int32)) ls H locs h (lv_sub hl [2, 3, 4, 5, 0] rfl) hP hD hS

def f_Model_writeAffix (v0 : T_Model) (v1 : Int32) (v2 : Int32) : Option O_Model_writeAffix := (f_Model_shownLength v0 v1 v2).bind (fun o3 => f_Model_writeAffix_10 FU v0 v1 v2 o3 (0 : Int32))
set_option maxHeartbeats 4000000 in
set_option maxRecDepth 100000 in
theorem w_Model_writeAffix {p : Program} {l : Launch} {e : Env} {s : State} {m : MethodId} {args : Array Value} {below : List Frame} {meth : Method} {c : Code} {A : Nat → Prop} {D : va_G} {cC cI : ClassId} {a0_0 a0_1 a0_2 a0_3 a0_4 a0_5 a0_6 a0_7 : Nat} (X : xCX p s m args meth c A D cC cI b_Model_writeAffix 6 R_Model none) {out : O_Model_writeAffix} (v0 : T_Model) (v1 : Int32) (v2 : Int32) {ls : Array Slot} {H : Heap} {locs : List Loc} (h : f_Model_writeAffix v0 v1 v2 = some out) (hl : lv_has ls 6 [(0, .ref a0_0), (1, .int v1), (2, .int v2)]) (hP : va_P D classes (wd_Model_writeAffix cC cI a0_0 a0_1 a0_2 a0_3 a0_4 a0_5 a0_6 a0_7 v0) H) (hD : va_D A (wd_Model_writeAffix cC cI a0_0 a0_1 a0_2 a0_3 a0_4 a0_5 a0_6 a0_7 v0)) (hS : va_S A s.heap H locs) : W p l e rm_Model_writeAffix s m args below meth c H locs 0 0 (MQ below (q_Model_writeAffix D cC cI a0_0 a0_1 a0_2 a0_3 a0_4 a0_5 a0_6 a0_7 out A) args s 0 0 A) (F0 m 0 ls []) := by
  obtain ⟨hx, hb, hml, hown, htB, ⟨hK, hN⟩, hZ, hA, hr, hlocks⟩ := id X
  refine lv_aload_n hx hb d_Model_writeAffix_0 rfl (lv_at hl 0 rfl) ?_
  refine lv_iload_n hx hb d_Model_writeAffix_1 rfl (lv_at hl 1 rfl) ?_
  refine lv_iload_n hx hb d_Model_writeAffix_2 rfl (lv_at hl 2 rfl) ?_
  obtain ⟨o3, ho3, h⟩ := x_bnd h
  refine x_calli (r0 := o3) (ws2 := (wd_Model_writeAffix cC cI a0_0 a0_1 a0_2 a0_3 a0_4 a0_5 a0_6 a0_7 v0)) (x_runV (As := [.int v1, .int v2]) (rest := []) X (c_Model_shownLength l D cC cI H.size a0_0 a0_1 a0_2 a0_3 a0_4 a0_5 a0_6 a0_7 v0 v1 v2 o3 ho3) b_370 2 (htB _ b_373) (htB _ b_371) (htB _ b_372) (htB _ b_319) ⟨by decide, by decide, by decide +kernel⟩ ⟨(Nat.le_of_ble_eq_true rfl), (Nat.le_of_ble_eq_true rfl)⟩ 0 rfl rfl hP hD hS [0, 1, 2, 3, 4, 5, 6, 7] rfl (by decide) rfl rfl hl.1 rfl rfl (Nat.le_of_ble_eq_true rfl) d_Model_writeAffix_3) hP hD hS hA [0, 1, 2, 3, 4, 5, 6, 7] [] [0, 1, 2, 3, 4, 5, 6, 7] rfl rfl (by decide) (by decide) rfl (by decide) (fun H locs hP hD hS => ?_)
  refine lv_istore_n (lv' := [(3, .int o3), (0, .ref a0_0), (1, .int v1), (2, .int v2)]) hx hb d_Model_writeAffix_6 rfl hl (by decide) rfl (fun ls hl => ?_)
  refine lv_iconst (v := 0) hx hb d_Model_writeAffix_7 (by decide) ?_
  refine lv_istore (lv' := [(4, .int (0 : Int32)), (3, .int o3), (0, .ref a0_0), (1, .int v1), (2, .int v2)]) hx hb d_Model_writeAffix_8 hl (by decide) rfl (fun ls hl => ?_)
  exact w_Model_writeAffix_10 X FU v0 v1 v2 o3 (0 : Int32) ls H locs h (lv_sub hl [2, 3, 4, 1, 0] rfl) hP hD hS

set_option maxHeartbeats 4000000 in
set_option maxRecDepth 100000 in
theorem c_Model_writeAffix (l : Launch) (D : va_G) (cC cI : ClassId) (sz : Nat) (a0_0 a0_1 a0_2 a0_3 a0_4 a0_5 a0_6 a0_7 : Nat) (v0 : T_Model) (v1 : Int32) (v2 : Int32) (out : O_Model_writeAffix) (h : f_Model_writeAffix v0 v1 v2 = some out) : Met l y_Model_writeAffix (.code y_Model_writeAffix b_Model_writeAffix 6 none :: BIG) rm_Model_writeAffix (va_Pc [.ref a0_0, .int v1, .int v2] (xPre D cC cI (wd_Model_writeAffix cC cI a0_0 a0_1 a0_2 a0_3 a0_4 a0_5 a0_6 a0_7 v0) sz)) (q_Model_writeAffix D cC cI a0_0 a0_1 a0_2 a0_3 a0_4 a0_5 a0_6 a0_7 out (va_A (wd_Model_writeAffix cC cI a0_0 a0_1 a0_2 a0_3 a0_4 a0_5 a0_6 a0_7 v0) sz)) 0 0 (va_A (wd_Model_writeAffix cC cI a0_0 a0_1 a0_2 a0_3 a0_4 a0_5 a0_6 a0_7 v0) sz) := by
  refine Met.ofW (cc := b_Model_writeAffix) (maxL := 6) (ret := none) (by decide) rfl ?_
  intro p e s m args below meth c s₁ B hml hv
  obtain ⟨rfl, rfl, hP, hD0, hG, hZ⟩ := hv
  have hl := lv_entry [.ref a0_0, .int v1, .int v2] (n := 6) (Nat.le_of_ble_eq_true rfl)
  rw [lg_entry_eq]
  exact w_Model_writeAffix (x_cx B hml hG hZ) v0 v1 v2 h hl hP hD0.self va_S.rf

abbrev wd_Model_lay (cC cI : ClassId) (a0_0 a0_1 a0_2 a0_3 a0_4 a0_5 a0_6 a0_7 : Nat) (v0 : T_Model) : va_W := [(a0_0, .inr (11, [.ref a0_1, .int v0.2.1, .ref a0_2, .int v0.2.2.2.1, .int v0.2.2.2.2.1, .int v0.2.2.2.2.2.1, .ref a0_3, .ref a0_4, .ref a0_5, .int v0.2.2.2.2.2.2.2.2.2.1, .int v0.2.2.2.2.2.2.2.2.2.2.1, .int v0.2.2.2.2.2.2.2.2.2.2.2.1, .int v0.2.2.2.2.2.2.2.2.2.2.2.2.1, .ref a0_6, .int v0.2.2.2.2.2.2.2.2.2.2.2.2.2.2.1, .int v0.2.2.2.2.2.2.2.2.2.2.2.2.2.2.2.1, .int v0.2.2.2.2.2.2.2.2.2.2.2.2.2.2.2.2.1, .ref a0_7, .long v0.2.2.2.2.2.2.2.2.2.2.2.2.2.2.2.2.2.2.1, .int v0.2.2.2.2.2.2.2.2.2.2.2.2.2.2.2.2.2.2.2.1, .long v0.2.2.2.2.2.2.2.2.2.2.2.2.2.2.2.2.2.2.2.2.1, .int v0.2.2.2.2.2.2.2.2.2.2.2.2.2.2.2.2.2.2.2.2.2.1, .int v0.2.2.2.2.2.2.2.2.2.2.2.2.2.2.2.2.2.2.2.2.2.2])), (a0_1, .inl (cC, 120, .inl v0.1)), (a0_2, .inl (cC, 200, .inl v0.2.2.1)), (a0_3, .inl (cI, 160, .inl v0.2.2.2.2.2.2.1)), (a0_4, .inl (cI, 4, .inl v0.2.2.2.2.2.2.2.1)), (a0_5, .inl (cI, 7, .inl v0.2.2.2.2.2.2.2.2.1)), (a0_6, .inl (cI, 40, .inl v0.2.2.2.2.2.2.2.2.2.2.2.2.2.1)), (a0_7, .inl (cI, 6, .inl v0.2.2.2.2.2.2.2.2.2.2.2.2.2.2.2.2.2.1))]
abbrev O_Model_lay : Type := T_Model
abbrev q_Model_lay (D : va_G) (cC cI : ClassId) (a0_0 a0_1 a0_2 a0_3 a0_4 a0_5 a0_6 a0_7 : Nat)  (out : O_Model_lay) (A : Nat → Prop) : Array Value → State → Outcome → State → Prop := va_Qv (fun _ : Unit => True) (fun _ t => va_P D classes (wd_Model_lay cC cI a0_0 a0_1 a0_2 a0_3 a0_4 a0_5 a0_6 a0_7 out) t.heap ∧ va_D A (wd_Model_lay cC cI a0_0 a0_1 a0_2 a0_3 a0_4 a0_5 a0_6 a0_7 out)) A
abbrev rm_Model_lay : Room := { frames := 0, cells := 0, slots := 0, locals := 0 }
def J_Model_lay_9 (p : Program) (l : Launch) (e : Env) (s : State) (m : MethodId) (args : Array Value) (below : List Frame) (meth : Method) (c : Code) (A : Nat → Prop) (D : va_G) (cC cI : ClassId) (a0_0 a0_1 a0_2 a0_3 a0_4 a0_5 a0_6 a0_7 : Nat) (out : O_Model_lay) (k : T_Model → Int64 → Int64 → Option O_Model_lay) : Prop := ∀ (v0 : T_Model) (x1 : Int64) (x3 : Int64) (ls : Array Slot) (H : Heap) (locs : List Loc), k v0 x1 x3 = some out → lv_has ls 6 [(0, .ref a0_0), (1, .long x1), (3, .long x3)] → va_P D classes (wd_Model_lay cC cI a0_0 a0_1 a0_2 a0_3 a0_4 a0_5 a0_6 a0_7 v0) H → va_D A (wd_Model_lay cC cI a0_0 a0_1 a0_2 a0_3 a0_4 a0_5 a0_6 a0_7 v0) → va_S A s.heap H locs → W p l e rm_Model_lay s m args below meth c H locs 0 0 (MQ below (q_Model_lay D cC cI a0_0 a0_1 a0_2 a0_3 a0_4 a0_5 a0_6 a0_7 out A) args s 0 0 A) (F0 m 9 ls [])
def J_Model_lay_37 (p : Program) (l : Launch) (e : Env) (s : State) (m : MethodId) (args : Array Value) (below : List Frame) (meth : Method) (c : Code) (A : Nat → Prop) (D : va_G) (cC cI : ClassId) (a0_0 a0_1 a0_2 a0_3 a0_4 a0_5 a0_6 a0_7 : Nat) (out : O_Model_lay) (k : T_Model → Int64 → Int64 → Int32 → Option O_Model_lay) : Prop := ∀ (v0 : T_Model) (x1 : Int64) (x3 : Int64) (x5 : Int32) (ls : Array Slot) (H : Heap) (locs : List Loc), k v0 x1 x3 x5 = some out → lv_has ls 6 [(0, .ref a0_0), (1, .long x1), (3, .long x3), (5, .int x5)] → va_P D classes (wd_Model_lay cC cI a0_0 a0_1 a0_2 a0_3 a0_4 a0_5 a0_6 a0_7 v0) H → va_D A (wd_Model_lay cC cI a0_0 a0_1 a0_2 a0_3 a0_4 a0_5 a0_6 a0_7 v0) → va_S A s.heap H locs → W p l e rm_Model_lay s m args below meth c H locs 0 0 (MQ below (q_Model_lay D cC cI a0_0 a0_1 a0_2 a0_3 a0_4 a0_5 a0_6 a0_7 out A) args s 0 0 A) (F0 m 37 ls [])
def J_Model_lay_58 (p : Program) (l : Launch) (e : Env) (s : State) (m : MethodId) (args : Array Value) (below : List Frame) (meth : Method) (c : Code) (A : Nat → Prop) (D : va_G) (cC cI : ClassId) (a0_0 a0_1 a0_2 a0_3 a0_4 a0_5 a0_6 a0_7 : Nat) (out : O_Model_lay) (k : T_Model → Int64 → Int64 → Option O_Model_lay) : Prop := ∀ (v0 : T_Model) (x1 : Int64) (x3 : Int64) (ls : Array Slot) (H : Heap) (locs : List Loc), k v0 x1 x3 = some out → lv_has ls 6 [(0, .ref a0_0), (1, .long x1), (3, .long x3)] → va_P D classes (wd_Model_lay cC cI a0_0 a0_1 a0_2 a0_3 a0_4 a0_5 a0_6 a0_7 v0) H → va_D A (wd_Model_lay cC cI a0_0 a0_1 a0_2 a0_3 a0_4 a0_5 a0_6 a0_7 v0) → va_S A s.heap H locs → W p l e rm_Model_lay s m args below meth c H locs 0 0 (MQ below (q_Model_lay D cC cI a0_0 a0_1 a0_2 a0_3 a0_4 a0_5 a0_6 a0_7 out A) args s 0 0 A) (F0 m 58 ls [])
def f_Model_lay_58 (k9 : T_Model → Int64 → Int64 → Option O_Model_lay) (v0 : T_Model) (x1 : Int64) (x3 : Int64) : Option O_Model_lay := k9 v0 x1 (x3 / (10 : Int64))
set_option maxHeartbeats 4000000 in
set_option maxRecDepth 100000 in
theorem w_Model_lay_58 {p : Program} {l : Launch} {e : Env} {s : State} {m : MethodId} {args : Array Value} {below : List Frame} {meth : Method} {c : Code} {A : Nat → Prop} {D : va_G} {cC cI : ClassId} {a0_0 a0_1 a0_2 a0_3 a0_4 a0_5 a0_6 a0_7 : Nat} (X : xCX p s m args meth c A D cC cI b_Model_lay 6 R_Model none) {out : O_Model_lay} {k9 : T_Model → Int64 → Int64 → Option O_Model_lay} (hk9 : J_Model_lay_9 p l e s m args below meth c A D cC cI a0_0 a0_1 a0_2 a0_3 a0_4 a0_5 a0_6 a0_7 out k9) : J_Model_lay_58 p l e s m args below meth c A D cC cI a0_0 a0_1 a0_2 a0_3 a0_4 a0_5 a0_6 a0_7 out (f_Model_lay_58  k9) := by
  obtain ⟨hx, hb, hml, hown, htB, ⟨hK, hN⟩, hZ, hA, hr, hlocks⟩ := id X
  intro v0 x1 x3 ls H locs h hl hP hD hS
  refine lv_lload_n hx hb d_Model_lay_58 rfl (lv_at hl 2 rfl) ?_
  refine lv_ldc2 (v := 10) hx hb hown (htB _ b_384) d_Model_lay_59 ?_
  refine lv_ldiv hx hb d_Model_lay_62 (by decide) ?_
  refine lv_lstore_n (lv' := [(3, .long (x3 / (10 : Int64))), (0, .ref a0_0), (1, .long x1)]) hx hb d_Model_lay_63 rfl hl (by decide) rfl (fun ls hl => ?_)
  refine lv_goto (tgt := 9) hx hb d_Model_lay_64 rfl ?_
  exact hk9 v0 x1 (x3 / (10 : Int64)) ls H locs h (lv_sub hl [1, 2, 0] rfl) hP hD hS

def f_Model_lay_37 (k9 : T_Model → Int64 → Int64 → Option O_Model_lay) (v0 : T_Model) (x1 : Int64) (x3 : Int64) (x5 : Int32) : Option O_Model_lay := if ix v0.2.2.2.2.2.2.2.2.2.2.2.2.2.2.1 40 then f_Model_lay_58 k9 (v0.1, v0.2.1, v0.2.2.1, v0.2.2.2.1, v0.2.2.2.2.1, v0.2.2.2.2.2.1, v0.2.2.2.2.2.2.1, v0.2.2.2.2.2.2.2.1, v0.2.2.2.2.2.2.2.2.1, v0.2.2.2.2.2.2.2.2.2.1, v0.2.2.2.2.2.2.2.2.2.2.1, v0.2.2.2.2.2.2.2.2.2.2.2.1, v0.2.2.2.2.2.2.2.2.2.2.2.2.1, (upd v0.2.2.2.2.2.2.2.2.2.2.2.2.2.1 v0.2.2.2.2.2.2.2.2.2.2.2.2.2.2.1.toNatClampNeg x5), (v0.2.2.2.2.2.2.2.2.2.2.2.2.2.2.1 + (1 : Int32)), v0.2.2.2.2.2.2.2.2.2.2.2.2.2.2.2.1, v0.2.2.2.2.2.2.2.2.2.2.2.2.2.2.2.2.1, v0.2.2.2.2.2.2.2.2.2.2.2.2.2.2.2.2.2.1, v0.2.2.2.2.2.2.2.2.2.2.2.2.2.2.2.2.2.2.1, v0.2.2.2.2.2.2.2.2.2.2.2.2.2.2.2.2.2.2.2.1, v0.2.2.2.2.2.2.2.2.2.2.2.2.2.2.2.2.2.2.2.2.1, v0.2.2.2.2.2.2.2.2.2.2.2.2.2.2.2.2.2.2.2.2.2.1, v0.2.2.2.2.2.2.2.2.2.2.2.2.2.2.2.2.2.2.2.2.2.2) x1 x3 else none
set_option maxHeartbeats 4000000 in
set_option maxRecDepth 100000 in
theorem w_Model_lay_37 {p : Program} {l : Launch} {e : Env} {s : State} {m : MethodId} {args : Array Value} {below : List Frame} {meth : Method} {c : Code} {A : Nat → Prop} {D : va_G} {cC cI : ClassId} {a0_0 a0_1 a0_2 a0_3 a0_4 a0_5 a0_6 a0_7 : Nat} (X : xCX p s m args meth c A D cC cI b_Model_lay 6 R_Model none) {out : O_Model_lay} {k9 : T_Model → Int64 → Int64 → Option O_Model_lay} (hk9 : J_Model_lay_9 p l e s m args below meth c A D cC cI a0_0 a0_1 a0_2 a0_3 a0_4 a0_5 a0_6 a0_7 out k9) : J_Model_lay_37 p l e s m args below meth c A D cC cI a0_0 a0_1 a0_2 a0_3 a0_4 a0_5 a0_6 a0_7 out (f_Model_lay_37  k9) := by
  obtain ⟨hx, hb, hml, hown, htB, ⟨hK, hN⟩, hZ, hA, hr, hlocks⟩ := id X
  intro v0 x1 x3 x5 ls H locs h hl hP hD hS
  refine lv_aload_n hx hb d_Model_lay_37 rfl (lv_at hl 0 rfl) ?_
  refine va_get (D := D) (ci := 11) (v := .ref a0_6) (C := R_Model) (T := F_Model) (N := 23) hx hb htB in_Model hown hK hP 0 rfl rfl 13 (by decide) (htB _ b_385) (fun _ h9 => h9) rfl d_Model_lay_38 ?_
  refine lv_aload_n hx hb d_Model_lay_41 rfl (lv_at hl 0 rfl) ?_
  refine va_get (D := D) (ci := 11) (v := .int v0.2.2.2.2.2.2.2.2.2.2.2.2.2.2.1) (C := R_Model) (T := F_Model) (N := 23) hx hb htB in_Model hown hK hP 0 rfl rfl 14 (by decide) (htB _ b_382) (fun _ h9 => h9) rfl d_Model_lay_42 ?_
  refine lv_iload hx hb d_Model_lay_45 (lv_at hl 3 rfl) ?_
  obtain ⟨hc, h⟩ := x_chk h
  refine va_iast hx hb hK hP hD hS 6 1 rfl rfl hc d_Model_lay_47 (fun H locs hP hD hS => ?_)
  have hP : va_P D classes (wd_Model_lay cC cI a0_0 a0_1 a0_2 a0_3 a0_4 a0_5 a0_6 a0_7 (v0.1, v0.2.1, v0.2.2.1, v0.2.2.2.1, v0.2.2.2.2.1, v0.2.2.2.2.2.1, v0.2.2.2.2.2.2.1, v0.2.2.2.2.2.2.2.1, v0.2.2.2.2.2.2.2.2.1, v0.2.2.2.2.2.2.2.2.2.1, v0.2.2.2.2.2.2.2.2.2.2.1, v0.2.2.2.2.2.2.2.2.2.2.2.1, v0.2.2.2.2.2.2.2.2.2.2.2.2.1, (upd v0.2.2.2.2.2.2.2.2.2.2.2.2.2.1 v0.2.2.2.2.2.2.2.2.2.2.2.2.2.2.1.toNatClampNeg x5), v0.2.2.2.2.2.2.2.2.2.2.2.2.2.2.1, v0.2.2.2.2.2.2.2.2.2.2.2.2.2.2.2.1, v0.2.2.2.2.2.2.2.2.2.2.2.2.2.2.2.2.1, v0.2.2.2.2.2.2.2.2.2.2.2.2.2.2.2.2.2.1, v0.2.2.2.2.2.2.2.2.2.2.2.2.2.2.2.2.2.2.1, v0.2.2.2.2.2.2.2.2.2.2.2.2.2.2.2.2.2.2.2.1, v0.2.2.2.2.2.2.2.2.2.2.2.2.2.2.2.2.2.2.2.2.1, v0.2.2.2.2.2.2.2.2.2.2.2.2.2.2.2.2.2.2.2.2.2.1, v0.2.2.2.2.2.2.2.2.2.2.2.2.2.2.2.2.2.2.2.2.2.2)) H := hP
  have hD : va_D A (wd_Model_lay cC cI a0_0 a0_1 a0_2 a0_3 a0_4 a0_5 a0_6 a0_7 (v0.1, v0.2.1, v0.2.2.1, v0.2.2.2.1, v0.2.2.2.2.1, v0.2.2.2.2.2.1, v0.2.2.2.2.2.2.1, v0.2.2.2.2.2.2.2.1, v0.2.2.2.2.2.2.2.2.1, v0.2.2.2.2.2.2.2.2.2.1, v0.2.2.2.2.2.2.2.2.2.2.1, v0.2.2.2.2.2.2.2.2.2.2.2.1, v0.2.2.2.2.2.2.2.2.2.2.2.2.1, (upd v0.2.2.2.2.2.2.2.2.2.2.2.2.2.1 v0.2.2.2.2.2.2.2.2.2.2.2.2.2.2.1.toNatClampNeg x5), v0.2.2.2.2.2.2.2.2.2.2.2.2.2.2.1, v0.2.2.2.2.2.2.2.2.2.2.2.2.2.2.2.1, v0.2.2.2.2.2.2.2.2.2.2.2.2.2.2.2.2.1, v0.2.2.2.2.2.2.2.2.2.2.2.2.2.2.2.2.2.1, v0.2.2.2.2.2.2.2.2.2.2.2.2.2.2.2.2.2.2.1, v0.2.2.2.2.2.2.2.2.2.2.2.2.2.2.2.2.2.2.2.1, v0.2.2.2.2.2.2.2.2.2.2.2.2.2.2.2.2.2.2.2.2.1, v0.2.2.2.2.2.2.2.2.2.2.2.2.2.2.2.2.2.2.2.2.2.1, v0.2.2.2.2.2.2.2.2.2.2.2.2.2.2.2.2.2.2.2.2.2.2)) := hD
  refine lv_aload_n hx hb d_Model_lay_48 rfl (lv_at hl 0 rfl) ?_
  refine lv_aload_n hx hb d_Model_lay_49 rfl (lv_at hl 0 rfl) ?_
  refine va_get (D := D) (ci := 11) (v := .int v0.2.2.2.2.2.2.2.2.2.2.2.2.2.2.1) (C := R_Model) (T := F_Model) (N := 23) hx hb htB in_Model hown hK hP 0 rfl rfl 14 (by decide) (htB _ b_382) (fun _ h9 => h9) rfl d_Model_lay_50 ?_
  refine lv_iconst (v := 1) hx hb d_Model_lay_53 (by decide) ?_
  refine lv_iadd hx hb d_Model_lay_54 ?_
  refine va_put (D := D) (ci := 11) (v := .int (v0.2.2.2.2.2.2.2.2.2.2.2.2.2.2.1 + (1 : Int32))) (ty := .int) (C := R_Model) (T := F_Model) (N := 23) hx hb htB in_Model t_Model t_Model_ok n_Model hown hK hP hD hS 0 rfl rfl 14 (by decide) (htB _ b_382) (fun _ h9 => h9) rfl (by decide +kernel) rfl rfl (Nat.le_of_ble_eq_true rfl) d_Model_lay_55 (fun H locs hP hD hS => ?_)
  have hP : va_P D classes (wd_Model_lay cC cI a0_0 a0_1 a0_2 a0_3 a0_4 a0_5 a0_6 a0_7 (v0.1, v0.2.1, v0.2.2.1, v0.2.2.2.1, v0.2.2.2.2.1, v0.2.2.2.2.2.1, v0.2.2.2.2.2.2.1, v0.2.2.2.2.2.2.2.1, v0.2.2.2.2.2.2.2.2.1, v0.2.2.2.2.2.2.2.2.2.1, v0.2.2.2.2.2.2.2.2.2.2.1, v0.2.2.2.2.2.2.2.2.2.2.2.1, v0.2.2.2.2.2.2.2.2.2.2.2.2.1, (upd v0.2.2.2.2.2.2.2.2.2.2.2.2.2.1 v0.2.2.2.2.2.2.2.2.2.2.2.2.2.2.1.toNatClampNeg x5), (v0.2.2.2.2.2.2.2.2.2.2.2.2.2.2.1 + (1 : Int32)), v0.2.2.2.2.2.2.2.2.2.2.2.2.2.2.2.1, v0.2.2.2.2.2.2.2.2.2.2.2.2.2.2.2.2.1, v0.2.2.2.2.2.2.2.2.2.2.2.2.2.2.2.2.2.1, v0.2.2.2.2.2.2.2.2.2.2.2.2.2.2.2.2.2.2.1, v0.2.2.2.2.2.2.2.2.2.2.2.2.2.2.2.2.2.2.2.1, v0.2.2.2.2.2.2.2.2.2.2.2.2.2.2.2.2.2.2.2.2.1, v0.2.2.2.2.2.2.2.2.2.2.2.2.2.2.2.2.2.2.2.2.2.1, v0.2.2.2.2.2.2.2.2.2.2.2.2.2.2.2.2.2.2.2.2.2.2)) H := hP
  have hD : va_D A (wd_Model_lay cC cI a0_0 a0_1 a0_2 a0_3 a0_4 a0_5 a0_6 a0_7 (v0.1, v0.2.1, v0.2.2.1, v0.2.2.2.1, v0.2.2.2.2.1, v0.2.2.2.2.2.1, v0.2.2.2.2.2.2.1, v0.2.2.2.2.2.2.2.1, v0.2.2.2.2.2.2.2.2.1, v0.2.2.2.2.2.2.2.2.2.1, v0.2.2.2.2.2.2.2.2.2.2.1, v0.2.2.2.2.2.2.2.2.2.2.2.1, v0.2.2.2.2.2.2.2.2.2.2.2.2.1, (upd v0.2.2.2.2.2.2.2.2.2.2.2.2.2.1 v0.2.2.2.2.2.2.2.2.2.2.2.2.2.2.1.toNatClampNeg x5), (v0.2.2.2.2.2.2.2.2.2.2.2.2.2.2.1 + (1 : Int32)), v0.2.2.2.2.2.2.2.2.2.2.2.2.2.2.2.1, v0.2.2.2.2.2.2.2.2.2.2.2.2.2.2.2.2.1, v0.2.2.2.2.2.2.2.2.2.2.2.2.2.2.2.2.2.1, v0.2.2.2.2.2.2.2.2.2.2.2.2.2.2.2.2.2.2.1, v0.2.2.2.2.2.2.2.2.2.2.2.2.2.2.2.2.2.2.2.1, v0.2.2.2.2.2.2.2.2.2.2.2.2.2.2.2.2.2.2.2.2.1, v0.2.2.2.2.2.2.2.2.2.2.2.2.2.2.2.2.2.2.2.2.2.1, v0.2.2.2.2.2.2.2.2.2.2.2.2.2.2.2.2.2.2.2.2.2.2)) := hD
  exact w_Model_lay_58 X hk9 (v0.1, v0.2.1, v0.2.2.1, v0.2.2.2.1, v0.2.2.2.2.1, v0.2.2.2.2.2.1, v0.2.2.2.2.2.2.1, v0.2.2.2.2.2.2.2.1, v0.2.2.2.2.2.2.2.2.1, v0.2.2.2.2.2.2.2.2.2.1, v0.2.2.2.2.2.2.2.2.2.2.1, v0.2.2.2.2.2.2.2.2.2.2.2.1, v0.2.2.2.2.2.2.2.2.2.2.2.2.1, (upd v0.2.2.2.2.2.2.2.2.2.2.2.2.2.1 v0.2.2.2.2.2.2.2.2.2.2.2.2.2.2.1.toNatClampNeg x5), (v0.2.2.2.2.2.2.2.2.2.2.2.2.2.2.1 + (1 : Int32)), v0.2.2.2.2.2.2.2.2.2.2.2.2.2.2.2.1, v0.2.2.2.2.2.2.2.2.2.2.2.2.2.2.2.2.1, v0.2.2.2.2.2.2.2.2.2.2.2.2.2.2.2.2.2.1, v0.2.2.2.2.2.2.2.2.2.2.2.2.2.2.2.2.2.2.1, v0.2.2.2.2.2.2.2.2.2.2.2.2.2.2.2.2.2.2.2.1, v0.2.2.2.2.2.2.2.2.2.2.2.2.2.2.2.2.2.2.2.2.1, v0.2.2.2.2.2.2.2.2.2.2.2.2.2.2.2.2.2.2.2.2.2.1, v0.2.2.2.2.2.2.2.2.2.2.2.2.2.2.2.2.2.2.2.2.2.2) x1 x3 ls H locs h (lv_sub hl [0, 1, 2] rfl) hP hD hS

def f_Model_lay_9   : Nat → T_Model → Int64 → Int64 → Option O_Model_lay
  | 0, _, _, _ => none
  | n + 1, v0, x1, x3 => (if (lg_cmp x3 (0 : Int64)) ≤ 0 then some v0 else if ¬ x3 = 0 then (if 0 < ((x1 / x3) - (x1 / x3) / (10 : Int64) * (10 : Int64)).toInt32 then f_Model_lay_37 (f_Model_lay_9  n) v0 x1 x3 (((x1 / x3) - (x1 / x3) / (10 : Int64) * (10 : Int64)).toInt32) else (if v0.2.2.2.2.2.2.2.2.2.2.2.2.2.2.1 ≤ 0 then f_Model_lay_58 (f_Model_lay_9  n) v0 x1 x3 else f_Model_lay_37 (f_Model_lay_9  n) v0 x1 x3 (((x1 / x3) - (x1 / x3) / (10 : Int64) * (10 : Int64)).toInt32))) else none)
set_option maxHeartbeats 4000000 in
set_option maxRecDepth 100000 in
theorem w_Model_lay_9 {p : Program} {l : Launch} {e : Env} {s : State} {m : MethodId} {args : Array Value} {below : List Frame} {meth : Method} {c : Code} {A : Nat → Prop} {D : va_G} {cC cI : ClassId} {a0_0 a0_1 a0_2 a0_3 a0_4 a0_5 a0_6 a0_7 : Nat} (X : xCX p s m args meth c A D cC cI b_Model_lay 6 R_Model none) {out : O_Model_lay}   : ∀ n : Nat, J_Model_lay_9 p l e s m args below meth c A D cC cI a0_0 a0_1 a0_2 a0_3 a0_4 a0_5 a0_6 a0_7 out (f_Model_lay_9   n) := by
  obtain ⟨hx, hb, hml, hown, htB, ⟨hK, hN⟩, hZ, hA, hr, hlocks⟩ := id X
  intro n
  induction n with
  | zero =>
    intro v0 x1 x3 ls H locs h hl hP hD hS
    cases h
  | succ n ih =>
    intro v0 x1 x3 ls H locs h hl hP hD hS
    refine lv_lload_n hx hb d_Model_lay_9 rfl (lv_at hl 2 rfl) ?_
    refine lv_lconst (v := 0) hx hb d_Model_lay_10 (by decide) ?_
    refine W.lcmp hx hb d_Model_lay_11 ?_
    refine lv_if_le (tgt := 67) hx hb d_Model_lay_12 rfl (fun hc => ?_) (fun hc => ?_)
    · have h := (if_pos hc).symm.trans h
      obtain rfl := Option.some.inj h
      exact W.vret hx hb hr (fun t ht hW => ⟨⟨(), rfl, trivial, by rw [ht]; exact hP, hD⟩, hS.F ht⟩) hS.2.2 d_Model_lay_67 hlocks
    have h := (if_neg hc).symm.trans h
    refine lv_lload_n hx hb d_Model_lay_15 rfl (lv_at hl 1 rfl) ?_
    refine lv_lload_n hx hb d_Model_lay_16 rfl (lv_at hl 2 rfl) ?_
    obtain ⟨hc, h⟩ := x_chk h
    refine lv_ldiv hx hb d_Model_lay_17 hc ?_
    refine lv_ldc2 (v := 10) hx hb hown (htB _ b_384) d_Model_lay_18 ?_
    refine lv_lrem hx hb d_Model_lay_21 (by decide) ?_
    refine lv_l2i hx hb d_Model_lay_22 rfl ?_
    refine lv_istore (lv' := [(5, .int (((x1 / x3) - (x1 / x3) / (10 : Int64) * (10 : Int64)).toInt32)), (0, .ref a0_0), (1, .long x1), (3, .long x3)]) hx hb d_Model_lay_23 hl (by decide) rfl (fun ls hl => ?_)
    refine lv_iload hx hb d_Model_lay_25 (lv_at hl 0 rfl) ?_
    refine lv_if_gt (tgt := 37) hx hb d_Model_lay_27 rfl (fun hc => ?_) (fun hc => ?_)
    · have h := (if_pos hc).symm.trans h
      exact w_Model_lay_37 X ih v0 x1 x3 (((x1 / x3) - (x1 / x3) / (10 : Int64) * (10 : Int64)).toInt32) ls H locs h (lv_sub hl [1, 2, 3, 0] rfl) hP hD hS
    have h := (if_neg hc).symm.trans h
    refine lv_aload_n hx hb d_Model_lay_30 rfl (lv_at hl 1 rfl) ?_
    refine va_get (D := D) (ci := 11) (v := .int v0.2.2.2.2.2.2.2.2.2.2.2.2.2.2.1) (C := R_Model) (T := F_Model) (N := 23) hx hb htB in_Model hown hK hP 0 rfl rfl 14 (by decide) (htB _ b_382) (fun _ h9 => h9) rfl d_Model_lay_31 ?_
    refine lv_if_le (tgt := 58) hx hb d_Model_lay_34 rfl (fun hc => ?_) (fun hc => ?_)
    · have h := (if_pos hc).symm.trans h
      exact w_Model_lay_58 X ih v0 x1 x3 ls H locs h (lv_sub hl [1, 2, 3] rfl) hP hD hS
    have h := (if_neg hc).symm.trans h
    exact w_Model_lay_37 X ih v0 x1 x3 (((x1 / x3) - (x1 / x3) / (10 : Int64) * (10 : Int64)).toInt32) ls H locs h (lv_sub hl [1, 2, 3, 0] rfl) hP hD hS

def f_Model_lay (v0 : T_Model) (v1 : Int64) : Option O_Model_lay := f_Model_lay_9 FU (v0.1, v0.2.1, v0.2.2.1, v0.2.2.2.1, v0.2.2.2.2.1, v0.2.2.2.2.2.1, v0.2.2.2.2.2.2.1, v0.2.2.2.2.2.2.2.1, v0.2.2.2.2.2.2.2.2.1, v0.2.2.2.2.2.2.2.2.2.1, v0.2.2.2.2.2.2.2.2.2.2.1, v0.2.2.2.2.2.2.2.2.2.2.2.1, v0.2.2.2.2.2.2.2.2.2.2.2.2.1, v0.2.2.2.2.2.2.2.2.2.2.2.2.2.1, (0 : Int32), v0.2.2.2.2.2.2.2.2.2.2.2.2.2.2.2.1, v0.2.2.2.2.2.2.2.2.2.2.2.2.2.2.2.2.1, v0.2.2.2.2.2.2.2.2.2.2.2.2.2.2.2.2.2.1, v0.2.2.2.2.2.2.2.2.2.2.2.2.2.2.2.2.2.2.1, v0.2.2.2.2.2.2.2.2.2.2.2.2.2.2.2.2.2.2.2.1, v0.2.2.2.2.2.2.2.2.2.2.2.2.2.2.2.2.2.2.2.2.1, v0.2.2.2.2.2.2.2.2.2.2.2.2.2.2.2.2.2.2.2.2.2.1, v0.2.2.2.2.2.2.2.2.2.2.2.2.2.2.2.2.2.2.2.2.2.2) v1 (100000000000000000 : Int64)
set_option maxHeartbeats 4000000 in
set_option maxRecDepth 100000 in
theorem w_Model_lay {p : Program} {l : Launch} {e : Env} {s : State} {m : MethodId} {args : Array Value} {below : List Frame} {meth : Method} {c : Code} {A : Nat → Prop} {D : va_G} {cC cI : ClassId} {a0_0 a0_1 a0_2 a0_3 a0_4 a0_5 a0_6 a0_7 : Nat} (X : xCX p s m args meth c A D cC cI b_Model_lay 6 R_Model none) {out : O_Model_lay} (v0 : T_Model) (v1 : Int64) {ls : Array Slot} {H : Heap} {locs : List Loc} (h : f_Model_lay v0 v1 = some out) (hl : lv_has ls 6 [(0, .ref a0_0), (1, .long v1)]) (hP : va_P D classes (wd_Model_lay cC cI a0_0 a0_1 a0_2 a0_3 a0_4 a0_5 a0_6 a0_7 v0) H) (hD : va_D A (wd_Model_lay cC cI a0_0 a0_1 a0_2 a0_3 a0_4 a0_5 a0_6 a0_7 v0)) (hS : va_S A s.heap H locs) : W p l e rm_Model_lay s m args below meth c H locs 0 0 (MQ below (q_Model_lay D cC cI a0_0 a0_1 a0_2 a0_3 a0_4 a0_5 a0_6 a0_7 out A) args s 0 0 A) (F0 m 0 ls []) := by
  obtain ⟨hx, hb, hml, hown, htB, ⟨hK, hN⟩, hZ, hA, hr, hlocks⟩ := id X
  refine lv_aload_n hx hb d_Model_lay_0 rfl (lv_at hl 0 rfl) ?_
  refine lv_iconst (v := 0) hx hb d_Model_lay_1 (by decide) ?_
  refine va_put (D := D) (ci := 11) (v := .int (0 : Int32)) (ty := .int) (C := R_Model) (T := F_Model) (N := 23) hx hb htB in_Model t_Model t_Model_ok n_Model hown hK hP hD hS 0 rfl rfl 14 (by decide) (htB _ b_382) (fun _ h9 => h9) rfl (by decide +kernel) rfl rfl (Nat.le_of_ble_eq_true rfl) d_Model_lay_2 (fun H locs hP hD hS => ?_)
  have hP : va_P D classes (wd_Model_lay cC cI a0_0 a0_1 a0_2 a0_3 a0_4 a0_5 a0_6 a0_7 (v0.1, v0.2.1, v0.2.2.1, v0.2.2.2.1, v0.2.2.2.2.1, v0.2.2.2.2.2.1, v0.2.2.2.2.2.2.1, v0.2.2.2.2.2.2.2.1, v0.2.2.2.2.2.2.2.2.1, v0.2.2.2.2.2.2.2.2.2.1, v0.2.2.2.2.2.2.2.2.2.2.1, v0.2.2.2.2.2.2.2.2.2.2.2.1, v0.2.2.2.2.2.2.2.2.2.2.2.2.1, v0.2.2.2.2.2.2.2.2.2.2.2.2.2.1, (0 : Int32), v0.2.2.2.2.2.2.2.2.2.2.2.2.2.2.2.1, v0.2.2.2.2.2.2.2.2.2.2.2.2.2.2.2.2.1, v0.2.2.2.2.2.2.2.2.2.2.2.2.2.2.2.2.2.1, v0.2.2.2.2.2.2.2.2.2.2.2.2.2.2.2.2.2.2.1, v0.2.2.2.2.2.2.2.2.2.2.2.2.2.2.2.2.2.2.2.1, v0.2.2.2.2.2.2.2.2.2.2.2.2.2.2.2.2.2.2.2.2.1, v0.2.2.2.2.2.2.2.2.2.2.2.2.2.2.2.2.2.2.2.2.2.1, v0.2.2.2.2.2.2.2.2.2.2.2.2.2.2.2.2.2.2.2.2.2.2)) H := hP
  have hD : va_D A (wd_Model_lay cC cI a0_0 a0_1 a0_2 a0_3 a0_4 a0_5 a0_6 a0_7 (v0.1, v0.2.1, v0.2.2.1, v0.2.2.2.1, v0.2.2.2.2.1, v0.2.2.2.2.2.1, v0.2.2.2.2.2.2.1, v0.2.2.2.2.2.2.2.1, v0.2.2.2.2.2.2.2.2.1, v0.2.2.2.2.2.2.2.2.2.1, v0.2.2.2.2.2.2.2.2.2.2.1, v0.2.2.2.2.2.2.2.2.2.2.2.1, v0.2.2.2.2.2.2.2.2.2.2.2.2.1, v0.2.2.2.2.2.2.2.2.2.2.2.2.2.1, (0 : Int32), v0.2.2.2.2.2.2.2.2.2.2.2.2.2.2.2.1, v0.2.2.2.2.2.2.2.2.2.2.2.2.2.2.2.2.1, v0.2.2.2.2.2.2.2.2.2.2.2.2.2.2.2.2.2.1, v0.2.2.2.2.2.2.2.2.2.2.2.2.2.2.2.2.2.2.1, v0.2.2.2.2.2.2.2.2.2.2.2.2.2.2.2.2.2.2.2.1, v0.2.2.2.2.2.2.2.2.2.2.2.2.2.2.2.2.2.2.2.2.1, v0.2.2.2.2.2.2.2.2.2.2.2.2.2.2.2.2.2.2.2.2.2.1, v0.2.2.2.2.2.2.2.2.2.2.2.2.2.2.2.2.2.2.2.2.2.2)) := hD
  refine lv_ldc2 (v := 100000000000000000) hx hb hown (htB _ b_383) d_Model_lay_5 ?_
  refine lv_lstore_n (lv' := [(3, .long (100000000000000000 : Int64)), (0, .ref a0_0), (1, .long v1)]) hx hb d_Model_lay_8 rfl hl (by decide) rfl (fun ls hl => ?_)
  exact w_Model_lay_9 X FU (v0.1, v0.2.1, v0.2.2.1, v0.2.2.2.1, v0.2.2.2.2.1, v0.2.2.2.2.2.1, v0.2.2.2.2.2.2.1, v0.2.2.2.2.2.2.2.1, v0.2.2.2.2.2.2.2.2.1, v0.2.2.2.2.2.2.2.2.2.1, v0.2.2.2.2.2.2.2.2.2.2.1, v0.2.2.2.2.2.2.2.2.2.2.2.1, v0.2.2.2.2.2.2.2.2.2.2.2.2.1, v0.2.2.2.2.2.2.2.2.2.2.2.2.2.1, (0 : Int32), v0.2.2.2.2.2.2.2.2.2.2.2.2.2.2.2.1, v0.2.2.2.2.2.2.2.2.2.2.2.2.2.2.2.2.1, v0.2.2.2.2.2.2.2.2.2.2.2.2.2.2.2.2.2.1, v0.2.2.2.2.2.2.2.2.2.2.2.2.2.2.2.2.2.2.1, v0.2.2.2.2.2.2.2.2.2.2.2.2.2.2.2.2.2.2.2.1, v0.2.2.2.2.2.2.2.2.2.2.2.2.2.2.2.2.2.2.2.2.1, v0.2.2.2.2.2.2.2.2.2.2.2.2.2.2.2.2.2.2.2.2.2.1, v0.2.2.2.2.2.2.2.2.2.2.2.2.2.2.2.2.2.2.2.2.2.2) v1 (100000000000000000 : Int64) ls H locs h (lv_sub hl [1, 2, 0] rfl) hP hD hS

set_option maxHeartbeats 4000000 in
set_option maxRecDepth 100000 in
theorem c_Model_lay (l : Launch) (D : va_G) (cC cI : ClassId) (sz : Nat) (a0_0 a0_1 a0_2 a0_3 a0_4 a0_5 a0_6 a0_7 : Nat) (v0 : T_Model) (v1 : Int64) (out : O_Model_lay) (h : f_Model_lay v0 v1 = some out) : Met l y_Model_lay (.code y_Model_lay b_Model_lay 6 none :: BIG) rm_Model_lay (va_Pc [.ref a0_0, .long v1] (xPre D cC cI (wd_Model_lay cC cI a0_0 a0_1 a0_2 a0_3 a0_4 a0_5 a0_6 a0_7 v0) sz)) (q_Model_lay D cC cI a0_0 a0_1 a0_2 a0_3 a0_4 a0_5 a0_6 a0_7 out (va_A (wd_Model_lay cC cI a0_0 a0_1 a0_2 a0_3 a0_4 a0_5 a0_6 a0_7 v0) sz)) 0 0 (va_A (wd_Model_lay cC cI a0_0 a0_1 a0_2 a0_3 a0_4 a0_5 a0_6 a0_7 v0) sz) := by
  refine Met.ofW (cc := b_Model_lay) (maxL := 6) (ret := none) (by decide) rfl ?_
  intro p e s m args below meth c s₁ B hml hv
  obtain ⟨rfl, rfl, hP, hD0, hG, hZ⟩ := hv
  have hl := lv_entry [.ref a0_0, .long v1] (n := 6) (Nat.le_of_ble_eq_true rfl)
  rw [lg_entry_eq]
  exact w_Model_lay (x_cx B hml hG hZ) v0 v1 h hl hP hD0.self va_S.rf

abbrev wd_Model_rest (cC cI : ClassId) (a0_0 a0_1 a0_2 a0_3 a0_4 a0_5 a0_6 a0_7 : Nat) (v0 : T_Model) : va_W := [(a0_0, .inr (11, [.ref a0_1, .int v0.2.1, .ref a0_2, .int v0.2.2.2.1, .int v0.2.2.2.2.1, .int v0.2.2.2.2.2.1, .ref a0_3, .ref a0_4, .ref a0_5, .int v0.2.2.2.2.2.2.2.2.2.1, .int v0.2.2.2.2.2.2.2.2.2.2.1, .int v0.2.2.2.2.2.2.2.2.2.2.2.1, .int v0.2.2.2.2.2.2.2.2.2.2.2.2.1, .ref a0_6, .int v0.2.2.2.2.2.2.2.2.2.2.2.2.2.2.1, .int v0.2.2.2.2.2.2.2.2.2.2.2.2.2.2.2.1, .int v0.2.2.2.2.2.2.2.2.2.2.2.2.2.2.2.2.1, .ref a0_7, .long v0.2.2.2.2.2.2.2.2.2.2.2.2.2.2.2.2.2.2.1, .int v0.2.2.2.2.2.2.2.2.2.2.2.2.2.2.2.2.2.2.2.1, .long v0.2.2.2.2.2.2.2.2.2.2.2.2.2.2.2.2.2.2.2.2.1, .int v0.2.2.2.2.2.2.2.2.2.2.2.2.2.2.2.2.2.2.2.2.2.1, .int v0.2.2.2.2.2.2.2.2.2.2.2.2.2.2.2.2.2.2.2.2.2.2])), (a0_1, .inl (cC, 120, .inl v0.1)), (a0_2, .inl (cC, 200, .inl v0.2.2.1)), (a0_3, .inl (cI, 160, .inl v0.2.2.2.2.2.2.1)), (a0_4, .inl (cI, 4, .inl v0.2.2.2.2.2.2.2.1)), (a0_5, .inl (cI, 7, .inl v0.2.2.2.2.2.2.2.2.1)), (a0_6, .inl (cI, 40, .inl v0.2.2.2.2.2.2.2.2.2.2.2.2.2.1)), (a0_7, .inl (cI, 6, .inl v0.2.2.2.2.2.2.2.2.2.2.2.2.2.2.2.2.2.1))]
abbrev O_Model_rest : Type := Int32
abbrev q_Model_rest (D : va_G) (cC cI : ClassId) (a0_0 a0_1 a0_2 a0_3 a0_4 a0_5 a0_6 a0_7 : Nat) (v0 : T_Model) (out : O_Model_rest) (A : Nat → Prop) : Array Value → State → Outcome → State → Prop := va_Qi (fun r (_ : Unit) => r = out) (fun _ t => va_P D classes (wd_Model_rest cC cI a0_0 a0_1 a0_2 a0_3 a0_4 a0_5 a0_6 a0_7 v0) t.heap ∧ va_D A (wd_Model_rest cC cI a0_0 a0_1 a0_2 a0_3 a0_4 a0_5 a0_6 a0_7 v0)) A
abbrev rm_Model_rest : Room := { frames := 0, cells := 0, slots := 0, locals := 0 }
def J_Model_rest_14 (p : Program) (l : Launch) (e : Env) (s : State) (m : MethodId) (args : Array Value) (below : List Frame) (meth : Method) (c : Code) (A : Nat → Prop) (D : va_G) (cC cI : ClassId) (a0_0 a0_1 a0_2 a0_3 a0_4 a0_5 a0_6 a0_7 : Nat) (v0 : T_Model) (out : O_Model_rest) (k : Int32 → Int32 → Option O_Model_rest) : Prop := ∀ (x1 : Int32) (s0 : Int32) (ls : Array Slot) (H : Heap) (locs : List Loc), k x1 s0 = some out → lv_has ls 5 [(0, .ref a0_0), (1, .int x1)] → va_P D classes (wd_Model_rest cC cI a0_0 a0_1 a0_2 a0_3 a0_4 a0_5 a0_6 a0_7 v0) H → va_D A (wd_Model_rest cC cI a0_0 a0_1 a0_2 a0_3 a0_4 a0_5 a0_6 a0_7 v0) → va_S A s.heap H locs → W p l e rm_Model_rest s m args below meth c H locs 0 0 (MQ below (q_Model_rest D cC cI a0_0 a0_1 a0_2 a0_3 a0_4 a0_5 a0_6 a0_7 v0 out A) args s 0 0 A) (F0 m 14 ls [.int s0])
def J_Model_rest_28 (p : Program) (l : Launch) (e : Env) (s : State) (m : MethodId) (args : Array Value) (below : List Frame) (meth : Method) (c : Code) (A : Nat → Prop) (D : va_G) (cC cI : ClassId) (a0_0 a0_1 a0_2 a0_3 a0_4 a0_5 a0_6 a0_7 : Nat) (v0 : T_Model) (out : O_Model_rest) (k : Int32 → Int32 → Int32 → Option O_Model_rest) : Prop := ∀ (x2 : Int32) (x3 : Int32) (s0 : Int32) (ls : Array Slot) (H : Heap) (locs : List Loc), k x2 x3 s0 = some out → lv_has ls 5 [(0, .ref a0_0), (2, .int x2), (3, .int x3)] → va_P D classes (wd_Model_rest cC cI a0_0 a0_1 a0_2 a0_3 a0_4 a0_5 a0_6 a0_7 v0) H → va_D A (wd_Model_rest cC cI a0_0 a0_1 a0_2 a0_3 a0_4 a0_5 a0_6 a0_7 v0) → va_S A s.heap H locs → W p l e rm_Model_rest s m args below meth c H locs 0 0 (MQ below (q_Model_rest D cC cI a0_0 a0_1 a0_2 a0_3 a0_4 a0_5 a0_6 a0_7 v0 out A) args s 0 0 A) (F0 m 28 ls [.int s0])
def J_Model_rest_30 (p : Program) (l : Launch) (e : Env) (s : State) (m : MethodId) (args : Array Value) (below : List Frame) (meth : Method) (c : Code) (A : Nat → Prop) (D : va_G) (cC cI : ClassId) (a0_0 a0_1 a0_2 a0_3 a0_4 a0_5 a0_6 a0_7 : Nat) (v0 : T_Model) (out : O_Model_rest) (k : Int32 → Int32 → Int32 → Option O_Model_rest) : Prop := ∀ (x2 : Int32) (x3 : Int32) (x4 : Int32) (ls : Array Slot) (H : Heap) (locs : List Loc), k x2 x3 x4 = some out → lv_has ls 5 [(0, .ref a0_0), (2, .int x2), (3, .int x3), (4, .int x4)] → va_P D classes (wd_Model_rest cC cI a0_0 a0_1 a0_2 a0_3 a0_4 a0_5 a0_6 a0_7 v0) H → va_D A (wd_Model_rest cC cI a0_0 a0_1 a0_2 a0_3 a0_4 a0_5 a0_6 a0_7 v0) → va_S A s.heap H locs → W p l e rm_Model_rest s m args below meth c H locs 0 0 (MQ below (q_Model_rest D cC cI a0_0 a0_1 a0_2 a0_3 a0_4 a0_5 a0_6 a0_7 v0 out A) args s 0 0 A) (F0 m 30 ls [])
def J_Model_rest_75 (p : Program) (l : Launch) (e : Env) (s : State) (m : MethodId) (args : Array Value) (below : List Frame) (meth : Method) (c : Code) (A : Nat → Prop) (D : va_G) (cC cI : ClassId) (a0_0 a0_1 a0_2 a0_3 a0_4 a0_5 a0_6 a0_7 : Nat) (v0 : T_Model) (out : O_Model_rest) (k : Int32 → Int32 → Option O_Model_rest) : Prop := ∀ (x2 : Int32) (x3 : Int32) (ls : Array Slot) (H : Heap) (locs : List Loc), k x2 x3 = some out → lv_has ls 5 [(2, .int x2), (3, .int x3)] → va_P D classes (wd_Model_rest cC cI a0_0 a0_1 a0_2 a0_3 a0_4 a0_5 a0_6 a0_7 v0) H → va_D A (wd_Model_rest cC cI a0_0 a0_1 a0_2 a0_3 a0_4 a0_5 a0_6 a0_7 v0) → va_S A s.heap H locs → W p l e rm_Model_rest s m args below meth c H locs 0 0 (MQ below (q_Model_rest D cC cI a0_0 a0_1 a0_2 a0_3 a0_4 a0_5 a0_6 a0_7 v0 out A) args s 0 0 A) (F0 m 75 ls [])
def J_Model_rest_93 (p : Program) (l : Launch) (e : Env) (s : State) (m : MethodId) (args : Array Value) (below : List Frame) (meth : Method) (c : Code) (A : Nat → Prop) (D : va_G) (cC cI : ClassId) (a0_0 a0_1 a0_2 a0_3 a0_4 a0_5 a0_6 a0_7 : Nat) (v0 : T_Model) (out : O_Model_rest) (k : Option O_Model_rest) : Prop := ∀  (ls : Array Slot) (H : Heap) (locs : List Loc), k  = some out → lv_has ls 5 [] → va_P D classes (wd_Model_rest cC cI a0_0 a0_1 a0_2 a0_3 a0_4 a0_5 a0_6 a0_7 v0) H → va_D A (wd_Model_rest cC cI a0_0 a0_1 a0_2 a0_3 a0_4 a0_5 a0_6 a0_7 v0) → va_S A s.heap H locs → W p l e rm_Model_rest s m args below meth c H locs 0 0 (MQ below (q_Model_rest D cC cI a0_0 a0_1 a0_2 a0_3 a0_4 a0_5 a0_6 a0_7 v0 out A) args s 0 0 A) (F0 m 93 ls [])
def J_Model_rest_98 (p : Program) (l : Launch) (e : Env) (s : State) (m : MethodId) (args : Array Value) (below : List Frame) (meth : Method) (c : Code) (A : Nat → Prop) (D : va_G) (cC cI : ClassId) (a0_0 a0_1 a0_2 a0_3 a0_4 a0_5 a0_6 a0_7 : Nat) (v0 : T_Model) (out : O_Model_rest) (k : Int32 → Option O_Model_rest) : Prop := ∀ (s0 : Int32) (ls : Array Slot) (H : Heap) (locs : List Loc), k s0 = some out → lv_has ls 5 [] → va_P D classes (wd_Model_rest cC cI a0_0 a0_1 a0_2 a0_3 a0_4 a0_5 a0_6 a0_7 v0) H → va_D A (wd_Model_rest cC cI a0_0 a0_1 a0_2 a0_3 a0_4 a0_5 a0_6 a0_7 v0) → va_S A s.heap H locs → W p l e rm_Model_rest s m args below meth c H locs 0 0 (MQ below (q_Model_rest D cC cI a0_0 a0_1 a0_2 a0_3 a0_4 a0_5 a0_6 a0_7 v0 out A) args s 0 0 A) (F0 m 98 ls [.int s0])
def f_Model_rest_98 (v0 : T_Model) (s0 : Int32) : Option O_Model_rest := some s0
set_option maxHeartbeats 4000000 in
set_option maxRecDepth 100000 in
theorem w_Model_rest_98 {p : Program} {l : Launch} {e : Env} {s : State} {m : MethodId} {args : Array Value} {below : List Frame} {meth : Method} {c : Code} {A : Nat → Prop} {D : va_G} {cC cI : ClassId} {a0_0 a0_1 a0_2 a0_3 a0_4 a0_5 a0_6 a0_7 : Nat} {v0 : T_Model} (X : xCX p s m args meth c A D cC cI b_Model_rest 5 R_Model (some .int)) {out : O_Model_rest}   : J_Model_rest_98 p l e s m args below meth c A D cC cI a0_0 a0_1 a0_2 a0_3 a0_4 a0_5 a0_6 a0_7 v0 out (f_Model_rest_98 v0 ) := by
  obtain ⟨hx, hb, hml, hown, htB, ⟨hK, hN⟩, hZ, hA, hr, hlocks⟩ := id X
  intro s0 ls H locs h hl hP hD hS
  obtain rfl := Option.some.inj h
  exact W.iret (v := s0) hx hb hr (fun t ht hW => ⟨⟨s0, (), rfl, rfl, by rw [ht]; exact hP, hD⟩, hS.F ht⟩) hS.2.2 d_Model_rest_98 hlocks

def f_Model_rest_93 (v0 : T_Model) : Option O_Model_rest := f_Model_rest_98 v0 (3 : Int32)
set_option maxHeartbeats 4000000 in
set_option maxRecDepth 100000 in
theorem w_Model_rest_93 {p : Program} {l : Launch} {e : Env} {s : State} {m : MethodId} {args : Array Value} {below : List Frame} {meth : Method} {c : Code} {A : Nat → Prop} {D : va_G} {cC cI : ClassId} {a0_0 a0_1 a0_2 a0_3 a0_4 a0_5 a0_6 a0_7 : Nat} {v0 : T_Model} (X : xCX p s m args meth c A D cC cI b_Model_rest 5 R_Model (some .int)) {out : O_Model_rest}   : J_Model_rest_93 p l e s m args below meth c A D cC cI a0_0 a0_1 a0_2 a0_3 a0_4 a0_5 a0_6 a0_7 v0 out (f_Model_rest_93 v0 ) := by
  obtain ⟨hx, hb, hml, hown, htB, ⟨hK, hN⟩, hZ, hA, hr, hlocks⟩ := id X
  intro  ls H locs h hl hP hD hS
  refine lv_iconst (v := 3) hx hb d_Model_rest_93 (by decide) ?_
  refine lv_goto (tgt := 98) hx hb d_Model_rest_94 rfl ?_
  exact w_Model_rest_98 X (3 : Int32) ls H locs h (lv_sub hl [] rfl) hP hD hS

def f_Model_rest_75 (v0 : T_Model) (x2 : Int32) (x3 : Int32) : Option O_Model_rest := (if (5 : Int32) ≤ x2 then (if (5 : Int32) < x2 then f_Model_rest_93 v0 else (if x3 = 0 then f_Model_rest_98 v0 (2 : Int32) else f_Model_rest_93 v0)) else f_Model_rest_98 v0 (1 : Int32))
set_option maxHeartbeats 4000000 in
set_option maxRecDepth 100000 in
theorem w_Model_rest_75 {p : Program} {l : Launch} {e : Env} {s : State} {m : MethodId} {args : Array Value} {below : List Frame} {meth : Method} {c : Code} {A : Nat → Prop} {D : va_G} {cC cI : ClassId} {a0_0 a0_1 a0_2 a0_3 a0_4 a0_5 a0_6 a0_7 : Nat} {v0 : T_Model} (X : xCX p s m args meth c A D cC cI b_Model_rest 5 R_Model (some .int)) {out : O_Model_rest}   : J_Model_rest_75 p l e s m args below meth c A D cC cI a0_0 a0_1 a0_2 a0_3 a0_4 a0_5 a0_6 a0_7 v0 out (f_Model_rest_75 v0 ) := by
  obtain ⟨hx, hb, hml, hown, htB, ⟨hK, hN⟩, hZ, hA, hr, hlocks⟩ := id X
  intro x2 x3 ls H locs h hl hP hD hS
  refine lv_iload_n hx hb d_Model_rest_75 rfl (lv_at hl 0 rfl) ?_
  refine lv_iconst (v := 5) hx hb d_Model_rest_76 (by decide) ?_
  refine lv_icmp_ge (tgt := 84) hx hb d_Model_rest_77 rfl (fun hc => ?_) (fun hc => ?_)
  · have h := (if_pos hc).symm.trans h
    refine lv_iload_n hx hb d_Model_rest_84 rfl (lv_at hl 0 rfl) ?_
    refine lv_iconst (v := 5) hx hb d_Model_rest_85 (by decide) ?_
    refine lv_icmp_gt (tgt := 93) hx hb d_Model_rest_86 rfl (fun hc => ?_) (fun hc => ?_)
    · have h := (if_pos hc).symm.trans h
      exact w_Model_rest_93 X ls H locs h (lv_sub hl [] rfl) hP hD hS
    have h := (if_neg hc).symm.trans h
    refine lv_iload_n hx hb d_Model_rest_89 rfl (lv_at hl 1 rfl) ?_
    refine lv_if_eq (tgt := 97) hx hb d_Model_rest_90 rfl (fun hc => ?_) (fun hc => ?_)
    · have h := (if_pos hc).symm.trans h
      refine lv_iconst (v := 2) hx hb d_Model_rest_97 (by decide) ?_
      exact w_Model_rest_98 X (2 : Int32) ls H locs h (lv_sub hl [] rfl) hP hD hS
    have h := (if_neg hc).symm.trans h
    exact w_Model_rest_93 X ls H locs h (lv_sub hl [] rfl) hP hD hS
  have h := (if_neg hc).symm.trans h
  refine lv_iconst (v := 1) hx hb d_Model_rest_80 (by decide) ?_
  refine lv_goto (tgt := 98) hx hb d_Model_rest_81 rfl ?_
  exact w_Model_rest_98 X (1 : Int32) ls H locs h (lv_sub hl [] rfl) hP hD hS

def J_Model_rest_53 (p : Program) (l : Launch) (e : Env) (s : State) (m : MethodId) (args : Array Value) (below : List Frame) (meth : Method) (c : Code) (A : Nat → Prop) (D : va_G) (cC cI : ClassId) (a0_0 a0_1 a0_2 a0_3 a0_4 a0_5 a0_6 a0_7 : Nat) (v0 : T_Model) (out : O_Model_rest) (k : Int32 → Int32 → Option O_Model_rest) : Prop := ∀ (x2 : Int32) (x4 : Int32) (ls : Array Slot) (H : Heap) (locs : List Loc), k x2 x4 = some out → lv_has ls 5 [(0, .ref a0_0), (2, .int x2), (4, .int x4)] → va_P D classes (wd_Model_rest cC cI a0_0 a0_1 a0_2 a0_3 a0_4 a0_5 a0_6 a0_7 v0) H → va_D A (wd_Model_rest cC cI a0_0 a0_1 a0_2 a0_3 a0_4 a0_5 a0_6 a0_7 v0) → va_S A s.heap H locs → W p l e rm_Model_rest s m args below meth c H locs 0 0 (MQ below (q_Model_rest D cC cI a0_0 a0_1 a0_2 a0_3 a0_4 a0_5 a0_6 a0_7 v0 out A) args s 0 0 A) (F0 m 53 ls [])
def J_Model_rest_58 (p : Program) (l : Launch) (e : Env) (s : State) (m : MethodId) (args : Array Value) (below : List Frame) (meth : Method) (c : Code) (A : Nat → Prop) (D : va_G) (cC cI : ClassId) (a0_0 a0_1 a0_2 a0_3 a0_4 a0_5 a0_6 a0_7 : Nat) (v0 : T_Model) (out : O_Model_rest) (k : Int32 → Int32 → Int32 → Option O_Model_rest) : Prop := ∀ (x2 : Int32) (x4 : Int32) (s0 : Int32) (ls : Array Slot) (H : Heap) (locs : List Loc), k x2 x4 s0 = some out → lv_has ls 5 [(0, .ref a0_0), (2, .int x2), (4, .int x4)] → va_P D classes (wd_Model_rest cC cI a0_0 a0_1 a0_2 a0_3 a0_4 a0_5 a0_6 a0_7 v0) H → va_D A (wd_Model_rest cC cI a0_0 a0_1 a0_2 a0_3 a0_4 a0_5 a0_6 a0_7 v0) → va_S A s.heap H locs → W p l e rm_Model_rest s m args below meth c H locs 0 0 (MQ below (q_Model_rest D cC cI a0_0 a0_1 a0_2 a0_3 a0_4 a0_5 a0_6 a0_7 v0 out A) args s 0 0 A) (F0 m 58 ls [.int s0])
def f_Model_rest_58 (v0 : T_Model) (k30 : Int32 → Int32 → Int32 → Option O_Model_rest) (x2 : Int32) (x4 : Int32) (s0 : Int32) : Option O_Model_rest := k30 x2 s0 (x4 + (1 : Int32))
set_option maxHeartbeats 4000000 in
set_option maxRecDepth 100000 in
theorem w_Model_rest_58 {p : Program} {l : Launch} {e : Env} {s : State} {m : MethodId} {args : Array Value} {below : List Frame} {meth : Method} {c : Code} {A : Nat → Prop} {D : va_G} {cC cI : ClassId} {a0_0 a0_1 a0_2 a0_3 a0_4 a0_5 a0_6 a0_7 : Nat} {v0 : T_Model} (X : xCX p s m args meth c A D cC cI b_Model_rest 5 R_Model (some .int)) {out : O_Model_rest} {k30 : Int32 → Int32 → Int32 → Option O_Model_rest} (hk30 : J_Model_rest_30 p l e s m args below meth c A D cC cI a0_0 a0_1 a0_2 a0_3 a0_4 a0_5 a0_6 a0_7 v0 out k30) : J_Model_rest_58 p l e s m args below meth c A D cC cI a0_0 a0_1 a0_2 a0_3 a0_4 a0_5 a0_6 a0_7 v0 out (f_Model_rest_58 v0 k30) := by
  obtain ⟨hx, hb, hml, hown, htB, ⟨hK, hN⟩, hZ, hA, hr, hlocks⟩ := id X
  intro x2 x4 s0 ls H locs h hl hP hD hS
  refine lv_istore_n (lv' := [(3, .int s0), (0, .ref a0_0), (2, .int x2), (4, .int x4)]) hx hb d_Model_rest_58 rfl hl (by decide) rfl (fun ls hl => ?_)
  refine lv_iinc (k := 3) (v := (x4 + (1 : Int32))) (lv' := [(4, .int (x4 + (1 : Int32))), (3, .int s0), (0, .ref a0_0), (2, .int x2)]) hx hb d_Model_rest_59 hl rfl (congrArg (fun z => x4 + z) (by decide : Int32.ofInt 1 = (1 : Int32))) (by decide) rfl (fun ls hl => ?_)
  refine lv_goto (tgt := 30) hx hb d_Model_rest_62 rfl ?_
  exact hk30 x2 s0 (x4 + (1 : Int32)) ls H locs h (lv_sub hl [2, 3, 1, 0] rfl) hP hD hS

def f_Model_rest_53 (v0 : T_Model) (k30 : Int32 → Int32 → Int32 → Option O_Model_rest) (x2 : Int32) (x4 : Int32) : Option O_Model_rest := f_Model_rest_58 v0 k30 x2 x4 (1 : Int32)
set_option maxHeartbeats 4000000 in
set_option maxRecDepth 100000 in
theorem w_Model_rest_53 {p : Program} {l : Launch} {e : Env} {s : State} {m : MethodId} {args : Array Value} {below : List Frame} {meth : Method} {c : Code} {A : Nat → Prop} {D : va_G} {cC cI : ClassId} {a0_0 a0_1 a0_2 a0_3 a0_4 a0_5 a0_6 a0_7 : Nat} {v0 : T_Model} (X : xCX p s m args meth c A D cC cI b_Model_rest 5 R_Model (some .int)) {out : O_Model_rest} {k30 : Int32 → Int32 → Int32 → Option O_Model_rest} (hk30 : J_Model_rest_30 p l e s m args below meth c A D cC cI a0_0 a0_1 a0_2 a0_3 a0_4 a0_5 a0_6 a0_7 v0 out k30) : J_Model_rest_53 p l e s m args below meth c A D cC cI a0_0 a0_1 a0_2 a0_3 a0_4 a0_5 a0_6 a0_7 v0 out (f_Model_rest_53 v0 k30) := by
  obtain ⟨hx, hb, hml, hown, htB, ⟨hK, hN⟩, hZ, hA, hr, hlocks⟩ := id X
  intro x2 x4 ls H locs h hl hP hD hS
  refine lv_iconst (v := 1) hx hb d_Model_rest_53 (by decide) ?_
  refine lv_goto (tgt := 58) hx hb d_Model_rest_54 rfl ?_
  exact w_Model_rest_58 X hk30 x2 x4 (1 : Int32) ls H locs h (lv_sub hl [0, 1, 2] rfl) hP hD hS

def f_Model_rest_30 (v0 : T_Model)  : Nat → Int32 → Int32 → Int32 → Option O_Model_rest
  | 0, _, _, _ => none
  | n + 1, x2, x3, x4 => (if v0.2.2.2.2.2.2.2.2.2.2.2.2.2.2.1 ≤ x4 then (if x2 = 0 then (if x3 = 0 then some (0 : Int32) else f_Model_rest_75 v0 x2 x3) else f_Model_rest_75 v0 x2 x3) else (if x3 = 0 then if ix x4 40 then (if (v0.2.2.2.2.2.2.2.2.2.2.2.2.2.1 x4.toNatClampNeg) ≤ 0 then f_Model_rest_58 v0 (f_Model_rest_30 v0 n) x2 x4 (0 : Int32) else f_Model_rest_53 v0 (f_Model_rest_30 v0 n) x2 x4) else none else f_Model_rest_53 v0 (f_Model_rest_30 v0 n) x2 x4))
set_option maxHeartbeats 4000000 in
set_option maxRecDepth 100000 in
theorem w_Model_rest_30 {p : Program} {l : Launch} {e : Env} {s : State} {m : MethodId} {args : Array Value} {below : List Frame} {meth : Method} {c : Code} {A : Nat → Prop} {D : va_G} {cC cI : ClassId} {a0_0 a0_1 a0_2 a0_3 a0_4 a0_5 a0_6 a0_7 : Nat} {v0 : T_Model} (X : xCX p s m args meth c A D cC cI b_Model_rest 5 R_Model (some .int)) {out : O_Model_rest}   : ∀ n : Nat, J_Model_rest_30 p l e s m args below meth c A D cC cI a0_0 a0_1 a0_2 a0_3 a0_4 a0_5 a0_6 a0_7 v0 out (f_Model_rest_30 v0  n) := by
  obtain ⟨hx, hb, hml, hown, htB, ⟨hK, hN⟩, hZ, hA, hr, hlocks⟩ := id X
  intro n
  induction n with
  | zero =>
    intro x2 x3 x4 ls H locs h hl hP hD hS
    cases h
  | succ n ih =>
    intro x2 x3 x4 ls H locs h hl hP hD hS
    refine lv_iload hx hb d_Model_rest_30 (lv_at hl 3 rfl) ?_
    refine lv_aload_n hx hb d_Model_rest_32 rfl (lv_at hl 0 rfl) ?_
    refine va_get (D := D) (ci := 11) (v := .int v0.2.2.2.2.2.2.2.2.2.2.2.2.2.2.1) (C := R_Model) (T := F_Model) (N := 23) hx hb htB in_Model hown hK hP 0 rfl rfl 14 (by decide) (htB _ b_382) (fun _ h9 => h9) rfl d_Model_rest_33 ?_
    refine lv_icmp_ge (tgt := 65) hx hb d_Model_rest_36 rfl (fun hc => ?_) (fun hc => ?_)
    · have h := (if_pos hc).symm.trans h
      refine lv_iload_n hx hb d_Model_rest_65 rfl (lv_at hl 1 rfl) ?_
      refine lv_if_ne (tgt := 75) hx hb d_Model_rest_66 rfl (fun hc => ?_) (fun hc => ?_)
      · have h := (if_neg hc).symm.trans h
        exact w_Model_rest_75 X x2 x3 ls H locs h (lv_sub hl [1, 2] rfl) hP hD hS
      have h := (if_pos hc).symm.trans h
      refine lv_iload_n hx hb d_Model_rest_69 rfl (lv_at hl 2 rfl) ?_
      refine lv_if_ne (tgt := 75) hx hb d_Model_rest_70 rfl (fun hc => ?_) (fun hc => ?_)
      · have h := (if_neg hc).symm.trans h
        exact w_Model_rest_75 X x2 x3 ls H locs h (lv_sub hl [1, 2] rfl) hP hD hS
      have h := (if_pos hc).symm.trans h
      refine lv_iconst (v := 0) hx hb d_Model_rest_73 (by decide) ?_
      obtain rfl := Option.some.inj h
      exact W.iret (v := (0 : Int32)) hx hb hr (fun t ht hW => ⟨⟨(0 : Int32), (), rfl, rfl, by rw [ht]; exact hP, hD⟩, hS.F ht⟩) hS.2.2 d_Model_rest_74 hlocks
    have h := (if_neg hc).symm.trans h
    refine lv_iload_n hx hb d_Model_rest_39 rfl (lv_at hl 2 rfl) ?_
    refine lv_if_ne (tgt := 53) hx hb d_Model_rest_40 rfl (fun hc => ?_) (fun hc => ?_)
    · have h := (if_neg hc).symm.trans h
      exact w_Model_rest_53 X ih x2 x4 ls H locs h (lv_sub hl [0, 1, 3] rfl) hP hD hS
    have h := (if_pos hc).symm.trans h
    refine lv_aload_n hx hb d_Model_rest_43 rfl (lv_at hl 0 rfl) ?_
    refine va_get (D := D) (ci := 11) (v := .ref a0_6) (C := R_Model) (T := F_Model) (N := 23) hx hb htB in_Model hown hK hP 0 rfl rfl 13 (by decide) (htB _ b_385) (fun _ h9 => h9) rfl d_Model_rest_44 ?_
    refine lv_iload hx hb d_Model_rest_47 (lv_at hl 3 rfl) ?_
    obtain ⟨hc, h⟩ := x_chk h
    refine va_iald hx hb hK hP 6 1 rfl rfl hc d_Model_rest_49 ?_
    refine lv_if_le (tgt := 57) hx hb d_Model_rest_50 rfl (fun hc => ?_) (fun hc => ?_)
    · have h := (if_pos hc).symm.trans h
      refine lv_iconst (v := 0) hx hb d_Model_rest_57 (by decide) ?_
      exact w_Model_rest_58 X ih x2 x4 (0 : Int32) ls H locs h (lv_sub hl [0, 1, 3] rfl) hP hD hS
    have h := (if_neg hc).symm.trans h
    exact w_Model_rest_53 X ih x2 x4 ls H locs h (lv_sub hl [0, 1, 3] rfl) hP hD hS

def f_Model_rest_28 (v0 : T_Model) (x2 : Int32) (x3 : Int32) (s0 : Int32) : Option O_Model_rest := f_Model_rest_30 v0 FU x2 x3 s0
set_option maxHeartbeats 4000000 in
set_option maxRecDepth 100000 in
theorem w_Model_rest_28 {p : Program} {l : Launch} {e : Env} {s : State} {m : MethodId} {args : Array Value} {below : List Frame} {meth : Method} {c : Code} {A : Nat → Prop} {D : va_G} {cC cI : ClassId} {a0_0 a0_1 a0_2 a0_3 a0_4 a0_5 a0_6 a0_7 : Nat} {v0 : T_Model} (X : xCX p s m args meth c A D cC cI b_Model_rest 5 R_Model (some .int)) {out : O_Model_rest}   : J_Model_rest_28 p l e s m args below meth c A D cC cI a0_0 a0_1 a0_2 a0_3 a0_4 a0_5 a0_6 a0_7 v0 out (f_Model_rest_28 v0 ) := by
  obtain ⟨hx, hb, hml, hown, htB, ⟨hK, hN⟩, hZ, hA, hr, hlocks⟩ := id X
  intro x2 x3 s0 ls H locs h hl hP hD hS
  refine lv_istore (lv' := [(4, .int s0), (0, .ref a0_0), (2, .int x2), (3, .int x3)]) hx hb d_Model_rest_28 hl (by decide) rfl (fun ls hl => ?_)
  exact w_Model_rest_30 X FU x2 x3 s0 ls H locs h (lv_sub hl [1, 2, 3, 0] rfl) hP hD hS

def f_Model_rest_14 (v0 : T_Model) (x1 : Int32) (s0 : Int32) : Option O_Model_rest := (if 0 ≤ x1 then f_Model_rest_28 v0 s0 (0 : Int32) (x1 + (1 : Int32)) else f_Model_rest_28 v0 s0 (0 : Int32) (0 : Int32))
set_option maxHeartbeats 4000000 in
set_option maxRecDepth 100000 in
theorem w_Model_rest_14 {p : Program} {l : Launch} {e : Env} {s : State} {m : MethodId} {args : Array Value} {below : List Frame} {meth : Method} {c : Code} {A : Nat → Prop} {D : va_G} {cC cI : ClassId} {a0_0 a0_1 a0_2 a0_3 a0_4 a0_5 a0_6 a0_7 : Nat} {v0 : T_Model} (X : xCX p s m args meth c A D cC cI b_Model_rest 5 R_Model (some .int)) {out : O_Model_rest}   : J_Model_rest_14 p l e s m args below meth c A D cC cI a0_0 a0_1 a0_2 a0_3 a0_4 a0_5 a0_6 a0_7 v0 out (f_Model_rest_14 v0 ) := by
  obtain ⟨hx, hb, hml, hown, htB, ⟨hK, hN⟩, hZ, hA, hr, hlocks⟩ := id X
  intro x1 s0 ls H locs h hl hP hD hS
  refine lv_istore_n (lv' := [(2, .int s0), (0, .ref a0_0), (1, .int x1)]) hx hb d_Model_rest_14 rfl hl (by decide) rfl (fun ls hl => ?_)
  refine lv_iconst (v := 0) hx hb d_Model_rest_15 (by decide) ?_
  refine lv_istore_n (lv' := [(3, .int (0 : Int32)), (2, .int s0), (0, .ref a0_0), (1, .int x1)]) hx hb d_Model_rest_16 rfl hl (by decide) rfl (fun ls hl => ?_)
  refine lv_iload_n hx hb d_Model_rest_17 rfl (lv_at hl 3 rfl) ?_
  refine lv_if_ge (tgt := 25) hx hb d_Model_rest_18 rfl (fun hc => ?_) (fun hc => ?_)
  · have h := (if_pos hc).symm.trans h
    refine lv_iload_n hx hb d_Model_rest_25 rfl (lv_at hl 3 rfl) ?_
    refine lv_iconst (v := 1) hx hb d_Model_rest_26 (by decide) ?_
    refine lv_iadd hx hb d_Model_rest_27 ?_
    exact w_Model_rest_28 X s0 (0 : Int32) (x1 + (1 : Int32)) ls H locs h (lv_sub hl [2, 1, 0] rfl) hP hD hS
  have h := (if_neg hc).symm.trans h
  refine lv_iconst (v := 0) hx hb d_Model_rest_21 (by decide) ?_
  refine lv_goto (tgt := 28) hx hb d_Model_rest_22 rfl ?_
  exact w_Model_rest_28 X s0 (0 : Int32) (0 : Int32) ls H locs h (lv_sub hl [2, 1, 0] rfl) hP hD hS

def f_Model_rest (v0 : T_Model) (v1 : Int32) : Option O_Model_rest := (if 0 ≤ v1 then if ix v1 40 then f_Model_rest_14 v0 v1 (v0.2.2.2.2.2.2.2.2.2.2.2.2.2.1 v1.toNatClampNeg) else none else f_Model_rest_14 v0 v1 (0 : Int32))
set_option maxHeartbeats 4000000 in
set_option maxRecDepth 100000 in
theorem w_Model_rest {p : Program} {l : Launch} {e : Env} {s : State} {m : MethodId} {args : Array Value} {below : List Frame} {meth : Method} {c : Code} {A : Nat → Prop} {D : va_G} {cC cI : ClassId} {a0_0 a0_1 a0_2 a0_3 a0_4 a0_5 a0_6 a0_7 : Nat} {v0 : T_Model} (X : xCX p s m args meth c A D cC cI b_Model_rest 5 R_Model (some .int)) {out : O_Model_rest} (v1 : Int32) {ls : Array Slot} {H : Heap} {locs : List Loc} (h : f_Model_rest v0 v1 = some out) (hl : lv_has ls 5 [(0, .ref a0_0), (1, .int v1)]) (hP : va_P D classes (wd_Model_rest cC cI a0_0 a0_1 a0_2 a0_3 a0_4 a0_5 a0_6 a0_7 v0) H) (hD : va_D A (wd_Model_rest cC cI a0_0 a0_1 a0_2 a0_3 a0_4 a0_5 a0_6 a0_7 v0)) (hS : va_S A s.heap H locs) : W p l e rm_Model_rest s m args below meth c H locs 0 0 (MQ below (q_Model_rest D cC cI a0_0 a0_1 a0_2 a0_3 a0_4 a0_5 a0_6 a0_7 v0 out A) args s 0 0 A) (F0 m 0 ls []) := by
  obtain ⟨hx, hb, hml, hown, htB, ⟨hK, hN⟩, hZ, hA, hr, hlocks⟩ := id X
  refine lv_iload_n hx hb d_Model_rest_0 rfl (lv_at hl 1 rfl) ?_
  refine lv_if_ge (tgt := 8) hx hb d_Model_rest_1 rfl (fun hc => ?_) (fun hc => ?_)
  · have h := (if_pos hc).symm.trans h
    refine lv_aload_n hx hb d_Model_rest_8 rfl (lv_at hl 0 rfl) ?_
    refine va_get (D := D) (ci := 11) (v := .ref a0_6) (C := R_Model) (T := F_Model) (N := 23) hx hb htB in_Model hown hK hP 0 rfl rfl 13 (by decide) (htB _ b_385) (fun _ h9 => h9) rfl d_Model_rest_9 ?_
    refine lv_iload_n hx hb d_Model_rest_12 rfl (lv_at hl 1 rfl) ?_
    obtain ⟨hc, h⟩ := x_chk h
    refine va_iald hx hb hK hP 6 1 rfl rfl hc d_Model_rest_13 ?_
    exact w_Model_rest_14 X v1 (v0.2.2.2.2.2.2.2.2.2.2.2.2.2.1 v1.toNatClampNeg) ls H locs h (lv_sub hl [0, 1] rfl) hP hD hS
  have h := (if_neg hc).symm.trans h
  refine lv_iconst (v := 0) hx hb d_Model_rest_4 (by decide) ?_
  refine lv_goto (tgt := 14) hx hb d_Model_rest_5 rfl ?_
  exact w_Model_rest_14 X v1 (0 : Int32) ls H locs h (lv_sub hl [0, 1] rfl) hP hD hS

set_option maxHeartbeats 4000000 in
set_option maxRecDepth 100000 in
theorem c_Model_rest (l : Launch) (D : va_G) (cC cI : ClassId) (sz : Nat) (a0_0 a0_1 a0_2 a0_3 a0_4 a0_5 a0_6 a0_7 : Nat) (v0 : T_Model) (v1 : Int32) (out : O_Model_rest) (h : f_Model_rest v0 v1 = some out) : Met l y_Model_rest (.code y_Model_rest b_Model_rest 5 (some .int) :: BIG) rm_Model_rest (va_Pc [.ref a0_0, .int v1] (xPre D cC cI (wd_Model_rest cC cI a0_0 a0_1 a0_2 a0_3 a0_4 a0_5 a0_6 a0_7 v0) sz)) (q_Model_rest D cC cI a0_0 a0_1 a0_2 a0_3 a0_4 a0_5 a0_6 a0_7 v0 out (va_A (wd_Model_rest cC cI a0_0 a0_1 a0_2 a0_3 a0_4 a0_5 a0_6 a0_7 v0) sz)) 0 0 (va_A (wd_Model_rest cC cI a0_0 a0_1 a0_2 a0_3 a0_4 a0_5 a0_6 a0_7 v0) sz) := by
  refine Met.ofW (cc := b_Model_rest) (maxL := 5) (ret := (some .int)) (by decide) rfl ?_
  intro p e s m args below meth c s₁ B hml hv
  obtain ⟨rfl, rfl, hP, hD0, hG, hZ⟩ := hv
  have hl := lv_entry [.ref a0_0, .int v1] (n := 5) (Nat.le_of_ble_eq_true rfl)
  rw [lg_entry_eq]
  exact w_Model_rest (x_cx B hml hG hZ) v1 h hl hP hD0.self va_S.rf

