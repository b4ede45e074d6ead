abbrev wd_Model_ofSign (cC cI : ClassId) (a0_0 a0_1 a0_2 a0_3 a0_4 a0_5 a0_6 a0_7 : Nat) (v0 : T_Model) : va_W := [(a0_0, .inr (11, [.ref a0_1, .int v0.2.1, .ref a0_2, .int v0.2.2.2.1, .int v0.2.2.2.2.1, .int v0.2.2.2.2.2.1, .ref a0_3, .ref a0_4, .ref a0_5, .int v0.2.2.2.2.2.2.2.2.2.1, .int v0.2.2.2.2.2.2.2.2.2.2.1, .int v0.2.2.2.2.2.2.2.2.2.2.2.1, .int v0.2.2.2.2.2.2.2.2.2.2.2.2.1, .ref a0_6, .int v0.2.2.2.2.2.2.2.2.2.2.2.2.2.2.1, .int v0.2.2.2.2.2.2.2.2.2.2.2.2.2.2.2.1, .int v0.2.2.2.2.2.2.2.2.2.2.2.2.2.2.2.2.1, .ref a0_7, .long v0.2.2.2.2.2.2.2.2.2.2.2.2.2.2.2.2.2.2.1, .int v0.2.2.2.2.2.2.2.2.2.2.2.2.2.2.2.2.2.2.2.1, .long v0.2.2.2.2.2.2.2.2.2.2.2.2.2.2.2.2.2.2.2.2.1, .int v0.2.2.2.2.2.2.2.2.2.2.2.2.2.2.2.2.2.2.2.2.2.1, .int v0.2.2.2.2.2.2.2.2.2.2.2.2.2.2.2.2.2.2.2.2.2.2])), (a0_1, .inl (cC, 120, .inl v0.1)), (a0_2, .inl (cC, 200, .inl v0.2.2.1)), (a0_3, .inl (cI, 160, .inl v0.2.2.2.2.2.2.1)), (a0_4, .inl (cI, 4, .inl v0.2.2.2.2.2.2.2.1)), (a0_5, .inl (cI, 7, .inl v0.2.2.2.2.2.2.2.2.1)), (a0_6, .inl (cI, 40, .inl v0.2.2.2.2.2.2.2.2.2.2.2.2.2.1)), (a0_7, .inl (cI, 6, .inl v0.2.2.2.2.2.2.2.2.2.2.2.2.2.2.2.2.2.1))]
abbrev O_Model_ofSign : Type := Int32 × T_Model
abbrev q_Model_ofSign (D : va_G) (cC cI : ClassId) (a0_0 a0_1 a0_2 a0_3 a0_4 a0_5 a0_6 a0_7 : Nat)  (out : O_Model_ofSign) (A : Nat → Prop) : Array Value → State → Outcome → State → Prop := va_Qi (fun r (_ : Unit) => r = out.1) (fun _ t => va_P D classes (wd_Model_ofSign cC cI a0_0 a0_1 a0_2 a0_3 a0_4 a0_5 a0_6 a0_7 out.2) t.heap ∧ va_D A (wd_Model_ofSign cC cI a0_0 a0_1 a0_2 a0_3 a0_4 a0_5 a0_6 a0_7 out.2)) A
abbrev rm_Model_ofSign : Room := { frames := 2, cells := 0, slots := 0, locals := 57 }
def J_Model_ofSign_32 (p : Program) (l : Launch) (e : Env) (s : State) (m : MethodId) (args : Array Value) (below : List Frame) (meth : Method) (c : Code) (A : Nat → Prop) (D : va_G) (cC cI : ClassId) (a0_0 a0_1 a0_2 a0_3 a0_4 a0_5 a0_6 a0_7 : Nat) (out : O_Model_ofSign) (k : T_Model → Int32 → Int32 → Int32 → Int32 → Int32 → Option O_Model_ofSign) : Prop := ∀ (v0 : T_Model) (x1 : Int32) (x2 : Int32) (x3 : Int32) (x4 : Int32) (x5 : Int32) (ls : Array Slot) (H : Heap) (locs : List Loc), k v0 x1 x2 x3 x4 x5 = some out → lv_has ls 6 [(0, .ref a0_0), (1, .int x1), (2, .int x2), (3, .int x3), (4, .int x4), (5, .int x5)] → va_P D classes (wd_Model_ofSign cC cI a0_0 a0_1 a0_2 a0_3 a0_4 a0_5 a0_6 a0_7 v0) H → va_D A (wd_Model_ofSign cC cI a0_0 a0_1 a0_2 a0_3 a0_4 a0_5 a0_6 a0_7 v0) → va_S A s.heap H locs → W p l e rm_Model_ofSign s m args below meth c H locs 0 0 (MQ below (q_Model_ofSign D cC cI a0_0 a0_1 a0_2 a0_3 a0_4 a0_5 a0_6 a0_7 out A) args s 0 0 A) (F0 m 32 ls [])
def J_Model_ofSign_77 (p : Program) (l : Launch) (e : Env) (s : State) (m : MethodId) (args : Array Value) (below : List Frame) (meth : Method) (c : Code) (A : Nat → Prop) (D : va_G) (cC cI : ClassId) (a0_0 a0_1 a0_2 a0_3 a0_4 a0_5 a0_6 a0_7 : Nat) (out : O_Model_ofSign) (k : T_Model → Int32 → Int32 → Int32 → Int32 → Int32 → Option O_Model_ofSign) : Prop := ∀ (v0 : T_Model) (x1 : Int32) (x2 : Int32) (x3 : Int32) (x4 : Int32) (x5 : Int32) (ls : Array Slot) (H : Heap) (locs : List Loc), k v0 x1 x2 x3 x4 x5 = some out → lv_has ls 6 [(0, .ref a0_0), (1, .int x1), (2, .int x2), (3, .int x3), (4, .int x4), (5, .int x5)] → va_P D classes (wd_Model_ofSign cC cI a0_0 a0_1 a0_2 a0_3 a0_4 a0_5 a0_6 a0_7 v0) H → va_D A (wd_Model_ofSign cC cI a0_0 a0_1 a0_2 a0_3 a0_4 a0_5 a0_6 a0_7 v0) → va_S A s.heap H locs → W p l e rm_Model_ofSign s m args below meth c H locs 0 0 (MQ below (q_Model_ofSign D cC cI a0_0 a0_1 a0_2 a0_3 a0_4 a0_5 a0_6 a0_7 out A) args s 0 0 A) (F0 m 77 ls [])
def J_Model_ofSign_149 (p : Program) (l : Launch) (e : Env) (s : State) (m : MethodId) (args : Array Value) (below : List Frame) (meth : Method) (c : Code) (A : Nat → Prop) (D : va_G) (cC cI : ClassId) (a0_0 a0_1 a0_2 a0_3 a0_4 a0_5 a0_6 a0_7 : Nat) (out : O_Model_ofSign) (k : T_Model → Option O_Model_ofSign) : Prop := ∀ (v0 : T_Model) (ls : Array Slot) (H : Heap) (locs : List Loc), k v0 = some out → lv_has ls 6 [] → va_P D classes (wd_Model_ofSign cC cI a0_0 a0_1 a0_2 a0_3 a0_4 a0_5 a0_6 a0_7 v0) H → va_D A (wd_Model_ofSign cC cI a0_0 a0_1 a0_2 a0_3 a0_4 a0_5 a0_6 a0_7 v0) → va_S A s.heap H locs → W p l e rm_Model_ofSign s m args below meth c H locs 0 0 (MQ below (q_Model_ofSign D cC cI a0_0 a0_1 a0_2 a0_3 a0_4 a0_5 a0_6 a0_7 out A) args s 0 0 A) (F0 m 149 ls [])
def J_Model_ofSign_150 (p : Program) (l : Launch) (e : Env) (s : State) (m : MethodId) (args : Array Value) (below : List Frame) (meth : Method) (c : Code) (A : Nat → Prop) (D : va_G) (cC cI : ClassId) (a0_0 a0_1 a0_2 a0_3 a0_4 a0_5 a0_6 a0_7 : Nat) (out : O_Model_ofSign) (k : T_Model → Int32 → Option O_Model_ofSign) : Prop := ∀ (v0 : T_Model) (s0 : Int32) (ls : Array Slot) (H : Heap) (locs : List Loc), k v0 s0 = some out → lv_has ls 6 [] → va_P D classes (wd_Model_ofSign cC cI a0_0 a0_1 a0_2 a0_3 a0_4 a0_5 a0_6 a0_7 v0) H → va_D A (wd_Model_ofSign cC cI a0_0 a0_1 a0_2 a0_3 a0_4 a0_5 a0_6 a0_7 v0) → va_S A s.heap H locs → W p l e rm_Model_ofSign s m args below meth c H locs 0 0 (MQ below (q_Model_ofSign D cC cI a0_0 a0_1 a0_2 a0_3 a0_4 a0_5 a0_6 a0_7 out A) args s 0 0 A) (F0 m 150 ls [.int s0])
def f_Model_ofSign_150 (v0 : T_Model) (s0 : Int32) : Option O_Model_ofSign := if (s0 = 0 ∨ s0 = 1) then some (s0, v0) else none
set_option maxHeartbeats 4000000 in
set_option maxRecDepth 100000 in
theorem w_Model_ofSign_150 {p : Program} {l : Launch} {e : Env} {s : State} {m : MethodId} {args : Array Value} {below : List Frame} {meth : Method} {c : Code} {A : Nat → Prop} {D : va_G} {cC cI : ClassId} {a0_0 a0_1 a0_2 a0_3 a0_4 a0_5 a0_6 a0_7 : Nat} (X : xCX p s m args meth c A D cC cI b_Model_ofSign 6 R_Model (some .boolean)) {out : O_Model_ofSign}   : J_Model_ofSign_150 p l e s m args below meth c A D cC cI a0_0 a0_1 a0_2 a0_3 a0_4 a0_5 a0_6 a0_7 out (f_Model_ofSign_150  ) := by
  obtain ⟨hx, hb, hml, hown, htB, ⟨hK, hN⟩, hZ, hA, hr, hlocks⟩ := id X
  intro v0 s0 ls H locs h hl hP hD hS
  obtain ⟨hc, h⟩ := x_chk h
  obtain rfl := Option.some.inj h
  exact W.zret (v := s0) (ty := .boolean) hx hb hr (x_zn hc) (fun t ht hW => ⟨⟨s0, (), rfl, rfl, by rw [ht]; exact hP, hD⟩, hS.F ht⟩) hS.2.2 d_Model_ofSign_150 hlocks

def f_Model_ofSign_149 (v0 : T_Model) : Option O_Model_ofSign := f_Model_ofSign_150 v0 (0 : Int32)
set_option maxHeartbeats 4000000 in
set_option maxRecDepth 100000 in
theorem w_Model_ofSign_149 {p : Program} {l : Launch} {e : Env} {s : State} {m : MethodId} {args : Array Value} {below : List Frame} {meth : Method} {c : Code} {A : Nat → Prop} {D : va_G} {cC cI : ClassId} {a0_0 a0_1 a0_2 a0_3 a0_4 a0_5 a0_6 a0_7 : Nat} (X : xCX p s m args meth c A D cC cI b_Model_ofSign 6 R_Model (some .boolean)) {out : O_Model_ofSign}   : J_Model_ofSign_149 p l e s m args below meth c A D cC cI a0_0 a0_1 a0_2 a0_3 a0_4 a0_5 a0_6 a0_7 out (f_Model_ofSign_149  ) := by
  obtain ⟨hx, hb, hml, hown, htB, ⟨hK, hN⟩, hZ, hA, hr, hlocks⟩ := id X
  intro v0 ls H locs h hl hP hD hS
  refine lv_iconst (v := 0) hx hb d_Model_ofSign_149 (by decide) ?_
  exact w_Model_ofSign_150 X v0 (0 : Int32) ls H locs h (lv_sub hl [] rfl) hP hD hS

def J_Model_ofSign_117 (p : Program) (l : Launch) (e : Env) (s : State) (m : MethodId) (args : Array Value) (below : List Frame) (meth : Method) (c : Code) (A : Nat → Prop) (D : va_G) (cC cI : ClassId) (a0_0 a0_1 a0_2 a0_3 a0_4 a0_5 a0_6 a0_7 : Nat) (out : O_Model_ofSign) (k : T_Model → Int32 → Int32 → Int32 → Int32 → Option O_Model_ofSign) : Prop := ∀ (v0 : T_Model) (x1 : Int32) (x2 : Int32) (x3 : Int32) (x5 : Int32) (ls : Array Slot) (H : Heap) (locs : List Loc), k v0 x1 x2 x3 x5 = some out → lv_has ls 6 [(0, .ref a0_0), (1, .int x1), (2, .int x2), (3, .int x3), (5, .int x5)] → va_P D classes (wd_Model_ofSign cC cI a0_0 a0_1 a0_2 a0_3 a0_4 a0_5 a0_6 a0_7 v0) H → va_D A (wd_Model_ofSign cC cI a0_0 a0_1 a0_2 a0_3 a0_4 a0_5 a0_6 a0_7 v0) → va_S A s.heap H locs → W p l e rm_Model_ofSign s m args below meth c H locs 0 0 (MQ below (q_Model_ofSign D cC cI a0_0 a0_1 a0_2 a0_3 a0_4 a0_5 a0_6 a0_7 out A) args s 0 0 A) (F0 m 117 ls [])
def J_Model_ofSign_118 (p : Program) (l : Launch) (e : Env) (s : State) (m : MethodId) (args : Array Value) (below : List Frame) (meth : Method) (c : Code) (A : Nat → Prop) (D : va_G) (cC cI : ClassId) (a0_0 a0_1 a0_2 a0_3 a0_4 a0_5 a0_6 a0_7 : Nat) (out : O_Model_ofSign) (k : T_Model → Int32 → Int32 → Int32 → Int32 → Int32 → Option O_Model_ofSign) : Prop := ∀ (v0 : T_Model) (x1 : Int32) (x2 : Int32) (x3 : Int32) (x5 : Int32) (s0 : Int32) (ls : Array Slot) (H : Heap) (locs : List Loc), k v0 x1 x2 x3 x5 s0 = some out → lv_has ls 6 [(0, .ref a0_0), (1, .int x1), (2, .int x2), (3, .int x3), (5, .int x5)] → va_P D classes (wd_Model_ofSign cC cI a0_0 a0_1 a0_2 a0_3 a0_4 a0_5 a0_6 a0_7 v0) H → va_D A (wd_Model_ofSign cC cI a0_0 a0_1 a0_2 a0_3 a0_4 a0_5 a0_6 a0_7 v0) → va_S A s.heap H locs → W p l e rm_Model_ofSign s m args below meth c H locs 0 0 (MQ below (q_Model_ofSign D cC cI a0_0 a0_1 a0_2 a0_3 a0_4 a0_5 a0_6 a0_7 out A) args s 0 0 A) (F0 m 118 ls [.int s0])
def f_Model_ofSign_118 (k77 : T_Model → Int32 → Int32 → Int32 → Int32 → Int32 → Option O_Model_ofSign) (v0 : T_Model) (x1 : Int32) (x2 : Int32) (x3 : Int32) (x5 : Int32) (s0 : Int32) : Option O_Model_ofSign := k77 v0 x1 x2 x3 s0 (x5 + (1 : Int32))
set_option maxHeartbeats 4000000 in
set_option maxRecDepth 100000 in
theorem w_Model_ofSign_118 {p : Program} {l : Launch} {e : Env} {s : State} {m : MethodId} {args : Array Value} {below : List Frame} {meth : Method} {c : Code} {A : Nat → Prop} {D : va_G} {cC cI : ClassId} {a0_0 a0_1 a0_2 a0_3 a0_4 a0_5 a0_6 a0_7 : Nat} (X : xCX p s m args meth c A D cC cI b_Model_ofSign 6 R_Model (some .boolean)) {out : O_Model_ofSign} {k77 : T_Model → Int32 → Int32 → Int32 → Int32 → Int32 → Option O_Model_ofSign} (hk77 : J_Model_ofSign_77 p l e s m args below meth c A D cC cI a0_0 a0_1 a0_2 a0_3 a0_4 a0_5 a0_6 a0_7 out k77) : J_Model_ofSign_118 p l e s m args below meth c A D cC cI a0_0 a0_1 a0_2 a0_3 a0_4 a0_5 a0_6 a0_7 out (f_Model_ofSign_118  k77) := by
  obtain ⟨hx, hb, hml, hown, htB, ⟨hK, hN⟩, hZ, hA, hr, hlocks⟩ := id X
  intro v0 x1 x2 x3 x5 s0 ls H locs h hl hP hD hS
  refine lv_istore (lv' := [(4, .int s0), (0, .ref a0_0), (1, .int x1), (2, .int x2), (3, .int x3), (5, .int x5)]) hx hb d_Model_ofSign_118 hl (by decide) rfl (fun ls hl => ?_)
  refine lv_iinc (k := 5) (v := (x5 + (1 : Int32))) (lv' := [(5, .int (x5 + (1 : Int32))), (4, .int s0), (0, .ref a0_0), (1, .int x1), (2, .int x2), (3, .int x3)]) hx hb d_Model_ofSign_120 hl rfl (congrArg (fun z => x5 + z) (by decide : Int32.ofInt 1 = (1 : Int32))) (by decide) rfl (fun ls hl => ?_)
  refine lv_goto (tgt := 77) hx hb d_Model_ofSign_123 rfl ?_
  exact hk77 v0 x1 x2 x3 s0 (x5 + (1 : Int32)) ls H locs h (lv_sub hl [2, 3, 4, 5, 1, 0] rfl) hP hD hS

def f_Model_ofSign_117 (k77 : T_Model → Int32 → Int32 → Int32 → Int32 → Int32 → Option O_Model_ofSign) (v0 : T_Model) (x1 : Int32) (x2 : Int32) (x3 : Int32) (x5 : Int32) : Option O_Model_ofSign := f_Model_ofSign_118 k77 v0 x1 x2 x3 x5 (0 : Int32)
set_option maxHeartbeats 4000000 in
set_option maxRecDepth 100000 in
theorem w_Model_ofSign_117 {p : Program} {l : Launch} {e : Env} {s : State} {m : MethodId} {args : Array Value} {below : List Frame} {meth : Method} {c : Code} {A : Nat → Prop} {D : va_G} {cC cI : ClassId} {a0_0 a0_1 a0_2 a0_3 a0_4 a0_5 a0_6 a0_7 : Nat} (X : xCX p s m args meth c A D cC cI b_Model_ofSign 6 R_Model (some .boolean)) {out : O_Model_ofSign} {k77 : T_Model → Int32 → Int32 → Int32 → Int32 → Int32 → Option O_Model_ofSign} (hk77 : J_Model_ofSign_77 p l e s m args below meth c A D cC cI a0_0 a0_1 a0_2 a0_3 a0_4 a0_5 a0_6 a0_7 out k77) : J_Model_ofSign_117 p l e s m args below meth c A D cC cI a0_0 a0_1 a0_2 a0_3 a0_4 a0_5 a0_6 a0_7 out (f_Model_ofSign_117  k77) := by
  obtain ⟨hx, hb, hml, hown, htB, ⟨hK, hN⟩, hZ, hA, hr, hlocks⟩ := id X
  intro v0 x1 x2 x3 x5 ls H locs h hl hP hD hS
  refine lv_iconst (v := 0) hx hb d_Model_ofSign_117 (by decide) ?_
  exact w_Model_ofSign_118 X hk77 v0 x1 x2 x3 x5 (0 : Int32) ls H locs h (lv_sub hl [0, 1, 2, 3, 4] rfl) hP hD hS

def f_Model_ofSign_77   : Nat → T_Model → Int32 → Int32 → Int32 → Int32 → Int32 → Option O_Model_ofSign
  | 0, _, _, _, _, _, _ => none
  | n + 1, v0, x1, x2, x3, x4, x5 => (if x3 ≤ x5 then (if x4 = 0 then f_Model_ofSign_149 v0 else (f_Model_body v0 x2 (v0.2.1 - x3)).bind (fun o139 => (if o139.1 = 0 then f_Model_ofSign_149 o139.2 else f_Model_ofSign_150 o139.2 (1 : Int32)))) else (if x4 = 0 then f_Model_ofSign_117 (f_Model_ofSign_77  n) v0 x1 x2 x3 x5 else if ix ((v0.2.1 - x3) + x5) 120 then (f_Model_shown v0 x1 (1 : Int32) x5).bind (fun o107 => (if (v0.1 ((v0.2.1 - x3) + x5).toNatClampNeg) = o107 then f_Model_ofSign_118 (f_Model_ofSign_77  n) v0 x1 x2 x3 x5 (1 : Int32) else f_Model_ofSign_117 (f_Model_ofSign_77  n) v0 x1 x2 x3 x5)) else none))
set_option maxHeartbeats 4000000 in
set_option maxRecDepth 100000 in
theorem w_Model_ofSign_77 {p : Program} {l : Launch} {e : Env} {s : State} {m : MethodId} {args : Array Value} {below : List Frame} {meth : Method} {c : Code} {A : Nat → Prop} {D : va_G} {cC cI : ClassId} {a0_0 a0_1 a0_2 a0_3 a0_4 a0_5 a0_6 a0_7 : Nat} (X : xCX p s m args meth c A D cC cI b_Model_ofSign 6 R_Model (some .boolean)) {out : O_Model_ofSign}   : ∀ n : Nat, J_Model_ofSign_77 p l e s m args below meth c A D cC cI a0_0 a0_1 a0_2 a0_3 a0_4 a0_5 a0_6 a0_7 out (f_Model_ofSign_77   n) := by
  obtain ⟨hx, hb, hml, hown, htB, ⟨hK, hN⟩, hZ, hA, hr, hlocks⟩ := id X
  intro n
  induction n with
  | zero =>
    intro v0 x1 x2 x3 x4 x5 ls H locs h hl hP hD hS
    cases h
  | succ n ih =>
    intro v0 x1 x2 x3 x4 x5 ls H locs h hl hP hD hS
    refine lv_iload hx hb d_Model_ofSign_77 (lv_at hl 5 rfl) ?_
    refine lv_iload_n hx hb d_Model_ofSign_79 rfl (lv_at hl 3 rfl) ?_
    refine lv_icmp_ge (tgt := 126) hx hb d_Model_ofSign_80 rfl (fun hc => ?_) (fun hc => ?_)
    · have h := (if_pos hc).symm.trans h
      refine lv_iload hx hb d_Model_ofSign_126 (lv_at hl 4 rfl) ?_
      refine lv_if_eq (tgt := 149) hx hb d_Model_ofSign_128 rfl (fun hc => ?_) (fun hc => ?_)
      · have h := (if_pos hc).symm.trans h
        exact w_Model_ofSign_149 X v0 ls H locs h (lv_sub hl [] rfl) hP hD hS
      have h := (if_neg hc).symm.trans h
      refine lv_aload_n hx hb d_Model_ofSign_131 rfl (lv_at hl 0 rfl) ?_
      refine lv_iload_n hx hb d_Model_ofSign_132 rfl (lv_at hl 2 rfl) ?_
      refine lv_aload_n hx hb d_Model_ofSign_133 rfl (lv_at hl 0 rfl) ?_
      refine va_get (D := D) (ci := 11) (v := .int v0.2.1) (C := R_Model) (T := F_Model) (N := 23) hx hb htB in_Model hown hK hP 0 rfl rfl 1 (by decide) (htB _ b_309) (fun _ h9 => h9) rfl d_Model_ofSign_134 ?_
      refine lv_iload_n hx hb d_Model_ofSign_137 rfl (lv_at hl 3 rfl) ?_
      refine lv_isub hx hb d_Model_ofSign_138 ?_
      obtain ⟨o139, ho139, h⟩ := x_bnd h
      refine x_calli (r0 := o139.1) (ws2 := (wd_Model_ofSign cC cI a0_0 a0_1 a0_2 a0_3 a0_4 a0_5 a0_6 a0_7 o139.2)) (x_runV (As := [.int x2, .int (v0.2.1 - x3)]) (rest := []) X (c_Model_body l D cC cI H.size a0_0 a0_1 a0_2 a0_3 a0_4 a0_5 a0_6 a0_7 v0 x2 (v0.2.1 - x3) o139 ho139) b_454 2 (htB _ b_457) (htB _ b_455) (htB _ b_456) (htB _ b_319) ⟨by decide, by decide, by decide +kernel⟩ ⟨(Nat.le_of_ble_eq_true rfl), (Nat.le_of_ble_eq_true rfl)⟩ 0 rfl rfl hP hD hS [0, 1, 2, 3, 4, 5, 6, 7] rfl (by decide) rfl rfl hl.1 rfl rfl (Nat.le_of_ble_eq_true rfl) d_Model_ofSign_139) hP hD hS hA [0, 1, 2, 3, 4, 5, 6, 7] [] [0, 1, 2, 3, 4, 5, 6, 7] rfl rfl (by decide) (by decide) rfl (by decide) (fun H locs hP hD hS => ?_)
      refine lv_if_eq (tgt := 149) hx hb d_Model_ofSign_142 rfl (fun hc => ?_) (fun hc => ?_)
      · have h := (if_pos hc).symm.trans h
        exact w_Model_ofSign_149 X o139.2 ls H locs h (lv_sub hl [] rfl) hP hD hS
      have h := (if_neg hc).symm.trans h
      refine lv_iconst (v := 1) hx hb d_Model_ofSign_145 (by decide) ?_
      refine lv_goto (tgt := 150) hx hb d_Model_ofSign_146 rfl ?_
      exact w_Model_ofSign_150 X o139.2 (1 : Int32) ls H locs h (lv_sub hl [] rfl) hP hD hS
    have h := (if_neg hc).symm.trans h
    refine lv_iload hx hb d_Model_ofSign_83 (lv_at hl 4 rfl) ?_
    refine lv_if_eq (tgt := 117) hx hb d_Model_ofSign_85 rfl (fun hc => ?_) (fun hc => ?_)
    · have h := (if_pos hc).symm.trans h
      exact w_Model_ofSign_117 X ih v0 x1 x2 x3 x5 ls H locs h (lv_sub hl [0, 1, 2, 3, 5] rfl) hP hD hS
    have h := (if_neg hc).symm.trans h
    refine lv_aload_n hx hb d_Model_ofSign_88 rfl (lv_at hl 0 rfl) ?_
    refine va_get (D := D) (ci := 11) (v := .ref a0_1) (C := R_Model) (T := F_Model) (N := 23) hx hb htB in_Model hown hK hP 0 rfl rfl 0 (by decide) (htB _ b_310) (fun _ h9 => h9) rfl d_Model_ofSign_89 ?_
    refine lv_aload_n hx hb d_Model_ofSign_92 rfl (lv_at hl 0 rfl) ?_
    refine va_get (D := D) (ci := 11) (v := .int v0.2.1) (C := R_Model) (T := F_Model) (N := 23) hx hb htB in_Model hown hK hP 0 rfl rfl 1 (by decide) (htB _ b_309) (fun _ h9 => h9) rfl d_Model_ofSign_93 ?_
    refine lv_iload_n hx hb d_Model_ofSign_96 rfl (lv_at hl 3 rfl) ?_
    refine lv_isub hx hb d_Model_ofSign_97 ?_
    refine lv_iload hx hb d_Model_ofSign_98 (lv_at hl 5 rfl) ?_
    refine lv_iadd hx hb d_Model_ofSign_100 ?_
    obtain ⟨hc, h⟩ := x_chk h
    refine va_cald hx hb hK hP 1 0 rfl rfl hc d_Model_ofSign_101 ?_
    refine lv_aload_n hx hb d_Model_ofSign_102 rfl (lv_at hl 0 rfl) ?_
    refine lv_iload_n hx hb d_Model_ofSign_103 rfl (lv_at hl 1 rfl) ?_
    refine lv_iconst (v := 1) hx hb d_Model_ofSign_104 (by decide) ?_
    refine lv_iload hx hb d_Model_ofSign_105 (lv_at hl 5 rfl) ?_
    obtain ⟨o107, ho107, h⟩ := x_bnd h
    refine x_calli (r0 := o107) (ws2 := (wd_Model_ofSign cC cI a0_0 a0_1 a0_2 a0_3 a0_4 a0_5 a0_6 a0_7 v0)) (x_runV (As := [.int x1, .int (1 : Int32), .int x5]) (rest := [.int (v0.1 ((v0.2.1 - x3) + x5).toNatClampNeg)]) X (c_Model_shown l D cC cI H.size a0_0 a0_1 a0_2 a0_3 a0_4 a0_5 a0_6 a0_7 v0 x1 (1 : Int32) x5 o107 ho107) b_374 3 (htB _ b_377) (htB _ b_375) (htB _ b_376) (htB _ b_319) ⟨by decide, by decide, by decide +kernel⟩ ⟨(Nat.le_of_ble_eq_true rfl), (Nat.le_of_ble_eq_true rfl)⟩ 0 rfl rfl hP hD hS [0, 1, 2, 3, 4, 5, 6, 7] rfl (by decide) rfl rfl hl.1 rfl rfl (Nat.le_of_ble_eq_true rfl) d_Model_ofSign_107) hP hD hS hA [0, 1, 2, 3, 4, 5, 6, 7] [] [0, 1, 2, 3, 4, 5, 6, 7] rfl rfl (by decide) (by decide) rfl (by decide) (fun H locs hP hD hS => ?_)
    refine lv_icmp_ne (tgt := 117) hx hb d_Model_ofSign_110 rfl (fun hc => ?_) (fun hc => ?_)
    · have h := (if_neg hc).symm.trans h
      exact w_Model_ofSign_117 X ih v0 x1 x2 x3 x5 ls H locs h (lv_sub hl [0, 1, 2, 3, 5] rfl) hP hD hS
    have h := (if_pos hc).symm.trans h
    refine lv_iconst (v := 1) hx hb d_Model_ofSign_113 (by decide) ?_
    refine lv_goto (tgt := 118) hx hb d_Model_ofSign_114 rfl ?_
    exact w_Model_ofSign_118 X ih v0 x1 x2 x3 x5 (1 : Int32) ls H locs h (lv_sub hl [0, 1, 2, 3, 5] rfl) hP hD hS

def J_Model_ofSign_65 (p : Program) (l : Launch) (e : Env) (s : State) (m : MethodId) (args : Array Value) (below : List Frame) (meth : Method) (c : Code) (A : Nat → Prop) (D : va_G) (cC cI : ClassId) (a0_0 a0_1 a0_2 a0_3 a0_4 a0_5 a0_6 a0_7 : Nat) (out : O_Model_ofSign) (k : T_Model → Int32 → Int32 → Int32 → Int32 → Option O_Model_ofSign) : Prop := ∀ (v0 : T_Model) (x1 : Int32) (x2 : Int32) (x3 : Int32) (x5 : Int32) (ls : Array Slot) (H : Heap) (locs : List Loc), k v0 x1 x2 x3 x5 = some out → lv_has ls 6 [(0, .ref a0_0), (1, .int x1), (2, .int x2), (3, .int x3), (5, .int x5)] → va_P D classes (wd_Model_ofSign cC cI a0_0 a0_1 a0_2 a0_3 a0_4 a0_5 a0_6 a0_7 v0) H → va_D A (wd_Model_ofSign cC cI a0_0 a0_1 a0_2 a0_3 a0_4 a0_5 a0_6 a0_7 v0) → va_S A s.heap H locs → W p l e rm_Model_ofSign s m args below meth c H locs 0 0 (MQ below (q_Model_ofSign D cC cI a0_0 a0_1 a0_2 a0_3 a0_4 a0_5 a0_6 a0_7 out A) args s 0 0 A) (F0 m 65 ls [])
def J_Model_ofSign_66 (p : Program) (l : Launch) (e : Env) (s : State) (m : MethodId) (args : Array Value) (below : List Frame) (meth : Method) (c : Code) (A : Nat → Prop) (D : va_G) (cC cI : ClassId) (a0_0 a0_1 a0_2 a0_3 a0_4 a0_5 a0_6 a0_7 : Nat) (out : O_Model_ofSign) (k : T_Model → Int32 → Int32 → Int32 → Int32 → Int32 → Option O_Model_ofSign) : Prop := ∀ (v0 : T_Model) (x1 : Int32) (x2 : Int32) (x3 : Int32) (x5 : Int32) (s0 : Int32) (ls : Array Slot) (H : Heap) (locs : List Loc), k v0 x1 x2 x3 x5 s0 = some out → lv_has ls 6 [(0, .ref a0_0), (1, .int x1), (2, .int x2), (3, .int x3), (5, .int x5)] → va_P D classes (wd_Model_ofSign cC cI a0_0 a0_1 a0_2 a0_3 a0_4 a0_5 a0_6 a0_7 v0) H → va_D A (wd_Model_ofSign cC cI a0_0 a0_1 a0_2 a0_3 a0_4 a0_5 a0_6 a0_7 v0) → va_S A s.heap H locs → W p l e rm_Model_ofSign s m args below meth c H locs 0 0 (MQ below (q_Model_ofSign D cC cI a0_0 a0_1 a0_2 a0_3 a0_4 a0_5 a0_6 a0_7 out A) args s 0 0 A) (F0 m 66 ls [.int s0])
def f_Model_ofSign_66 (k32 : T_Model → Int32 → Int32 → Int32 → Int32 → Int32 → Option O_Model_ofSign) (v0 : T_Model) (x1 : Int32) (x2 : Int32) (x3 : Int32) (x5 : Int32) (s0 : Int32) : Option O_Model_ofSign := k32 v0 x1 x2 x3 s0 (x5 + (1 : Int32))
set_option maxHeartbeats 4000000 in
set_option maxRecDepth 100000 in
theorem w_Model_ofSign_66 {p : Program} {l : Launch} {e : Env} {s : State} {m : MethodId} {args : Array Value} {below : List Frame} {meth : Method} {c : Code} {A : Nat → Prop} {D : va_G} {cC cI : ClassId} {a0_0 a0_1 a0_2 a0_3 a0_4 a0_5 a0_6 a0_7 : Nat} (X : xCX p s m args meth c A D cC cI b_Model_ofSign 6 R_Model (some .boolean)) {out : O_Model_ofSign} {k32 : T_Model → Int32 → Int32 → Int32 → Int32 → Int32 → Option O_Model_ofSign} (hk32 : J_Model_ofSign_32 p l e s m args below meth c A D cC cI a0_0 a0_1 a0_2 a0_3 a0_4 a0_5 a0_6 a0_7 out k32) : J_Model_ofSign_66 p l e s m args below meth c A D cC cI a0_0 a0_1 a0_2 a0_3 a0_4 a0_5 a0_6 a0_7 out (f_Model_ofSign_66  k32) := by
  obtain ⟨hx, hb, hml, hown, htB, ⟨hK, hN⟩, hZ, hA, hr, hlocks⟩ := id X
  intro v0 x1 x2 x3 x5 s0 ls H locs h hl hP hD hS
  refine lv_istore (lv' := [(4, .int s0), (0, .ref a0_0), (1, .int x1), (2, .int x2), (3, .int x3), (5, .int x5)]) hx hb d_Model_ofSign_66 hl (by decide) rfl (fun ls hl => ?_)
  refine lv_iinc (k := 5) (v := (x5 + (1 : Int32))) (lv' := [(5, .int (x5 + (1 : Int32))), (4, .int s0), (0, .ref a0_0), (1, .int x1), (2, .int x2), (3, .int x3)]) hx hb d_Model_ofSign_68 hl rfl (congrArg (fun z => x5 + z) (by decide : Int32.ofInt 1 = (1 : Int32))) (by decide) rfl (fun ls hl => ?_)
  refine lv_goto (tgt := 32) hx hb d_Model_ofSign_71 rfl ?_
  exact hk32 v0 x1 x2 x3 s0 (x5 + (1 : Int32)) ls H locs h (lv_sub hl [2, 3, 4, 5, 1, 0] rfl) hP hD hS

def f_Model_ofSign_65 (k32 : T_Model → Int32 → Int32 → Int32 → Int32 → Int32 → Option O_Model_ofSign) (v0 : T_Model) (x1 : Int32) (x2 : Int32) (x3 : Int32) (x5 : Int32) : Option O_Model_ofSign := f_Model_ofSign_66 k32 v0 x1 x2 x3 x5 (0 : Int32)
set_option maxHeartbeats 4000000 in
set_option maxRecDepth 100000 in
theorem w_Model_ofSign_65 {p : Program} {l : Launch} {e : Env} {s : State} {m : MethodId} {args : Array Value} {below : List Frame} {meth : Method} {c : Code} {A : Nat → Prop} {D : va_G} {cC cI : ClassId} {a0_0 a0_1 a0_2 a0_3 a0_4 a0_5 a0_6 a0_7 : Nat} (X : xCX p s m args meth c A D cC cI b_Model_ofSign 6 R_Model (some .boolean)) {out : O_Model_ofSign} {k32 : T_Model → Int32 → Int32 → Int32 → Int32 → Int32 → Option O_Model_ofSign} (hk32 : J_Model_ofSign_32 p l e s m args below meth c A D cC cI a0_0 a0_1 a0_2 a0_3 a0_4 a0_5 a0_6 a0_7 out k32) : J_Model_ofSign_65 p l e s m args below meth c A D cC cI a0_0 a0_1 a0_2 a0_3 a0_4 a0_5 a0_6 a0_7 out (f_Model_ofSign_65  k32) := by
  obtain ⟨hx, hb, hml, hown, htB, ⟨hK, hN⟩, hZ, hA, hr, hlocks⟩ := id X
  intro v0 x1 x2 x3 x5 ls H locs h hl hP hD hS
  refine lv_iconst (v := 0) hx hb d_Model_ofSign_65 (by decide) ?_
  exact w_Model_ofSign_66 X hk32 v0 x1 x2 x3 x5 (0 : Int32) ls H locs h (lv_sub hl [0, 1, 2, 3, 4] rfl) hP hD hS

def f_Model_ofSign_32   : Nat → T_Model → Int32 → Int32 → Int32 → Int32 → Int32 → Option O_Model_ofSign
  | 0, _, _, _, _, _, _ => none
  | n + 1, v0, x1, x2, x3, x4, x5 => (if x2 ≤ x5 then f_Model_ofSign_77 FU v0 x1 x2 x3 x4 (0 : Int32) else (if x4 = 0 then f_Model_ofSign_65 (f_Model_ofSign_32  n) v0 x1 x2 x3 x5 else if ix x5 120 then (f_Model_shown v0 x1 (0 : Int32) x5).bind (fun o55 => (if (v0.1 x5.toNatClampNeg) = o55 then f_Model_ofSign_66 (f_Model_ofSign_32  n) v0 x1 x2 x3 x5 (1 : Int32) else f_Model_ofSign_65 (f_Model_ofSign_32  n) v0 x1 x2 x3 x5)) else none))
set_option maxHeartbeats 4000000 in
set_option maxRecDepth 100000 in
theorem w_Model_ofSign_32 {p : Program} {l : Launch} {e : Env} {s : State} {m : MethodId} {args : Array Value} {below : List Frame} {meth : Method} {c : Code} {A : Nat → Prop} {D : va_G} {cC cI : ClassId} {a0_0 a0_1 a0_2 a0_3 a0_4 a0_5 a0_6 a0_7 : Nat} (X : xCX p s m args meth c A D cC cI b_Model_ofSign 6 R_Model (some .boolean)) {out : O_Model_ofSign}   : ∀ n : Nat, J_Model_ofSign_32 p l e s m args below meth c A D cC cI a0_0 a0_1 a0_2 a0_3 a0_4 a0_5 a0_6 a0_7 out (f_Model_ofSign_32   n) := by
  obtain ⟨hx, hb, hml, hown, htB, ⟨hK, hN⟩, hZ, hA, hr, hlocks⟩ := id X
  intro n
  induction n with
  | zero =>
    intro v0 x1 x2 x3 x4 x5 ls H locs h hl hP hD hS
    cases h
  | succ n ih =>
    intro v0 x1 x2 x3 x4 x5 ls H locs h hl hP hD hS
    refine lv_iload hx hb d_Model_ofSign_32 (lv_at hl 5 rfl) ?_
    refine lv_iload_n hx hb d_Model_ofSign_34 rfl (lv_at hl 2 rfl) ?_
    refine lv_icmp_ge (tgt := 74) hx hb d_Model_ofSign_35 rfl (fun hc => ?_) (fun hc => ?_)
    · have h := (if_pos hc).symm.trans h
      refine lv_iconst (v := 0) hx hb d_Model_ofSign_74 (by decide) ?_
      refine lv_istore (lv' := [(5, .int (0 : Int32)), (0, .ref a0_0), (1, .int x1), (2, .int x2), (3, .int x3), (4, .int x4)]) hx hb d_Model_ofSign_75 hl (by decide) rfl (fun ls hl => ?_)
      exact w_Model_ofSign_77 X FU v0 x1 x2 x3 x4 (0 : Int32) ls H locs h (lv_sub hl [1, 2, 3, 4, 5, 0] rfl) hP hD hS
    have h := (if_neg hc).symm.trans h
    refine lv_iload hx hb d_Model_ofSign_38 (lv_at hl 4 rfl) ?_
    refine lv_if_eq (tgt := 65) hx hb d_Model_ofSign_40 rfl (fun hc => ?_) (fun hc => ?_)
    · have h := (if_pos hc).symm.trans h
      exact w_Model_ofSign_65 X ih v0 x1 x2 x3 x5 ls H locs h (lv_sub hl [0, 1, 2, 3, 5] rfl) hP hD hS
    have h := (if_neg hc).symm.trans h
    refine lv_aload_n hx hb d_Model_ofSign_43 rfl (lv_at hl 0 rfl) ?_
    refine va_get (D := D) (ci := 11) (v := .ref a0_1) (C := R_Model) (T := F_Model) (N := 23) hx hb htB in_Model hown hK hP 0 rfl rfl 0 (by decide) (htB _ b_310) (fun _ h9 => h9) rfl d_Model_ofSign_44 ?_
    refine lv_iload hx hb d_Model_ofSign_47 (lv_at hl 5 rfl) ?_
    obtain ⟨hc, h⟩ := x_chk h
    refine va_cald hx hb hK hP 1 0 rfl rfl hc d_Model_ofSign_49 ?_
    refine lv_aload_n hx hb d_Model_ofSign_50 rfl (lv_at hl 0 rfl) ?_
    refine lv_iload_n hx hb d_Model_ofSign_51 rfl (lv_at hl 1 rfl) ?_
    refine lv_iconst (v := 0) hx hb d_Model_ofSign_52 (by decide) ?_
    refine lv_iload hx hb d_Model_ofSign_53 (lv_at hl 5 rfl) ?_
    obtain ⟨o55, ho55, h⟩ := x_bnd h
    refine x_calli (r0 := o55) (ws2 := (wd_Model_ofSign cC cI a0_0 a0_1 a0_2 a0_3 a0_4 a0_5 a0_6 a0_7 v0)) (x_runV (As := [.int x1, .int (0 : Int32), .int x5]) (rest := [.int (v0.1 x5.toNatClampNeg)]) X (c_Model_shown l D cC cI H.size a0_0 a0_1 a0_2 a0_3 a0_4 a0_5 a0_6 a0_7 v0 x1 (0 : Int32) x5 o55 ho55) b_374 3 (htB _ b_377) (htB _ b_375) (htB _ b_376) (htB _ b_319) ⟨by decide, by decide, by decide +kernel⟩ ⟨(Nat.le_of_ble_eq_true rfl), (Nat.le_of_ble_eq_true rfl)⟩ 0 rfl rfl hP hD hS [0, 1, 2, 3, 4, 5, 6, 7] rfl (by decide) rfl rfl hl.1 rfl rfl (Nat.le_of_ble_eq_true rfl) d_Model_ofSign_55) hP hD hS hA [0, 1, 2, 3, 4, 5, 6, 7] [] [0, 1, 2, 3, 4, 5, 6, 7] rfl rfl (by decide) (by decide) rfl (by decide) (fun H locs hP hD hS => ?_)
    refine lv_icmp_ne (tgt := 65) hx hb d_Model_ofSign_58 rfl (fun hc => ?_) (fun hc => ?_)
    · have h := (if_neg hc).symm.trans h
      exact w_Model_ofSign_65 X ih v0 x1 x2 x3 x5 ls H locs h (lv_sub hl [0, 1, 2, 3, 5] rfl) hP hD hS
    have h := (if_pos hc).symm.trans h
    refine lv_iconst (v := 1) hx hb d_Model_ofSign_61 (by decide) ?_
    refine lv_goto (tgt := 66) hx hb d_Model_ofSign_62 rfl ?_
    exact w_Model_ofSign_66 X ih v0 x1 x2 x3 x5 (1 : Int32) ls H locs h (lv_sub hl [0, 1, 2, 3, 5] rfl) hP hD hS

def f_Model_ofSign (v0 : T_Model) (v1 : Int32) : Option O_Model_ofSign := (f_Model_shownLength v0 v1 (0 : Int32)).bind (fun o3 => (f_Model_shownLength v0 v1 (1 : Int32)).bind (fun o10 => (if (o3 + o10) ≤ v0.2.1 then f_Model_ofSign_32 FU v0 v1 o3 o10 (1 : Int32) (0 : Int32) else some ((0 : Int32), v0))))
set_option maxHeartbeats 4000000 in
set_option maxRecDepth 100000 in
theorem w_Model_ofSign {p : Program} {l : Launch} {e : Env} {s : State} {m : MethodId} {args : Array Value} {below : List Frame} {meth : Method} {c : Code} {A : Nat → Prop} {D : va_G} {cC cI : ClassId} {a0_0 a0_1 a0_2 a0_3 a0_4 a0_5 a0_6 a0_7 : Nat} (X : xCX p s m args meth c A D cC cI b_Model_ofSign 6 R_Model (some .boolean)) {out : O_Model_ofSign} (v0 : T_Model) (v1 : Int32) {ls : Array Slot} {H : Heap} {locs : List Loc} (h : f_Model_ofSign v0 v1 = some out) (hl : lv_has ls 6 [(0, .ref a0_0), (1, .int v1)]) (hP : va_P D classes (wd_Model_ofSign cC cI a0_0 a0_1 a0_2 a0_3 a0_4 a0_5 a0_6 a0_7 v0) H) (hD : va_D A (wd_Model_ofSign cC cI a0_0 a0_1 a0_2 a0_3 a0_4 a0_5 a0_6 a0_7 v0)) (hS : va_S A s.heap H locs) : W p l e rm_Model_ofSign s m args below meth c H locs 0 0 (MQ below (q_Model_ofSign D cC cI a0_0 a0_1 a0_2 a0_3 a0_4 a0_5 a0_6 a0_7 out A) args s 0 0 A) (F0 m 0 ls []) := by
  obtain ⟨hx, hb, hml, hown, htB, ⟨hK, hN⟩, hZ, hA, hr, hlocks⟩ := id X
  refine lv_aload_n hx hb d_Model_ofSign_0 rfl (lv_at hl 0 rfl) ?_
  refine lv_iload_n hx hb d_Model_ofSign_1 rfl (lv_at hl 1 rfl) ?_
  refine lv_iconst (v := 0) hx hb d_Model_ofSign_2 (by decide) ?_
  obtain ⟨o3, ho3, h⟩ := x_bnd h
  refine x_calli (r0 := o3) (ws2 := (wd_Model_ofSign cC cI a0_0 a0_1 a0_2 a0_3 a0_4 a0_5 a0_6 a0_7 v0)) (x_runV (As := [.int v1, .int (0 : Int32)]) (rest := []) X (c_Model_shownLength l D cC cI H.size a0_0 a0_1 a0_2 a0_3 a0_4 a0_5 a0_6 a0_7 v0 v1 (0 : Int32) o3 ho3) b_370 2 (htB _ b_373) (htB _ b_371) (htB _ b_372) (htB _ b_319) ⟨by decide, by decide, by decide +kernel⟩ ⟨(Nat.le_of_ble_eq_true rfl), (Nat.le_of_ble_eq_true rfl)⟩ 0 rfl rfl hP hD hS [0, 1, 2, 3, 4, 5, 6, 7] rfl (by decide) rfl rfl hl.1 rfl rfl (Nat.le_of_ble_eq_true rfl) d_Model_ofSign_3) hP hD hS hA [0, 1, 2, 3, 4, 5, 6, 7] [] [0, 1, 2, 3, 4, 5, 6, 7] rfl rfl (by decide) (by decide) rfl (by decide) (fun H locs hP hD hS => ?_)
  refine lv_istore_n (lv' := [(2, .int o3), (0, .ref a0_0), (1, .int v1)]) hx hb d_Model_ofSign_6 rfl hl (by decide) rfl (fun ls hl => ?_)
  refine lv_aload_n hx hb d_Model_ofSign_7 rfl (lv_at hl 1 rfl) ?_
  refine lv_iload_n hx hb d_Model_ofSign_8 rfl (lv_at hl 2 rfl) ?_
  refine lv_iconst (v := 1) hx hb d_Model_ofSign_9 (by decide) ?_
  obtain ⟨o10, ho10, h⟩ := x_bnd h
  refine x_calli (r0 := o10) (ws2 := (wd_Model_ofSign cC cI a0_0 a0_1 a0_2 a0_3 a0_4 a0_5 a0_6 a0_7 v0)) (x_runV (As := [.int v1, .int (1 : Int32)]) (rest := []) X (c_Model_shownLength l D cC cI H.size a0_0 a0_1 a0_2 a0_3 a0_4 a0_5 a0_6 a0_7 v0 v1 (1 : Int32) o10 ho10) b_370 2 (htB _ b_373) (htB _ b_371) (htB _ b_372) (htB _ b_319) ⟨by decide, by decide, by decide +kernel⟩ ⟨(Nat.le_of_ble_eq_true rfl), (Nat.le_of_ble_eq_true rfl)⟩ 0 rfl rfl hP hD hS [0, 1, 2, 3, 4, 5, 6, 7] rfl (by decide) rfl rfl hl.1 rfl rfl (Nat.le_of_ble_eq_true rfl) d_Model_ofSign_10) hP hD hS hA [0, 1, 2, 3, 4, 5, 6, 7] [] [0, 1, 2, 3, 4, 5, 6, 7] rfl rfl (by decide) (by decide) rfl (by decide) (fun H locs hP hD hS => ?_)
  refine lv_istore_n (lv' := [(3, .int o10), (2, .int o3), (0, .ref a0_0), (1, .int v1)]) hx hb d_Model_ofSign_13 rfl hl (by decide) rfl (fun ls hl => ?_)
  refine lv_iload_n hx hb d_Model_ofSign_14 rfl (lv_at hl 1 rfl) ?_
  refine lv_iload_n hx hb d_Model_ofSign_15 rfl (lv_at hl 0 rfl) ?_
  refine lv_iadd hx hb d_Model_ofSign_16 ?_
  refine lv_aload_n hx hb d_Model_ofSign_17 rfl (lv_at hl 2 rfl) ?_
  refine va_get (D := D) (ci := 11) (v := .int v0.2.1) (C := R_Model) (T := F_Model) (N := 23) hx hb htB in_Model hown hK hP 0 rfl rfl 1 (by decide) (htB _ b_309) (fun _ h9 => h9) rfl d_Model_ofSign_18 ?_
  refine lv_icmp_le (tgt := 26) hx hb d_Model_ofSign_21 rfl (fun hc => ?_) (fun hc => ?_)
  · have h := (if_pos hc).symm.trans h
    refine lv_iconst (v := 1) hx hb d_Model_ofSign_26 (by decide) ?_
    refine lv_istore (lv' := [(4, .int (1 : Int32)), (3, .int o10), (2, .int o3), (0, .ref a0_0), (1, .int v1)]) hx hb d_Model_ofSign_27 hl (by decide) rfl (fun ls hl => ?_)
    refine lv_iconst (v := 0) hx hb d_Model_ofSign_29 (by decide) ?_
    refine lv_istore (lv' := [(5, .int (0 : Int32)), (4, .int (1 : Int32)), (3, .int o10), (2, .int o3), (0, .ref a0_0), (1, .int v1)]) hx hb d_Model_ofSign_30 hl (by decide) rfl (fun ls hl => ?_)
    exact w_Model_ofSign_32 X FU v0 v1 o3 o10 (1 : Int32) (0 : Int32) ls H locs h (lv_sub hl [4, 5, 3, 2, 1, 0] rfl) hP hD hS
  have h := (if_neg hc).symm.trans h
  refine lv_iconst (v := 0) hx hb d_Model_ofSign_24 (by decide) ?_
  obtain rfl := Option.some.inj h
  exact W.zret (v := (0 : Int32)) (ty := .boolean) hx hb hr rfl (fun t ht hW => ⟨⟨(0 : Int32), (), rfl, rfl, by rw [ht]; exact hP, hD⟩, hS.F ht⟩) hS.2.2 d_Model_ofSign_25 hlocks

set_option maxHeartbeats 4000000 in
set_option maxRecDepth 100000 in
theorem c_Model_ofSign (l : Launch) (D : va_G) (cC cI : ClassId) (sz : Nat) (a0_0 a0_1 a0_2 a0_3 a0_4 a0_5 a0_6 a0_7 : Nat) (v0 : T_Model) (v1 : Int32) (out : O_Model_ofSign) (h : f_Model_ofSign v0 v1 = some out) : Met l y_Model_ofSign (.code y_Model_ofSign b_Model_ofSign 6 (some .boolean) :: BIG) rm_Model_ofSign (va_Pc [.ref a0_0, .int v1] (xPre D cC cI (wd_Model_ofSign cC cI a0_0 a0_1 a0_2 a0_3 a0_4 a0_5 a0_6 a0_7 v0) sz)) (q_Model_ofSign D cC cI a0_0 a0_1 a0_2 a0_3 a0_4 a0_5 a0_6 a0_7 out (va_A (wd_Model_ofSign cC cI a0_0 a0_1 a0_2 a0_3 a0_4 a0_5 a0_6 a0_7 v0) sz)) 0 0 (va_A (wd_Model_ofSign cC cI a0_0 a0_1 a0_2 a0_3 a0_4 a0_5 a0_6 a0_7 v0) sz) := by
  refine Met.ofW (cc := b_Model_ofSign) (maxL := 6) (ret := (some .boolean)) (by decide) rfl ?_
  intro p e s m args below meth c s₁ B hml hv
  obtain ⟨rfl, rfl, hP, hD0, hG, hZ⟩ := hv
  have hl := lv_entry [.ref a0_0, .int v1] (n := 6) (Nat.le_of_ble_eq_true rfl)
  rw [lg_entry_eq]
  exact w_Model_ofSign (x_cx B hml hG hZ) v0 v1 h hl hP hD0.self va_S.rf

abbrev wd_Model_parse (cC cI : ClassId) (a0_0 a0_1 a0_2 a0_3 a0_4 a0_5 a0_6 a0_7 : Nat) (v0 : T_Model) : va_W := [(a0_0, .inr (11, [.ref a0_1, .int v0.2.1, .ref a0_2, .int v0.2.2.2.1, .int v0.2.2.2.2.1, .int v0.2.2.2.2.2.1, .ref a0_3, .ref a0_4, .ref a0_5, .int v0.2.2.2.2.2.2.2.2.2.1, .int v0.2.2.2.2.2.2.2.2.2.2.1, .int v0.2.2.2.2.2.2.2.2.2.2.2.1, .int v0.2.2.2.2.2.2.2.2.2.2.2.2.1, .ref a0_6, .int v0.2.2.2.2.2.2.2.2.2.2.2.2.2.2.1, .int v0.2.2.2.2.2.2.2.2.2.2.2.2.2.2.2.1, .int v0.2.2.2.2.2.2.2.2.2.2.2.2.2.2.2.2.1, .ref a0_7, .long v0.2.2.2.2.2.2.2.2.2.2.2.2.2.2.2.2.2.2.1, .int v0.2.2.2.2.2.2.2.2.2.2.2.2.2.2.2.2.2.2.2.1, .long v0.2.2.2.2.2.2.2.2.2.2.2.2.2.2.2.2.2.2.2.2.1, .int v0.2.2.2.2.2.2.2.2.2.2.2.2.2.2.2.2.2.2.2.2.2.1, .int v0.2.2.2.2.2.2.2.2.2.2.2.2.2.2.2.2.2.2.2.2.2.2])), (a0_1, .inl (cC, 120, .inl v0.1)), (a0_2, .inl (cC, 200, .inl v0.2.2.1)), (a0_3, .inl (cI, 160, .inl v0.2.2.2.2.2.2.1)), (a0_4, .inl (cI, 4, .inl v0.2.2.2.2.2.2.2.1)), (a0_5, .inl (cI, 7, .inl v0.2.2.2.2.2.2.2.2.1)), (a0_6, .inl (cI, 40, .inl v0.2.2.2.2.2.2.2.2.2.2.2.2.2.1)), (a0_7, .inl (cI, 6, .inl v0.2.2.2.2.2.2.2.2.2.2.2.2.2.2.2.2.2.1))]
abbrev O_Model_parse : Type := Int32 × T_Model
abbrev q_Model_parse (D : va_G) (cC cI : ClassId) (a0_0 a0_1 a0_2 a0_3 a0_4 a0_5 a0_6 a0_7 : Nat)  (out : O_Model_parse) (A : Nat → Prop) : Array Value → State → Outcome → State → Prop := va_Qi (fun r (_ : Unit) => r = out.1) (fun _ t => va_P D classes (wd_Model_parse cC cI a0_0 a0_1 a0_2 a0_3 a0_4 a0_5 a0_6 a0_7 out.2) t.heap ∧ va_D A (wd_Model_parse cC cI a0_0 a0_1 a0_2 a0_3 a0_4 a0_5 a0_6 a0_7 out.2)) A
abbrev rm_Model_parse : Room := { frames := 3, cells := 0, slots := 0, locals := 82 }
def J_Model_parse_31 (p : Program) (l : Launch) (e : Env) (s : State) (m : MethodId) (args : Array Value) (below : List Frame) (meth : Method) (c : Code) (A : Nat → Prop) (D : va_G) (cC cI : ClassId) (a0_0 a0_1 a0_2 a0_3 a0_4 a0_5 a0_6 a0_7 : Nat) (out : O_Model_parse) (k : T_Model → Int32 → Option O_Model_parse) : Prop := ∀ (v0 : T_Model) (x1 : Int32) (ls : Array Slot) (H : Heap) (locs : List Loc), k v0 x1 = some out → lv_has ls 3 [(0, .ref a0_0), (1, .int x1)] → va_P D classes (wd_Model_parse cC cI a0_0 a0_1 a0_2 a0_3 a0_4 a0_5 a0_6 a0_7 v0) H → va_D A (wd_Model_parse cC cI a0_0 a0_1 a0_2 a0_3 a0_4 a0_5 a0_6 a0_7 v0) → va_S A s.heap H locs → W p l e rm_Model_parse s m args below meth c H locs 0 0 (MQ below (q_Model_parse D cC cI a0_0 a0_1 a0_2 a0_3 a0_4 a0_5 a0_6 a0_7 out A) args s 0 0 A) (F0 m 31 ls [])
def J_Model_parse_32 (p : Program) (l : Launch) (e : Env) (s : State) (m : MethodId) (args : Array Value) (below : List Frame) (meth : Method) (c : Code) (A : Nat → Prop) (D : va_G) (cC cI : ClassId) (a0_0 a0_1 a0_2 a0_3 a0_4 a0_5 a0_6 a0_7 : Nat) (out : O_Model_parse) (k : T_Model → Int32 → Int32 → Option O_Model_parse) : Prop := ∀ (v0 : T_Model) (x1 : Int32) (s0 : Int32) (ls : Array Slot) (H : Heap) (locs : List Loc), k v0 x1 s0 = some out → lv_has ls 3 [(0, .ref a0_0), (1, .int x1)] → va_P D classes (wd_Model_parse cC cI a0_0 a0_1 a0_2 a0_3 a0_4 a0_5 a0_6 a0_7 v0) H → va_D A (wd_Model_parse cC cI a0_0 a0_1 a0_2 a0_3 a0_4 a0_5 a0_6 a0_7 v0) → va_S A s.heap H locs → W p l e rm_Model_parse s m args below meth c H locs 0 0 (MQ below (q_Model_parse D cC cI a0_0 a0_1 a0_2 a0_3 a0_4 a0_5 a0_6 a0_7 out A) args s 0 0 A) (F0 m 32 ls [.int s0])
def J_Model_parse_41 (p : Program) (l : Launch) (e : Env) (s : State) (m : MethodId) (args : Array Value) (below : List Frame) (meth : Method) (c : Code) (A : Nat → Prop) (D : va_G) (cC cI : ClassId) (a0_0 a0_1 a0_2 a0_3 a0_4 a0_5 a0_6 a0_7 : Nat) (out : O_Model_parse) (k : T_Model → Int32 → Option O_Model_parse) : Prop := ∀ (v0 : T_Model) (x2 : Int32) (ls : Array Slot) (H : Heap) (locs : List Loc), k v0 x2 = some out → lv_has ls 3 [(0, .ref a0_0), (2, .int x2)] → va_P D classes (wd_Model_parse cC cI a0_0 a0_1 a0_2 a0_3 a0_4 a0_5 a0_6 a0_7 v0) H → va_D A (wd_Model_parse cC cI a0_0 a0_1 a0_2 a0_3 a0_4 a0_5 a0_6 a0_7 v0) → va_S A s.heap H locs → W p l e rm_Model_parse s m args below meth c H locs 0 0 (MQ below (q_Model_parse D cC cI a0_0 a0_1 a0_2 a0_3 a0_4 a0_5 a0_6 a0_7 out A) args s 0 0 A) (F0 m 41 ls [])
def J_Model_parse_67 (p : Program) (l : Launch) (e : Env) (s : State) (m : MethodId) (args : Array Value) (below : List Frame) (meth : Method) (c : Code) (A : Nat → Prop) (D : va_G) (cC cI : ClassId) (a0_0 a0_1 a0_2 a0_3 a0_4 a0_5 a0_6 a0_7 : Nat) (out : O_Model_parse) (k : T_Model → Int64 → Option O_Model_parse) : Prop := ∀ (v0 : T_Model) (s1 : Int64) (ls : Array Slot) (H : Heap) (locs : List Loc), k v0 s1 = some out → lv_has ls 3 [(0, .ref a0_0)] → va_P D classes (wd_Model_parse cC cI a0_0 a0_1 a0_2 a0_3 a0_4 a0_5 a0_6 a0_7 v0) H → va_D A (wd_Model_parse cC cI a0_0 a0_1 a0_2 a0_3 a0_4 a0_5 a0_6 a0_7 v0) → va_S A s.heap H locs → W p l e rm_Model_parse s m args below meth c H locs 0 0 (MQ below (q_Model_parse D cC cI a0_0 a0_1 a0_2 a0_3 a0_4 a0_5 a0_6 a0_7 out A) args s 0 0 A) (F0 m 67 ls [.long s1, .ref a0_0])
def f_Model_parse_67 (v0 : T_Model) (s1 : Int64) : Option O_Model_parse := some ((1 : Int32), (v0.1, v0.2.1, v0.2.2.1, v0.2.2.2.1, v0.2.2.2.2.1, v0.2.2.2.2.2.1, v0.2.2.2.2.2.2.1, v0.2.2.2.2.2.2.2.1, v0.2.2.2.2.2.2.2.2.1, v0.2.2.2.2.2.2.2.2.2.1, v0.2.2.2.2.2.2.2.2.2.2.1, v0.2.2.2.2.2.2.2.2.2.2.2.1, v0.2.2.2.2.2.2.2.2.2.2.2.2.1, v0.2.2.2.2.2.2.2.2.2.2.2.2.2.1, v0.2.2.2.2.2.2.2.2.2.2.2.2.2.2.1, v0.2.2.2.2.2.2.2.2.2.2.2.2.2.2.2.1, v0.2.2.2.2.2.2.2.2.2.2.2.2.2.2.2.2.1, v0.2.2.2.2.2.2.2.2.2.2.2.2.2.2.2.2.2.1, s1, v0.2.2.2.2.2.2.2.2.2.2.2.2.2.2.2.2.2.2.2.2.2.1, v0.2.2.2.2.2.2.2.2.2.2.2.2.2.2.2.2.2.2.2.2.1, v0.2.2.2.2.2.2.2.2.2.2.2.2.2.2.2.2.2.2.2.2.2.1, v0.2.2.2.2.2.2.2.2.2.2.2.2.2.2.2.2.2.2.2.2.2.2))
set_option maxHeartbeats 4000000 in
set_option maxRecDepth 100000 in
theorem w_Model_parse_67 {p : Program} {l : Launch} {e : Env} {s : State} {m : MethodId} {args : Array Value} {below : List Frame} {meth : Method} {c : Code} {A : Nat → Prop} {D : va_G} {cC cI : ClassId} {a0_0 a0_1 a0_2 a0_3 a0_4 a0_5 a0_6 a0_7 : Nat} (X : xCX p s m args meth c A D cC cI b_Model_parse 3 R_Model (some .boolean)) {out : O_Model_parse}   : J_Model_parse_67 p l e s m args below meth c A D cC cI a0_0 a0_1 a0_2 a0_3 a0_4 a0_5 a0_6 a0_7 out (f_Model_parse_67  ) := by
  obtain ⟨hx, hb, hml, hown, htB, ⟨hK, hN⟩, hZ, hA, hr, hlocks⟩ := id X
  intro v0 s1 ls H locs h hl hP hD hS
  refine va_put (D := D) (ci := 11) (v := .long s1) (ty := .long) (C := R_Model) (T := F_Model) (N := 23) hx hb htB in_Model t_Model t_Model_ok n_Model hown hK hP hD hS 0 rfl rfl 18 (by decide) (htB _ b_462) (fun _ h9 => h9) rfl (by decide +kernel) rfl rfl (Nat.le_of_ble_eq_true rfl) d_Model_parse_67 (fun H locs hP hD hS => ?_)
  have hP : va_P D classes (wd_Model_parse cC cI a0_0 a0_1 a0_2 a0_3 a0_4 a0_5 a0_6 a0_7 (v0.1, v0.2.1, v0.2.2.1, v0.2.2.2.1, v0.2.2.2.2.1, v0.2.2.2.2.2.1, v0.2.2.2.2.2.2.1, v0.2.2.2.2.2.2.2.1, v0.2.2.2.2.2.2.2.2.1, v0.2.2.2.2.2.2.2.2.2.1, v0.2.2.2.2.2.2.2.2.2.2.1, v0.2.2.2.2.2.2.2.2.2.2.2.1, v0.2.2.2.2.2.2.2.2.2.2.2.2.1, v0.2.2.2.2.2.2.2.2.2.2.2.2.2.1, v0.2.2.2.2.2.2.2.2.2.2.2.2.2.2.1, v0.2.2.2.2.2.2.2.2.2.2.2.2.2.2.2.1, v0.2.2.2.2.2.2.2.2.2.2.2.2.2.2.2.2.1, v0.2.2.2.2.2.2.2.2.2.2.2.2.2.2.2.2.2.1, s1, v0.2.2.2.2.2.2.2.2.2.2.2.2.2.2.2.2.2.2.2.1, v0.2.2.2.2.2.2.2.2.2.2.2.2.2.2.2.2.2.2.2.2.1, v0.2.2.2.2.2.2.2.2.2.2.2.2.2.2.2.2.2.2.2.2.2.1, v0.2.2.2.2.2.2.2.2.2.2.2.2.2.2.2.2.2.2.2.2.2.2)) H := hP
  have hD : va_D A (wd_Model_parse cC cI a0_0 a0_1 a0_2 a0_3 a0_4 a0_5 a0_6 a0_7 (v0.1, v0.2.1, v0.2.2.1, v0.2.2.2.1, v0.2.2.2.2.1, v0.2.2.2.2.2.1, v0.2.2.2.2.2.2.1, v0.2.2.2.2.2.2.2.1, v0.2.2.2.2.2.2.2.2.1, v0.2.2.2.2.2.2.2.2.2.1, v0.2.2.2.2.2.2.2.2.2.2.1, v0.2.2.2.2.2.2.2.2.2.2.2.1, v0.2.2.2.2.2.2.2.2.2.2.2.2.1, v0.2.2.2.2.2.2.2.2.2.2.2.2.2.1, v0.2.2.2.2.2.2.2.2.2.2.2.2.2.2.1, v0.2.2.2.2.2.2.2.2.2.2.2.2.2.2.2.1, v0.2.2.2.2.2.2.2.2.2.2.2.2.2.2.2.2.1, v0.2.2.2.2.2.2.2.2.2.2.2.2.2.2.2.2.2.1, s1, v0.2.2.2.2.2.2.2.2.2.2.2.2.2.2.2.2.2.2.2.1, v0.2.2.2.2.2.2.2.2.2.2.2.2.2.2.2.2.2.2.2.2.1, v0.2.2.2.2.2.2.2.2.2.2.2.2.2.2.2.2.2.2.2.2.2.1, v0.2.2.2.2.2.2.2.2.2.2.2.2.2.2.2.2.2.2.2.2.2.2)) := hD
  refine lv_aload_n hx hb d_Model_parse_70 rfl (lv_at hl 0 rfl) ?_
  refine lv_aload_n hx hb d_Model_parse_71 rfl (lv_at hl 0 rfl) ?_
  refine va_get (D := D) (ci := 11) (v := .int v0.2.2.2.2.2.2.2.2.2.2.2.2.2.2.2.2.2.2.2.2.2.1) (C := R_Model) (T := F_Model) (N := 23) hx hb htB in_Model hown hK hP 0 rfl rfl 21 (by decide) (htB _ b_449) (fun _ h9 => h9) rfl d_Model_parse_72 ?_
  refine va_put (D := D) (ci := 11) (v := .int v0.2.2.2.2.2.2.2.2.2.2.2.2.2.2.2.2.2.2.2.2.2.1) (ty := .int) (C := R_Model) (T := F_Model) (N := 23) hx hb htB in_Model t_Model t_Model_ok n_Model hown hK hP hD hS 0 rfl rfl 19 (by decide) (htB _ b_463) (fun _ h9 => h9) rfl (by decide +kernel) rfl rfl (Nat.le_of_ble_eq_true rfl) d_Model_parse_75 (fun H locs hP hD hS => ?_)
  have hP : va_P D classes (wd_Model_parse cC cI a0_0 a0_1 a0_2 a0_3 a0_4 a0_5 a0_6 a0_7 (v0.1, v0.2.1, v0.2.2.1, v0.2.2.2.1, v0.2.2.2.2.1, v0.2.2.2.2.2.1, v0.2.2.2.2.2.2.1, v0.2.2.2.2.2.2.2.1, v0.2.2.2.2.2.2.2.2.1, v0.2.2.2.2.2.2.2.2.2.1, v0.2.2.2.2.2.2.2.2.2.2.1, v0.2.2.2.2.2.2.2.2.2.2.2.1, v0.2.2.2.2.2.2.2.2.2.2.2.2.1, v0.2.2.2.2.2.2.2.2.2.2.2.2.2.1, v0.2.2.2.2.2.2.2.2.2.2.2.2.2.2.1, v0.2.2.2.2.2.2.2.2.2.2.2.2.2.2.2.1, v0.2.2.2.2.2.2.2.2.2.2.2.2.2.2.2.2.1, v0.2.2.2.2.2.2.2.2.2.2.2.2.2.2.2.2.2.1, s1, v0.2.2.2.2.2.2.2.2.2.2.2.2.2.2.2.2.2.2.2.2.2.1, v0.2.2.2.2.2.2.2.2.2.2.2.2.2.2.2.2.2.2.2.2.1, v0.2.2.2.2.2.2.2.2.2.2.2.2.2.2.2.2.2.2.2.2.2.1, v0.2.2.2.2.2.2.2.2.2.2.2.2.2.2.2.2.2.2.2.2.2.2)) H := hP
  have hD : va_D A (wd_Model_parse cC cI a0_0 a0_1 a0_2 a0_3 a0_4 a0_5 a0_6 a0_7 (v0.1, v0.2.1, v0.2.2.1, v0.2.2.2.1, v0.2.2.2.2.1, v0.2.2.2.2.2.1, v0.2.2.2.2.2.2.1, v0.2.2.2.2.2.2.2.1, v0.2.2.2.2.2.2.2.2.1, v0.2.2.2.2.2.2.2.2.2.1, v0.2.2.2.2.2.2.2.2.2.2.1, v0.2.2.2.2.2.2.2.2.2.2.2.1, v0.2.2.2.2.2.2.2.2.2.2.2.2.1, v0.2.2.2.2.2.2.2.2.2.2.2.2.2.1, v0.2.2.2.2.2.2.2.2.2.2.2.2.2.2.1, v0.2.2.2.2.2.2.2.2.2.2.2.2.2.2.2.1, v0.2.2.2.2.2.2.2.2.2.2.2.2.2.2.2.2.1, v0.2.2.2.2.2.2.2.2.2.2.2.2.2.2.2.2.2.1, s1, v0.2.2.2.2.2.2.2.2.2.2.2.2.2.2.2.2.2.2.2.2.2.1, v0.2.2.2.2.2.2.2.2.2.2.2.2.2.2.2.2.2.2.2.2.1, v0.2.2.2.2.2.2.2.2.2.2.2.2.2.2.2.2.2.2.2.2.2.1, v0.2.2.2.2.2.2.2.2.2.2.2.2.2.2.2.2.2.2.2.2.2.2)) := hD
  refine lv_iconst (v := 1) hx hb d_Model_parse_78 (by decide) ?_
  obtain rfl := Option.some.inj h
  exact W.zret (v := (1 : Int32)) (ty := .boolean) hx hb hr rfl (fun t ht hW => ⟨⟨(1 : Int32), (), rfl, rfl, by rw [ht]; exact hP, hD⟩, hS.F ht⟩) hS.2.2 d_Model_parse_79 hlocks

def J_Model_parse_48 (p : Program) (l : Launch) (e : Env) (s : State) (m : MethodId) (args : Array Value) (below : List Frame) (meth : Method) (c : Code) (A : Nat → Prop) (D : va_G) (cC cI : ClassId) (a0_0 a0_1 a0_2 a0_3 a0_4 a0_5 a0_6 a0_7 : Nat) (out : O_Model_parse) (k : T_Model → Option O_Model_parse) : Prop := ∀ (v0 : T_Model) (ls : Array Slot) (H : Heap) (locs : List Loc), k v0 = some out → lv_has ls 3 [] → va_P D classes (wd_Model_parse cC cI a0_0 a0_1 a0_2 a0_3 a0_4 a0_5 a0_6 a0_7 v0) H → va_D A (wd_Model_parse cC cI a0_0 a0_1 a0_2 a0_3 a0_4 a0_5 a0_6 a0_7 v0) → va_S A s.heap H locs → W p l e rm_Model_parse s m args below meth c H locs 0 0 (MQ below (q_Model_parse D cC cI a0_0 a0_1 a0_2 a0_3 a0_4 a0_5 a0_6 a0_7 out A) args s 0 0 A) (F0 m 48 ls [])
def f_Model_parse_48 (v0 : T_Model) : Option O_Model_parse := some ((0 : Int32), v0)
set_option maxHeartbeats 4000000 in
set_option maxRecDepth 100000 in
theorem w_Model_parse_48 {p : Program} {l : Launch} {e : Env} {s : State} {m : MethodId} {args : Array Value} {below : List Frame} {meth : Method} {c : Code} {A : Nat → Prop} {D : va_G} {cC cI : ClassId} {a0_0 a0_1 a0_2 a0_3 a0_4 a0_5 a0_6 a0_7 : Nat} (X : xCX p s m args meth c A D cC cI b_Model_parse 3 R_Model (some .boolean)) {out : O_Model_parse}   : J_Model_parse_48 p l e s m args below meth c A D cC cI a0_0 a0_1 a0_2 a0_3 a0_4 a0_5 a0_6 a0_7 out (f_Model_parse_48  ) := by
  obtain ⟨hx, hb, hml, hown, htB, ⟨hK, hN⟩, hZ, hA, hr, hlocks⟩ := id X
  intro v0 ls H locs h hl hP hD hS
  refine lv_iconst (v := 0) hx hb d_Model_parse_48 (by decide) ?_
  obtain rfl := Option.some.inj h
  exact W.zret (v := (0 : Int32)) (ty := .boolean) hx hb hr rfl (fun t ht hW => ⟨⟨(0 : Int32), (), rfl, rfl, by rw [ht]; exact hP, hD⟩, hS.F ht⟩) hS.2.2 d_Model_parse_49 hlocks

def f_Model_parse_41 (v0 : T_Model) (x2 : Int32) : Option O_Model_parse := (if v0.2.2.2.2.2.2.2.2.2.2.2.2.2.2.2.2.2.2.2.2.2.2 = 0 then (if x2 = 0 then f_Model_parse_67 v0 v0.2.2.2.2.2.2.2.2.2.2.2.2.2.2.2.2.2.2.2.2.1 else f_Model_parse_67 v0 (-v0.2.2.2.2.2.2.2.2.2.2.2.2.2.2.2.2.2.2.2.2.1)) else f_Model_parse_48 v0)
set_option maxHeartbeats 4000000 in
set_option maxRecDepth 100000 in
theorem w_Model_parse_41 {p : Program} {l : Launch} {e : Env} {s : State} {m : MethodId} {args : Array Value} {below : List Frame} {meth : Method} {c : Code} {A : Nat → Prop} {D : va_G} {cC cI : ClassId} {a0_0 a0_1 a0_2 a0_3 a0_4 a0_5 a0_6 a0_7 : Nat} (X : xCX p s m args meth c A D cC cI b_Model_parse 3 R_Model (some .boolean)) {out : O_Model_parse}   : J_Model_parse_41 p l e s m args below meth c A D cC cI a0_0 a0_1 a0_2 a0_3 a0_4 a0_5 a0_6 a0_7 out (f_Model_parse_41  ) := by
  obtain ⟨hx, hb, hml, hown, htB, ⟨hK, hN⟩, hZ, hA, hr, hlocks⟩ := id X
  intro v0 x2 ls H locs h hl hP hD hS
  refine lv_aload_n hx hb d_Model_parse_41 rfl (lv_at hl 0 rfl) ?_
  refine va_get (D := D) (ci := 11) (v := .int v0.2.2.2.2.2.2.2.2.2.2.2.2.2.2.2.2.2.2.2.2.2.2) (C := R_Model) (T := F_Model) (N := 23) hx hb htB in_Model hown hK hP 0 rfl rfl 22 (by decide) (htB _ b_447) (fun _ h9 => h9) rfl d_Model_parse_42 ?_
  refine lv_if_eq (tgt := 50) hx hb d_Model_parse_45 rfl (fun hc => ?_) (fun hc => ?_)
  · have h := (if_pos hc).symm.trans h
    refine lv_aload_n hx hb d_Model_parse_50 rfl (lv_at hl 0 rfl) ?_
    refine lv_iload_n hx hb d_Model_parse_51 rfl (lv_at hl 1 rfl) ?_
    refine lv_if_eq (tgt := 63) hx hb d_Model_parse_52 rfl (fun hc => ?_) (fun hc => ?_)
    · have h := (if_pos hc).symm.trans h
      refine lv_aload_n hx hb d_Model_parse_63 rfl (lv_at hl 0 rfl) ?_
      refine va_get (D := D) (ci := 11) (v := .long v0.2.2.2.2.2.2.2.2.2.2.2.2.2.2.2.2.2.2.2.2.1) (C := R_Model) (T := F_Model) (N := 23) hx hb htB in_Model hown hK hP 0 rfl rfl 20 (by decide) (htB _ b_448) (fun _ h9 => h9) rfl d_Model_parse_64 ?_
      exact w_Model_parse_67 X v0 v0.2.2.2.2.2.2.2.2.2.2.2.2.2.2.2.2.2.2.2.2.1 ls H locs h (lv_sub hl [0] rfl) hP hD hS
    have h := (if_neg hc).symm.trans h
    refine lv_aload_n hx hb d_Model_parse_55 rfl (lv_at hl 0 rfl) ?_
    refine va_get (D := D) (ci := 11) (v := .long v0.2.2.2.2.2.2.2.2.2.2.2.2.2.2.2.2.2.2.2.2.1) (C := R_Model) (T := F_Model) (N := 23) hx hb htB in_Model hown hK hP 0 rfl rfl 20 (by decide) (htB _ b_448) (fun _ h9 => h9) rfl d_Model_parse_56 ?_
    refine lv_lneg hx hb d_Model_parse_59 ?_
    refine lv_goto (tgt := 67) hx hb d_Model_parse_60 rfl ?_
    exact w_Model_parse_67 X v0 (-v0.2.2.2.2.2.2.2.2.2.2.2.2.2.2.2.2.2.2.2.2.1) ls H locs h (lv_sub hl [0] rfl) hP hD hS
  have h := (if_neg hc).symm.trans h
  exact w_Model_parse_48 X v0 ls H locs h (lv_sub hl [] rfl) hP hD hS

def f_Model_parse_32 (v0 : T_Model) (x1 : Int32) (s0 : Int32) : Option O_Model_parse := (if x1 = 0 then (if s0 = 0 then f_Model_parse_48 v0 else f_Model_parse_41 v0 s0) else f_Model_parse_41 v0 s0)
set_option maxHeartbeats 4000000 in
set_option maxRecDepth 100000 in
theorem w_Model_parse_32 {p : Program} {l : Launch} {e : Env} {s : State} {m : MethodId} {args : Array Value} {below : List Frame} {meth : Method} {c : Code} {A : Nat → Prop} {D : va_G} {cC cI : ClassId} {a0_0 a0_1 a0_2 a0_3 a0_4 a0_5 a0_6 a0_7 : Nat} (X : xCX p s m args meth c A D cC cI b_Model_parse 3 R_Model (some .boolean)) {out : O_Model_parse}   : J_Model_parse_32 p l e s m args below meth c A D cC cI a0_0 a0_1 a0_2 a0_3 a0_4 a0_5 a0_6 a0_7 out (f_Model_parse_32  ) := by
  obtain ⟨hx, hb, hml, hown, htB, ⟨hK, hN⟩, hZ, hA, hr, hlocks⟩ := id X
  intro v0 x1 s0 ls H locs h hl hP hD hS
  refine lv_istore_n (lv' := [(2, .int s0), (0, .ref a0_0), (1, .int x1)]) hx hb d_Model_parse_32 rfl hl (by decide) rfl (fun ls hl => ?_)
  refine lv_iload_n hx hb d_Model_parse_33 rfl (lv_at hl 2 rfl) ?_
  refine lv_if_ne (tgt := 41) hx hb d_Model_parse_34 rfl (fun hc => ?_) (fun hc => ?_)
  · have h := (if_neg hc).symm.trans h
    exact w_Model_parse_41 X v0 s0 ls H locs h (lv_sub hl [1, 0] rfl) hP hD hS
  have h := (if_pos hc).symm.trans h
  refine lv_iload_n hx hb d_Model_parse_37 rfl (lv_at hl 0 rfl) ?_
  refine lv_if_eq (tgt := 48) hx hb d_Model_parse_38 rfl (fun hc => ?_) (fun hc => ?_)
  · have h := (if_pos hc).symm.trans h
    exact w_Model_parse_48 X v0 ls H locs h (lv_sub hl [] rfl) hP hD hS
  have h := (if_neg hc).symm.trans h
  exact w_Model_parse_41 X v0 s0 ls H locs h (lv_sub hl [1, 0] rfl) hP hD hS

def f_Model_parse_31 (v0 : T_Model) (x1 : Int32) : Option O_Model_parse := f_Model_parse_32 v0 x1 (0 : Int32)
set_option maxHeartbeats 4000000 in
set_option maxRecDepth 100000 in
theorem w_Model_parse_31 {p : Program} {l : Launch} {e : Env} {s : State} {m : MethodId} {args : Array Value} {below : List Frame} {meth : Method} {c : Code} {A : Nat → Prop} {D : va_G} {cC cI : ClassId} {a0_0 a0_1 a0_2 a0_3 a0_4 a0_5 a0_6 a0_7 : Nat} (X : xCX p s m args meth c A D cC cI b_Model_parse 3 R_Model (some .boolean)) {out : O_Model_parse}   : J_Model_parse_31 p l e s m args below meth c A D cC cI a0_0 a0_1 a0_2 a0_3 a0_4 a0_5 a0_6 a0_7 out (f_Model_parse_31  ) := by
  obtain ⟨hx, hb, hml, hown, htB, ⟨hK, hN⟩, hZ, hA, hr, hlocks⟩ := id X
  intro v0 x1 ls H locs h hl hP hD hS
  refine lv_iconst (v := 0) hx hb d_Model_parse_31 (by decide) ?_
  exact w_Model_parse_32 X v0 x1 (0 : Int32) ls H locs h (lv_sub hl [0, 1] rfl) hP hD hS

def f_Model_parse (v0 : T_Model) : Option O_Model_parse := (if v0.2.2.2.2.2.1 = 0 then some ((0 : Int32), v0) else (f_Model_ofSign v0 (0 : Int32)).bind (fun o11 => (if o11.1 = 0 then (f_Model_ofSign o11.2 (1 : Int32)).bind (fun o21 => (if o21.1 = 0 then f_Model_parse_31 o21.2 o11.1 else f_Model_parse_32 o21.2 o11.1 (1 : Int32))) else f_Model_parse_31 o11.2 o11.1)))
set_option maxHeartbeats 4000000 in
set_option maxRecDepth 100000 in
theorem w_Model_parse {p : Program} {l : Launch} {e : Env} {s : State} {m : MethodId} {args : Array Value} {below : List Frame} {meth : Method} {c : Code} {A : Nat → Prop} {D : va_G} {cC cI : ClassId} {a0_0 a0_1 a0_2 a0_3 a0_4 a0_5 a0_6 a0_7 : Nat} (X : xCX p s m args meth c A D cC cI b_Model_parse 3 R_Model (some .boolean)) {out : O_Model_parse} (v0 : T_Model) {ls : Array Slot} {H : Heap} {locs : List Loc} (h : f_Model_parse v0 = some out) (hl : lv_has ls 3 [(0, .ref a0_0)]) (hP : va_P D classes (wd_Model_parse cC cI a0_0 a0_1 a0_2 a0_3 a0_4 a0_5 a0_6 a0_7 v0) H) (hD : va_D A (wd_Model_parse cC cI a0_0 a0_1 a0_2 a0_3 a0_4 a0_5 a0_6 a0_7 v0)) (hS : va_S A s.heap H locs) : W p l e rm_Model_parse s m args below meth c H locs 0 0 (MQ below (q_Model_parse D cC cI a0_0 a0_1 a0_2 a0_3 a0_4 a0_5 a0_6 a0_7 out A) args s 0 0 A) (F0 m 0 ls []) := by
  obtain ⟨hx, hb, hml, hown, htB, ⟨hK, hN⟩, hZ, hA, hr, hlocks⟩ := id X
  refine lv_aload_n hx hb d_Model_parse_0 rfl (lv_at hl 0 rfl) ?_
  refine va_get (D := D) (ci := 11) (v := .int v0.2.2.2.2.2.1) (C := R_Model) (T := F_Model) (N := 23) hx hb htB in_Model hown hK hP 0 rfl rfl 5 (by decide) (htB _ b_360) (fun _ h9 => h9) rfl d_Model_parse_1 ?_
  refine lv_if_ne (tgt := 9) hx hb d_Model_parse_4 rfl (fun hc => ?_) (fun hc => ?_)
  · have h := (if_neg hc).symm.trans h
    refine lv_aload_n hx hb d_Model_parse_9 rfl (lv_at hl 0 rfl) ?_
    refine lv_iconst (v := 0) hx hb d_Model_parse_10 (by decide) ?_
    obtain ⟨o11, ho11, h⟩ := x_bnd h
    refine x_calli (r0 := o11.1) (ws2 := (wd_Model_parse cC cI a0_0 a0_1 a0_2 a0_3 a0_4 a0_5 a0_6 a0_7 o11.2)) (x_runV (As := [.int (0 : Int32)]) (rest := []) X (c_Model_ofSign l D cC cI H.size a0_0 a0_1 a0_2 a0_3 a0_4 a0_5 a0_6 a0_7 v0 (0 : Int32) o11 ho11) b_458 1 (htB _ b_461) (htB _ b_459) (htB _ b_460) (htB _ b_319) ⟨by decide, by decide, by decide +kernel⟩ ⟨(Nat.le_of_ble_eq_true rfl), (Nat.le_of_ble_eq_true rfl)⟩ 0 rfl rfl hP hD hS [0, 1, 2, 3, 4, 5, 6, 7] rfl (by decide) rfl rfl hl.1 rfl rfl (Nat.le_of_ble_eq_true rfl) d_Model_parse_11) hP hD hS hA [0, 1, 2, 3, 4, 5, 6, 7] [] [0, 1, 2, 3, 4, 5, 6, 7] rfl rfl (by decide) (by decide) rfl (by decide) (fun H locs hP hD hS => ?_)
    refine lv_istore_n (lv' := [(1, .int o11.1), (0, .ref a0_0)]) hx hb d_Model_parse_14 rfl hl (by decide) rfl (fun ls hl => ?_)
    refine lv_iload_n hx hb d_Model_parse_15 rfl (lv_at hl 0 rfl) ?_
    refine lv_if_ne (tgt := 31) hx hb d_Model_parse_16 rfl (fun hc => ?_) (fun hc => ?_)
    · have h := (if_neg hc).symm.trans h
      exact w_Model_parse_31 X o11.2 o11.1 ls H locs h (lv_sub hl [1, 0] rfl) hP hD hS
    have h := (if_pos hc).symm.trans h
    refine lv_aload_n hx hb d_Model_parse_19 rfl (lv_at hl 1 rfl) ?_
    refine lv_iconst (v := 1) hx hb d_Model_parse_20 (by decide) ?_
    obtain ⟨o21, ho21, h⟩ := x_bnd h
    refine x_calli (r0 := o21.1) (ws2 := (wd_Model_parse cC cI a0_0 a0_1 a0_2 a0_3 a0_4 a0_5 a0_6 a0_7 o21.2)) (x_runV (As := [.int (1 : Int32)]) (rest := []) X (c_Model_ofSign l D cC cI H.size a0_0 a0_1 a0_2 a0_3 a0_4 a0_5 a0_6 a0_7 o11.2 (1 : Int32) o21 ho21) b_458 1 (htB _ b_461) (htB _ b_459) (htB _ b_460) (htB _ b_319) ⟨by decide, by decide, by decide +kernel⟩ ⟨(Nat.le_of_ble_eq_true rfl), (Nat.le_of_ble_eq_true rfl)⟩ 0 rfl rfl hP hD hS [0, 1, 2, 3, 4, 5, 6, 7] rfl (by decide) rfl rfl hl.1 rfl rfl (Nat.le_of_ble_eq_true rfl) d_Model_parse_21) hP hD hS hA [0, 1, 2, 3, 4, 5, 6, 7] [] [0, 1, 2, 3, 4, 5, 6, 7] rfl rfl (by decide) (by decide) rfl (by decide) (fun H locs hP hD hS => ?_)
    refine lv_if_eq (tgt := 31) hx hb d_Model_parse_24 rfl (fun hc => ?_) (fun hc => ?_)
    · have h := (if_pos hc).symm.trans h
      exact w_Model_parse_31 X o21.2 o11.1 ls H locs h (lv_sub hl [1, 0] rfl) hP hD hS
    have h := (if_neg hc).symm.trans h
    refine lv_iconst (v := 1) hx hb d_Model_parse_27 (by decide) ?_
    refine lv_goto (tgt := 32) hx hb d_Model_parse_28 rfl ?_
    exact w_Model_parse_32 X o21.2 o11.1 (1 : Int32) ls H locs h (lv_sub hl [1, 0] rfl) hP hD hS
  have h := (if_pos hc).symm.trans h
  refine lv_iconst (v := 0) hx hb d_Model_parse_7 (by decide) ?_
  obtain rfl := Option.some.inj h
  exact W.zret (v := (0 : Int32)) (ty := .boolean) hx hb hr rfl (fun t ht hW => ⟨⟨(0 : Int32), (), rfl, rfl, by rw [ht]; exact hP, hD⟩, hS.F ht⟩) hS.2.2 d_Model_parse_8 hlocks

set_option maxHeartbeats 4000000 in
set_option maxRecDepth 100000 in
theorem c_Model_parse (l : Launch) (D : va_G) (cC cI : ClassId) (sz : Nat) (a0_0 a0_1 a0_2 a0_3 a0_4 a0_5 a0_6 a0_7 : Nat) (v0 : T_Model) (out : O_Model_parse) (h : f_Model_parse v0 = some out) : Met l y_Model_parse (.code y_Model_parse b_Model_parse 3 (some .boolean) :: BIG) rm_Model_parse (va_Pc [.ref a0_0] (xPre D cC cI (wd_Model_parse cC cI a0_0 a0_1 a0_2 a0_3 a0_4 a0_5 a0_6 a0_7 v0) sz)) (q_Model_parse D cC cI a0_0 a0_1 a0_2 a0_3 a0_4 a0_5 a0_6 a0_7 out (va_A (wd_Model_parse cC cI a0_0 a0_1 a0_2 a0_3 a0_4 a0_5 a0_6 a0_7 v0) sz)) 0 0 (va_A (wd_Model_parse cC cI a0_0 a0_1 a0_2 a0_3 a0_4 a0_5 a0_6 a0_7 v0) sz) := by
  refine Met.ofW (cc := b_Model_parse) (maxL := 3) (ret := (some .boolean)) (by decide) rfl ?_
  intro p e s m args below meth c s₁ B hml hv
  obtain ⟨rfl, rfl, hP, hD0, hG, hZ⟩ := hv
  have hl := lv_entry [.ref a0_0] (n := 3) (Nat.le_of_ble_eq_true rfl)
  rw [lg_entry_eq]
  exact w_Model_parse (x_cx B hml hG hZ) v0 h hl hP hD0.self va_S.rf

abbrev wd_Model_value (cC cI : ClassId) (a0_0 a0_1 a0_2 a0_3 a0_4 a0_5 a0_6 a0_7 : Nat) (v0 : T_Model) : va_W := [(a0_0, .inr (11, [.ref a0_1, .int v0.2.1, .ref a0_2, .int v0.2.2.2.1, .int v0.2.2.2.2.1, .int v0.2.2.2.2.2.1, .ref a0_3, .ref a0_4, .ref a0_5, .int v0.2.2.2.2.2.2.2.2.2.1, .int v0.2.2.2.2.2.2.2.2.2.2.1, .int v0.2.2.2.2.2.2.2.2.2.2.2.1, .int v0.2.2.2.2.2.2.2.2.2.2.2.2.1, .ref a0_6, .int v0.2.2.2.2.2.2.2.2.2.2.2.2.2.2.1, .int v0.2.2.2.2.2.2.2.2.2.2.2.2.2.2.2.1, .int v0.2.2.2.2.2.2.2.2.2.2.2.2.2.2.2.2.1, .ref a0_7, .long v0.2.2.2.2.2.2.2.2.2.2.2.2.2.2.2.2.2.2.1, .int v0.2.2.2.2.2.2.2.2.2.2.2.2.2.2.2.2.2.2.2.1, .long v0.2.2.2.2.2.2.2.2.2.2.2.2.2.2.2.2.2.2.2.2.1, .int v0.2.2.2.2.2.2.2.2.2.2.2.2.2.2.2.2.2.2.2.2.2.1, .int v0.2.2.2.2.2.2.2.2.2.2.2.2.2.2.2.2.2.2.2.2.2.2])), (a0_1, .inl (cC, 120, .inl v0.1)), (a0_2, .inl (cC, 200, .inl v0.2.2.1)), (a0_3, .inl (cI, 160, .inl v0.2.2.2.2.2.2.1)), (a0_4, .inl (cI, 4, .inl v0.2.2.2.2.2.2.2.1)), (a0_5, .inl (cI, 7, .inl v0.2.2.2.2.2.2.2.2.1)), (a0_6, .inl (cI, 40, .inl v0.2.2.2.2.2.2.2.2.2.2.2.2.2.1)), (a0_7, .inl (cI, 6, .inl v0.2.2.2.2.2.2.2.2.2.2.2.2.2.2.2.2.2.1))]
abbrev O_Model_value : Type := Int64
abbrev q_Model_value (D : va_G) (cC cI : ClassId) (a0_0 a0_1 a0_2 a0_3 a0_4 a0_5 a0_6 a0_7 : Nat) (v0 : T_Model) (out : O_Model_value) (A : Nat → Prop) : Array Value → State → Outcome → State → Prop := va_Ql (fun r (_ : Unit) => r = out) (fun _ t => va_P D classes (wd_Model_value cC cI a0_0 a0_1 a0_2 a0_3 a0_4 a0_5 a0_6 a0_7 v0) t.heap ∧ va_D A (wd_Model_value cC cI a0_0 a0_1 a0_2 a0_3 a0_4 a0_5 a0_6 a0_7 v0)) A
abbrev rm_Model_value : Room := { frames := 0, cells := 0, slots := 0, locals := 0 }
def f_Model_value (v0 : T_Model) : Option O_Model_value := some v0.2.2.2.2.2.2.2.2.2.2.2.2.2.2.2.2.2.2.1
set_option maxHeartbeats 4000000 in
set_option maxRecDepth 100000 in
theorem w_Model_value {p : Program} {l : Launch} {e : Env} {s : State} {m : MethodId} {args : Array Value} {below : List Frame} {meth : Method} {c : Code} {A : Nat → Prop} {D : va_G} {cC cI : ClassId} {a0_0 a0_1 a0_2 a0_3 a0_4 a0_5 a0_6 a0_7 : Nat} {v0 : T_Model} (X : xCX p s m args meth c A D cC cI b_Model_value 1 R_Model (some .long)) {out : O_Model_value}  {ls : Array Slot} {H : Heap} {locs : List Loc} (h : f_Model_value v0 = some out) (hl : lv_has ls 1 [(0, .ref a0_0)]) (hP : va_P D classes (wd_Model_value cC cI a0_0 a0_1 a0_2 a0_3 a0_4 a0_5 a0_6 a0_7 v0) H) (hD : va_D A (wd_Model_value cC cI a0_0 a0_1 a0_2 a0_3 a0_4 a0_5 a0_6 a0_7 v0)) (hS : va_S A s.heap H locs) : W p l e rm_Model_value s m args below meth c H locs 0 0 (MQ below (q_Model_value D cC cI a0_0 a0_1 a0_2 a0_3 a0_4 a0_5 a0_6 a0_7 v0 out A) args s 0 0 A) (F0 m 0 ls []) := by
  obtain ⟨hx, hb, hml, hown, htB, ⟨hK, hN⟩, hZ, hA, hr, hlocks⟩ := id X
  refine lv_aload_n hx hb d_Model_value_0 rfl (lv_at hl 0 rfl) ?_
  refine va_get (D := D) (ci := 11) (v := .long v0.2.2.2.2.2.2.2.2.2.2.2.2.2.2.2.2.2.2.1) (C := R_Model) (T := F_Model) (N := 23) hx hb htB in_Model hown hK hP 0 rfl rfl 18 (by decide) (htB _ b_462) (fun _ h9 => h9) rfl d_Model_value_1 ?_
  obtain rfl := Option.some.inj h
  exact W.lret (v := v0.2.2.2.2.2.2.2.2.2.2.2.2.2.2.2.2.2.2.1) hx hb hr (fun t ht hW => ⟨⟨v0.2.2.2.2.2.2.2.2.2.2.2.2.2.2.2.2.2.2.1, (), rfl, rfl, by rw [ht]; exact hP, hD⟩, hS.F ht⟩) hS.2.2 d_Model_value_4 hlocks

set_option maxHeartbeats 4000000 in
set_option maxRecDepth 100000 in
theorem c_Model_value (l : Launch) (D : va_G) (cC cI : ClassId) (sz : Nat) (a0_0 a0_1 a0_2 a0_3 a0_4 a0_5 a0_6 a0_7 : Nat) (v0 : T_Model) (out : O_Model_value) (h : f_Model_value v0 = some out) : Met l y_Model_value (.code y_Model_value b_Model_value 1 (some .long) :: BIG) rm_Model_value (va_Pc [.ref a0_0] (xPre D cC cI (wd_Model_value cC cI a0_0 a0_1 a0_2 a0_3 a0_4 a0_5 a0_6 a0_7 v0) sz)) (q_Model_value D cC cI a0_0 a0_1 a0_2 a0_3 a0_4 a0_5 a0_6 a0_7 v0 out (va_A (wd_Model_value cC cI a0_0 a0_1 a0_2 a0_3 a0_4 a0_5 a0_6 a0_7 v0) sz)) 0 0 (va_A (wd_Model_value cC cI a0_0 a0_1 a0_2 a0_3 a0_4 a0_5 a0_6 a0_7 v0) sz) := by
  refine Met.ofW (cc := b_Model_value) (maxL := 1) (ret := (some .long)) (by decide) rfl ?_
  intro p e s m args below meth c s₁ B hml hv
  obtain ⟨rfl, rfl, hP, hD0, hG, hZ⟩ := hv
  have hl := lv_entry [.ref a0_0] (n := 1) (Nat.le_of_ble_eq_true rfl)
  rw [lg_entry_eq]
  exact w_Model_value (x_cx B hml hG hZ) h hl hP hD0.self va_S.rf

abbrev wd_Model_scale (cC cI : ClassId) (a0_0 a0_1 a0_2 a0_3 a0_4 a0_5 a0_6 a0_7 : Nat) (v0 : T_Model) : va_W := [(a0_0, .inr (11, [.ref a0_1, .int v0.2.1, .ref a0_2, .int v0.2.2.2.1, .int v0.2.2.2.2.1, .int v0.2.2.2.2.2.1, .ref a0_3, .ref a0_4, .ref a0_5, .int v0.2.2.2.2.2.2.2.2.2.1, .int v0.2.2.2.2.2.2.2.2.2.2.1, .int v0.2.2.2.2.2.2.2.2.2.2.2.1, .int v0.2.2.2.2.2.2.2.2.2.2.2.2.1, .ref a0_6, .int v0.2.2.2.2.2.2.2.2.2.2.2.2.2.2.1, .int v0.2.2.2.2.2.2.2.2.2.2.2.2.2.2.2.1, .int v0.2.2.2.2.2.2.2.2.2.2.2.2.2.2.2.2.1, .ref a0_7, .long v0.2.2.2.2.2.2.2.2.2.2.2.2.2.2.2.2.2.2.1, .int v0.2.2.2.2.2.2.2.2.2.2.2.2.2.2.2.2.2.2.2.1, .long v0.2.2.2.2.2.2.2.2.2.2.2.2.2.2.2.2.2.2.2.2.1, .int v0.2.2.2.2.2.2.2.2.2.2.2.2.2.2.2.2.2.2.2.2.2.1, .int v0.2.2.2.2.2.2.2.2.2.2.2.2.2.2.2.2.2.2.2.2.2.2])), (a0_1, .inl (cC, 120, .inl v0.1)), (a0_2, .inl (cC, 200, .inl v0.2.2.1)), (a0_3, .inl (cI, 160, .inl v0.2.2.2.2.2.2.1)), (a0_4, .inl (cI, 4, .inl v0.2.2.2.2.2.2.2.1)), (a0_5, .inl (cI, 7, .inl v0.2.2.2.2.2.2.2.2.1)), (a0_6, .inl (cI, 40, .inl v0.2.2.2.2.2.2.2.2.2.2.2.2.2.1)), (a0_7, .inl (cI, 6, .inl v0.2.2.2.2.2.2.2.2.2.2.2.2.2.2.2.2.2.1))]
abbrev O_Model_scale : Type := Int32
abbrev q_Model_scale (D : va_G) (cC cI : ClassId) (a0_0 a0_1 a0_2 a0_3 a0_4 a0_5 a0_6 a0_7 : Nat) (v0 : T_Model) (out : O_Model_scale) (A : Nat → Prop) : Array Value → State → Outcome → State → Prop := va_Qi (fun r (_ : Unit) => r = out) (fun _ t => va_P D classes (wd_Model_scale cC cI a0_0 a0_1 a0_2 a0_3 a0_4 a0_5 a0_6 a0_7 v0) t.heap ∧ va_D A (wd_Model_scale cC cI a0_0 a0_1 a0_2 a0_3 a0_4 a0_5 a0_6 a0_7 v0)) A
abbrev rm_Model_scale : Room := { frames := 0, cells := 0, slots := 0, locals := 0 }
def f_Model_scale (v0 : T_Model) : Option O_Model_scale := some v0.2.2.2.2.2.2.2.2.2.2.2.2.2.2.2.2.2.2.2.1
set_option maxHeartbeats 4000000 in
set_option maxRecDepth 100000 in
theorem w_Model_scale {p : Program} {l : Launch} {e : Env} {s : State} {m : MethodId} {args : Array Value} {below : List Frame} {meth : Method} {c : Code} {A : Nat → Prop} {D : va_G} {cC cI : ClassId} {a0_0 a0_1 a0_2 a0_3 a0_4 a0_5 a0_6 a0_7 : Nat} {v0 : T_Model} (X : xCX p s m args meth c A D cC cI b_Model_scale 1 R_Model (some .int)) {out : O_Model_scale}  {ls : Array Slot} {H : Heap} {locs : List Loc} (h : f_Model_scale v0 = some out) (hl : lv_has ls 1 [(0, .ref a0_0)]) (hP : va_P D classes (wd_Model_scale cC cI a0_0 a0_1 a0_2 a0_3 a0_4 a0_5 a0_6 a0_7 v0) H) (hD : va_D A (wd_Model_scale cC cI a0_0 a0_1 a0_2 a0_3 a0_4 a0_5 a0_6 a0_7 v0)) (hS : va_S A s.heap H locs) : W p l e rm_Model_scale s m args below meth c H locs 0 0 (MQ below (q_Model_scale D cC cI a0_0 a0_1 a0_2 a0_3 a0_4 a0_5 a0_6 a0_7 v0 out A) args s 0 0 A) (F0 m 0 ls []) := by
  obtain ⟨hx, hb, hml, hown, htB, ⟨hK, hN⟩, hZ, hA, hr, hlocks⟩ := id X
  refine lv_aload_n hx hb d_Model_scale_0 rfl (lv_at hl 0 rfl) ?_
  refine va_get (D := D) (ci := 11) (v := .int v0.2.2.2.2.2.2.2.2.2.2.2.2.2.2.2.2.2.2.2.1) (C := R_Model) (T := F_Model) (N := 23) hx hb htB in_Model hown hK hP 0 rfl rfl 19 (by decide) (htB _ b_463) (fun _ h9 => h9) rfl d_Model_scale_1 ?_
  obtain rfl := Option.some.inj h
  exact W.iret (v := v0.2.2.2.2.2.2.2.2.2.2.2.2.2.2.2.2.2.2.2.1) hx hb hr (fun t ht hW => ⟨⟨v0.2.2.2.2.2.2.2.2.2.2.2.2.2.2.2.2.2.2.2.1, (), rfl, rfl, by rw [ht]; exact hP, hD⟩, hS.F ht⟩) hS.2.2 d_Model_scale_4 hlocks

set_option maxHeartbeats 4000000 in
set_option maxRecDepth 100000 in
theorem c_Model_scale (l : Launch) (D : va_G) (cC cI : ClassId) (sz : Nat) (a0_0 a0_1 a0_2 a0_3 a0_4 a0_5 a0_6 a0_7 : Nat) (v0 : T_Model) (out : O_Model_scale) (h : f_Model_scale v0 = some out) : Met l y_Model_scale (.code y_Model_scale b_Model_scale 1 (some .int) :: BIG) rm_Model_scale (va_Pc [.ref a0_0] (xPre D cC cI (wd_Model_scale cC cI a0_0 a0_1 a0_2 a0_3 a0_4 a0_5 a0_6 a0_7 v0) sz)) (q_Model_scale D cC cI a0_0 a0_1 a0_2 a0_3 a0_4 a0_5 a0_6 a0_7 v0 out (va_A (wd_Model_scale cC cI a0_0 a0_1 a0_2 a0_3 a0_4 a0_5 a0_6 a0_7 v0) sz)) 0 0 (va_A (wd_Model_scale cC cI a0_0 a0_1 a0_2 a0_3 a0_4 a0_5 a0_6 a0_7 v0) sz) := by
  refine Met.ofW (cc := b_Model_scale) (maxL := 1) (ret := (some .int)) (by decide) rfl ?_
  intro p e s m args below meth c s₁ B hml hv
  obtain ⟨rfl, rfl, hP, hD0, hG, hZ⟩ := hv
  have hl := lv_entry [.ref a0_0] (n := 1) (Nat.le_of_ble_eq_true rfl)
  rw [lg_entry_eq]
  exact w_Model_scale (x_cx B hml hG hZ) h hl hP hD0.self va_S.rf

