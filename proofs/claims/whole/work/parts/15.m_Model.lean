abbrev wd_Model_away (cC cI : ClassId) (a0_0 a0_1 a0_2 a0_3 a0_4 a0_5 a0_6 a0_7 : Nat) (v0 : T_Model) : va_W := [(a0_0, .inr (11, [.ref a0_1, .int v0.2.1, .ref a0_2, .int v0.2.2.2.1, .int v0.2.2.2.2.1, .int v0.2.2.2.2.2.1, .ref a0_3, .ref a0_4, .ref a0_5, .int v0.2.2.2.2.2.2.2.2.2.1, .int v0.2.2.2.2.2.2.2.2.2.2.1, .int v0.2.2.2.2.2.2.2.2.2.2.2.1, .int v0.2.2.2.2.2.2.2.2.2.2.2.2.1, .ref a0_6, .int v0.2.2.2.2.2.2.2.2.2.2.2.2.2.2.1, .int v0.2.2.2.2.2.2.2.2.2.2.2.2.2.2.2.1, .int v0.2.2.2.2.2.2.2.2.2.2.2.2.2.2.2.2.1, .ref a0_7, .long v0.2.2.2.2.2.2.2.2.2.2.2.2.2.2.2.2.2.2.1, .int v0.2.2.2.2.2.2.2.2.2.2.2.2.2.2.2.2.2.2.2.1, .long v0.2.2.2.2.2.2.2.2.2.2.2.2.2.2.2.2.2.2.2.2.1, .int v0.2.2.2.2.2.2.2.2.2.2.2.2.2.2.2.2.2.2.2.2.2.1, .int v0.2.2.2.2.2.2.2.2.2.2.2.2.2.2.2.2.2.2.2.2.2.2])), (a0_1, .inl (cC, 120, .inl v0.1)), (a0_2, .inl (cC, 200, .inl v0.2.2.1)), (a0_3, .inl (cI, 160, .inl v0.2.2.2.2.2.2.1)), (a0_4, .inl (cI, 4, .inl v0.2.2.2.2.2.2.2.1)), (a0_5, .inl (cI, 7, .inl v0.2.2.2.2.2.2.2.2.1)), (a0_6, .inl (cI, 40, .inl v0.2.2.2.2.2.2.2.2.2.2.2.2.2.1)), (a0_7, .inl (cI, 6, .inl v0.2.2.2.2.2.2.2.2.2.2.2.2.2.2.2.2.2.1))]
abbrev O_Model_away : Type := Int32
abbrev q_Model_away (D : va_G) (cC cI : ClassId) (a0_0 a0_1 a0_2 a0_3 a0_4 a0_5 a0_6 a0_7 : Nat) (v0 : T_Model) (out : O_Model_away) (A : Nat → Prop) : Array Value → State → Outcome → State → Prop := va_Qi (fun r (_ : Unit) => r = out) (fun _ t => va_P D classes (wd_Model_away cC cI a0_0 a0_1 a0_2 a0_3 a0_4 a0_5 a0_6 a0_7 v0) t.heap ∧ va_D A (wd_Model_away cC cI a0_0 a0_1 a0_2 a0_3 a0_4 a0_5 a0_6 a0_7 v0)) A
abbrev rm_Model_away : Room := { frames := 0, cells := 0, slots := 0, locals := 0 }
def J_Model_away_57 (p : Program) (l : Launch) (e : Env) (s : State) (m : MethodId) (args : Array Value) (below : List Frame) (meth : Method) (c : Code) (A : Nat → Prop) (D : va_G) (cC cI : ClassId) (a0_0 a0_1 a0_2 a0_3 a0_4 a0_5 a0_6 a0_7 : Nat) (v0 : T_Model) (out : O_Model_away) (k : Int32 → Option O_Model_away) : Prop := ∀ (s0 : Int32) (ls : Array Slot) (H : Heap) (locs : List Loc), k s0 = some out → lv_has ls 4 [] → va_P D classes (wd_Model_away cC cI a0_0 a0_1 a0_2 a0_3 a0_4 a0_5 a0_6 a0_7 v0) H → va_D A (wd_Model_away cC cI a0_0 a0_1 a0_2 a0_3 a0_4 a0_5 a0_6 a0_7 v0) → va_S A s.heap H locs → W p l e rm_Model_away s m args below meth c H locs 0 0 (MQ below (q_Model_away D cC cI a0_0 a0_1 a0_2 a0_3 a0_4 a0_5 a0_6 a0_7 v0 out A) args s 0 0 A) (F0 m 57 ls [.int s0])
def f_Model_away_57 (v0 : T_Model) (s0 : Int32) : Option O_Model_away := if (s0 = 0 ∨ s0 = 1) then some s0 else none
set_option maxHeartbeats 4000000 in
set_option maxRecDepth 100000 in
theorem w_Model_away_57 {p : Program} {l : Launch} {e : Env} {s : State} {m : MethodId} {args : Array Value} {below : List Frame} {meth : Method} {c : Code} {A : Nat → Prop} {D : va_G} {cC cI : ClassId} {a0_0 a0_1 a0_2 a0_3 a0_4 a0_5 a0_6 a0_7 : Nat} {v0 : T_Model} (X : xCX p s m args meth c A D cC cI b_Model_away 4 R_Model (some .boolean)) {out : O_Model_away}   : J_Model_away_57 p l e s m args below meth c A D cC cI a0_0 a0_1 a0_2 a0_3 a0_4 a0_5 a0_6 a0_7 v0 out (f_Model_away_57 v0 ) := by
  obtain ⟨hx, hb, hml, hown, htB, ⟨hK, hN⟩, hZ, hA, hr, hlocks⟩ := id X
  intro s0 ls H locs h hl hP hD hS
  obtain ⟨hc, h⟩ := x_chk h
  obtain rfl := Option.some.inj h
  exact W.zret (v := s0) (ty := .boolean) hx hb hr (x_zn hc) (fun t ht hW => ⟨⟨s0, (), rfl, rfl, by rw [ht]; exact hP, hD⟩, hS.F ht⟩) hS.2.2 d_Model_away_57 hlocks

def J_Model_away_70 (p : Program) (l : Launch) (e : Env) (s : State) (m : MethodId) (args : Array Value) (below : List Frame) (meth : Method) (c : Code) (A : Nat → Prop) (D : va_G) (cC cI : ClassId) (a0_0 a0_1 a0_2 a0_3 a0_4 a0_5 a0_6 a0_7 : Nat) (v0 : T_Model) (out : O_Model_away) (k : Int32 → Option O_Model_away) : Prop := ∀ (s0 : Int32) (ls : Array Slot) (H : Heap) (locs : List Loc), k s0 = some out → lv_has ls 4 [] → va_P D classes (wd_Model_away cC cI a0_0 a0_1 a0_2 a0_3 a0_4 a0_5 a0_6 a0_7 v0) H → va_D A (wd_Model_away cC cI a0_0 a0_1 a0_2 a0_3 a0_4 a0_5 a0_6 a0_7 v0) → va_S A s.heap H locs → W p l e rm_Model_away s m args below meth c H locs 0 0 (MQ below (q_Model_away D cC cI a0_0 a0_1 a0_2 a0_3 a0_4 a0_5 a0_6 a0_7 v0 out A) args s 0 0 A) (F0 m 70 ls [.int s0])
def f_Model_away_70 (v0 : T_Model) (s0 : Int32) : Option O_Model_away := if (s0 = 0 ∨ s0 = 1) then some s0 else none
set_option maxHeartbeats 4000000 in
set_option maxRecDepth 100000 in
theorem w_Model_away_70 {p : Program} {l : Launch} {e : Env} {s : State} {m : MethodId} {args : Array Value} {below : List Frame} {meth : Method} {c : Code} {A : Nat → Prop} {D : va_G} {cC cI : ClassId} {a0_0 a0_1 a0_2 a0_3 a0_4 a0_5 a0_6 a0_7 : Nat} {v0 : T_Model} (X : xCX p s m args meth c A D cC cI b_Model_away 4 R_Model (some .boolean)) {out : O_Model_away}   : J_Model_away_70 p l e s m args below meth c A D cC cI a0_0 a0_1 a0_2 a0_3 a0_4 a0_5 a0_6 a0_7 v0 out (f_Model_away_70 v0 ) := by
  obtain ⟨hx, hb, hml, hown, htB, ⟨hK, hN⟩, hZ, hA, hr, hlocks⟩ := id X
  intro s0 ls H locs h hl hP hD hS
  obtain ⟨hc, h⟩ := x_chk h
  obtain rfl := Option.some.inj h
  exact W.zret (v := s0) (ty := .boolean) hx hb hr (x_zn hc) (fun t ht hW => ⟨⟨s0, (), rfl, rfl, by rw [ht]; exact hP, hD⟩, hS.F ht⟩) hS.2.2 d_Model_away_70 hlocks

def J_Model_away_81 (p : Program) (l : Launch) (e : Env) (s : State) (m : MethodId) (args : Array Value) (below : List Frame) (meth : Method) (c : Code) (A : Nat → Prop) (D : va_G) (cC cI : ClassId) (a0_0 a0_1 a0_2 a0_3 a0_4 a0_5 a0_6 a0_7 : Nat) (v0 : T_Model) (out : O_Model_away) (k : Int32 → Option O_Model_away) : Prop := ∀ (s0 : Int32) (ls : Array Slot) (H : Heap) (locs : List Loc), k s0 = some out → lv_has ls 4 [] → va_P D classes (wd_Model_away cC cI a0_0 a0_1 a0_2 a0_3 a0_4 a0_5 a0_6 a0_7 v0) H → va_D A (wd_Model_away cC cI a0_0 a0_1 a0_2 a0_3 a0_4 a0_5 a0_6 a0_7 v0) → va_S A s.heap H locs → W p l e rm_Model_away s m args below meth c H locs 0 0 (MQ below (q_Model_away D cC cI a0_0 a0_1 a0_2 a0_3 a0_4 a0_5 a0_6 a0_7 v0 out A) args s 0 0 A) (F0 m 81 ls [.int s0])
def f_Model_away_81 (v0 : T_Model) (s0 : Int32) : Option O_Model_away := if (s0 = 0 ∨ s0 = 1) then some s0 else none
set_option maxHeartbeats 4000000 in
set_option maxRecDepth 100000 in
theorem w_Model_away_81 {p : Program} {l : Launch} {e : Env} {s : State} {m : MethodId} {args : Array Value} {below : List Frame} {meth : Method} {c : Code} {A : Nat → Prop} {D : va_G} {cC cI : ClassId} {a0_0 a0_1 a0_2 a0_3 a0_4 a0_5 a0_6 a0_7 : Nat} {v0 : T_Model} (X : xCX p s m args meth c A D cC cI b_Model_away 4 R_Model (some .boolean)) {out : O_Model_away}   : J_Model_away_81 p l e s m args below meth c A D cC cI a0_0 a0_1 a0_2 a0_3 a0_4 a0_5 a0_6 a0_7 v0 out (f_Model_away_81 v0 ) := by
  obtain ⟨hx, hb, hml, hown, htB, ⟨hK, hN⟩, hZ, hA, hr, hlocks⟩ := id X
  intro s0 ls H locs h hl hP hD hS
  obtain ⟨hc, h⟩ := x_chk h
  obtain rfl := Option.some.inj h
  exact W.zret (v := s0) (ty := .boolean) hx hb hr (x_zn hc) (fun t ht hW => ⟨⟨s0, (), rfl, rfl, by rw [ht]; exact hP, hD⟩, hS.F ht⟩) hS.2.2 d_Model_away_81 hlocks

def J_Model_away_96 (p : Program) (l : Launch) (e : Env) (s : State) (m : MethodId) (args : Array Value) (below : List Frame) (meth : Method) (c : Code) (A : Nat → Prop) (D : va_G) (cC cI : ClassId) (a0_0 a0_1 a0_2 a0_3 a0_4 a0_5 a0_6 a0_7 : Nat) (v0 : T_Model) (out : O_Model_away) (k : Option O_Model_away) : Prop := ∀  (ls : Array Slot) (H : Heap) (locs : List Loc), k  = some out → lv_has ls 4 [] → va_P D classes (wd_Model_away cC cI a0_0 a0_1 a0_2 a0_3 a0_4 a0_5 a0_6 a0_7 v0) H → va_D A (wd_Model_away cC cI a0_0 a0_1 a0_2 a0_3 a0_4 a0_5 a0_6 a0_7 v0) → va_S A s.heap H locs → W p l e rm_Model_away s m args below meth c H locs 0 0 (MQ below (q_Model_away D cC cI a0_0 a0_1 a0_2 a0_3 a0_4 a0_5 a0_6 a0_7 v0 out A) args s 0 0 A) (F0 m 96 ls [])
def J_Model_away_101 (p : Program) (l : Launch) (e : Env) (s : State) (m : MethodId) (args : Array Value) (below : List Frame) (meth : Method) (c : Code) (A : Nat → Prop) (D : va_G) (cC cI : ClassId) (a0_0 a0_1 a0_2 a0_3 a0_4 a0_5 a0_6 a0_7 : Nat) (v0 : T_Model) (out : O_Model_away) (k : Int32 → Option O_Model_away) : Prop := ∀ (s0 : Int32) (ls : Array Slot) (H : Heap) (locs : List Loc), k s0 = some out → lv_has ls 4 [] → va_P D classes (wd_Model_away cC cI a0_0 a0_1 a0_2 a0_3 a0_4 a0_5 a0_6 a0_7 v0) H → va_D A (wd_Model_away cC cI a0_0 a0_1 a0_2 a0_3 a0_4 a0_5 a0_6 a0_7 v0) → va_S A s.heap H locs → W p l e rm_Model_away s m args below meth c H locs 0 0 (MQ below (q_Model_away D cC cI a0_0 a0_1 a0_2 a0_3 a0_4 a0_5 a0_6 a0_7 v0 out A) args s 0 0 A) (F0 m 101 ls [.int s0])
def f_Model_away_101 (v0 : T_Model) (s0 : Int32) : Option O_Model_away := if (s0 = 0 ∨ s0 = 1) then some s0 else none
set_option maxHeartbeats 4000000 in
set_option maxRecDepth 100000 in
theorem w_Model_away_101 {p : Program} {l : Launch} {e : Env} {s : State} {m : MethodId} {args : Array Value} {below : List Frame} {meth : Method} {c : Code} {A : Nat → Prop} {D : va_G} {cC cI : ClassId} {a0_0 a0_1 a0_2 a0_3 a0_4 a0_5 a0_6 a0_7 : Nat} {v0 : T_Model} (X : xCX p s m args meth c A D cC cI b_Model_away 4 R_Model (some .boolean)) {out : O_Model_away}   : J_Model_away_101 p l e s m args below meth c A D cC cI a0_0 a0_1 a0_2 a0_3 a0_4 a0_5 a0_6 a0_7 v0 out (f_Model_away_101 v0 ) := by
  obtain ⟨hx, hb, hml, hown, htB, ⟨hK, hN⟩, hZ, hA, hr, hlocks⟩ := id X
  intro s0 ls H locs h hl hP hD hS
  obtain ⟨hc, h⟩ := x_chk h
  obtain rfl := Option.some.inj h
  exact W.zret (v := s0) (ty := .boolean) hx hb hr (x_zn hc) (fun t ht hW => ⟨⟨s0, (), rfl, rfl, by rw [ht]; exact hP, hD⟩, hS.F ht⟩) hS.2.2 d_Model_away_101 hlocks

def f_Model_away_96 (v0 : T_Model) : Option O_Model_away := f_Model_away_101 v0 (1 : Int32)
set_option maxHeartbeats 4000000 in
set_option maxRecDepth 100000 in
theorem w_Model_away_96 {p : Program} {l : Launch} {e : Env} {s : State} {m : MethodId} {args : Array Value} {below : List Frame} {meth : Method} {c : Code} {A : Nat → Prop} {D : va_G} {cC cI : ClassId} {a0_0 a0_1 a0_2 a0_3 a0_4 a0_5 a0_6 a0_7 : Nat} {v0 : T_Model} (X : xCX p s m args meth c A D cC cI b_Model_away 4 R_Model (some .boolean)) {out : O_Model_away}   : J_Model_away_96 p l e s m args below meth c A D cC cI a0_0 a0_1 a0_2 a0_3 a0_4 a0_5 a0_6 a0_7 v0 out (f_Model_away_96 v0 ) := by
  obtain ⟨hx, hb, hml, hown, htB, ⟨hK, hN⟩, hZ, hA, hr, hlocks⟩ := id X
  intro  ls H locs h hl hP hD hS
  refine lv_iconst (v := 1) hx hb d_Model_away_96 (by decide) ?_
  refine lv_goto (tgt := 101) hx hb d_Model_away_97 rfl ?_
  exact w_Model_away_101 X (1 : Int32) ls H locs h (lv_sub hl [] rfl) hP hD hS

def J_Model_away_100 (p : Program) (l : Launch) (e : Env) (s : State) (m : MethodId) (args : Array Value) (below : List Frame) (meth : Method) (c : Code) (A : Nat → Prop) (D : va_G) (cC cI : ClassId) (a0_0 a0_1 a0_2 a0_3 a0_4 a0_5 a0_6 a0_7 : Nat) (v0 : T_Model) (out : O_Model_away) (k : Option O_Model_away) : Prop := ∀  (ls : Array Slot) (H : Heap) (locs : List Loc), k  = some out → lv_has ls 4 [] → va_P D classes (wd_Model_away cC cI a0_0 a0_1 a0_2 a0_3 a0_4 a0_5 a0_6 a0_7 v0) H → va_D A (wd_Model_away cC cI a0_0 a0_1 a0_2 a0_3 a0_4 a0_5 a0_6 a0_7 v0) → va_S A s.heap H locs → W p l e rm_Model_away s m args below meth c H locs 0 0 (MQ below (q_Model_away D cC cI a0_0 a0_1 a0_2 a0_3 a0_4 a0_5 a0_6 a0_7 v0 out A) args s 0 0 A) (F0 m 100 ls [])
def f_Model_away_100 (v0 : T_Model) : Option O_Model_away := f_Model_away_101 v0 (0 : Int32)
set_option maxHeartbeats 4000000 in
set_option maxRecDepth 100000 in
theorem w_Model_away_100 {p : Program} {l : Launch} {e : Env} {s : State} {m : MethodId} {args : Array Value} {below : List Frame} {meth : Method} {c : Code} {A : Nat → Prop} {D : va_G} {cC cI : ClassId} {a0_0 a0_1 a0_2 a0_3 a0_4 a0_5 a0_6 a0_7 : Nat} {v0 : T_Model} (X : xCX p s m args meth c A D cC cI b_Model_away 4 R_Model (some .boolean)) {out : O_Model_away}   : J_Model_away_100 p l e s m args below meth c A D cC cI a0_0 a0_1 a0_2 a0_3 a0_4 a0_5 a0_6 a0_7 v0 out (f_Model_away_100 v0 ) := by
  obtain ⟨hx, hb, hml, hown, htB, ⟨hK, hN⟩, hZ, hA, hr, hlocks⟩ := id X
  intro  ls H locs h hl hP hD hS
  refine lv_iconst (v := 0) hx hb d_Model_away_100 (by decide) ?_
  exact w_Model_away_101 X (0 : Int32) ls H locs h (lv_sub hl [] rfl) hP hD hS

def f_Model_away (v0 : T_Model) (v1 : Int32) (v2 : Int32) (v3 : Int32) : Option O_Model_away := (if v0.2.2.2.2.1 = (0 : Int32) then some (1 : Int32) else if v0.2.2.2.2.1 = (1 : Int32) then some (0 : Int32) else if v0.2.2.2.2.1 = (2 : Int32) then (if v2 = 0 then f_Model_away_57 v0 (1 : Int32) else f_Model_away_57 v0 (0 : Int32)) else if v0.2.2.2.2.1 = (3 : Int32) then if (v2 = 0 ∨ v2 = 1) then some v2 else none else if v0.2.2.2.2.1 = (4 : Int32) then (if v1 < (2 : Int32) then f_Model_away_70 v0 (0 : Int32) else f_Model_away_70 v0 (1 : Int32)) else if v0.2.2.2.2.1 = (5 : Int32) then (if v1 = (3 : Int32) then f_Model_away_81 v0 (1 : Int32) else f_Model_away_81 v0 (0 : Int32)) else (if v1 = (3 : Int32) then f_Model_away_96 v0 else (if v1 = (2 : Int32) then (if v3 = 0 then f_Model_away_100 v0 else f_Model_away_96 v0) else f_Model_away_100 v0)))
set_option maxHeartbeats 4000000 in
set_option maxRecDepth 100000 in
theorem w_Model_away {p : Program} {l : Launch} {e : Env} {s : State} {m : MethodId} {args : Array Value} {below : List Frame} {meth : Method} {c : Code} {A : Nat → Prop} {D : va_G} {cC cI : ClassId} {a0_0 a0_1 a0_2 a0_3 a0_4 a0_5 a0_6 a0_7 : Nat} {v0 : T_Model} (X : xCX p s m args meth c A D cC cI b_Model_away 4 R_Model (some .boolean)) {out : O_Model_away} (v1 : Int32) (v2 : Int32) (v3 : Int32) {ls : Array Slot} {H : Heap} {locs : List Loc} (h : f_Model_away v0 v1 v2 v3 = some out) (hl : lv_has ls 4 [(0, .ref a0_0), (1, .int v1), (2, .int v2), (3, .int v3)]) (hP : va_P D classes (wd_Model_away cC cI a0_0 a0_1 a0_2 a0_3 a0_4 a0_5 a0_6 a0_7 v0) H) (hD : va_D A (wd_Model_away cC cI a0_0 a0_1 a0_2 a0_3 a0_4 a0_5 a0_6 a0_7 v0)) (hS : va_S A s.heap H locs) : W p l e rm_Model_away s m args below meth c H locs 0 0 (MQ below (q_Model_away D cC cI a0_0 a0_1 a0_2 a0_3 a0_4 a0_5 a0_6 a0_7 v0 out A) args s 0 0 A) (F0 m 0 ls []) := by
  obtain ⟨hx, hb, hml, hown, htB, ⟨hK, hN⟩, hZ, hA, hr, hlocks⟩ := id X
  refine lv_aload_n hx hb d_Model_away_0 rfl (lv_at hl 0 rfl) ?_
  refine va_get (D := D) (ci := 11) (v := .int v0.2.2.2.2.1) (C := R_Model) (T := F_Model) (N := 23) hx hb htB in_Model hown hK hP 0 rfl rfl 4 (by decide) (htB _ b_365) (fun _ h9 => h9) rfl d_Model_away_1 ?_
  by_cases hc : v0.2.2.2.2.1 = (0 : Int32)
  · have h := (if_pos hc).symm.trans h
    refine lv_tableIn (tgt := 44) (off := 40) hx hb d_Model_away_4 (by rw [hc]; decide) (by rw [hc]; decide) (by rw [hc]; rfl) rfl ?_
    refine lv_iconst (v := 1) hx hb d_Model_away_44 (by decide) ?_
    obtain rfl := Option.some.inj h
    exact W.zret (v := (1 : Int32)) (ty := .boolean) hx hb hr rfl (fun t ht hW => ⟨⟨(1 : Int32), (), rfl, rfl, by rw [ht]; exact hP, hD⟩, hS.F ht⟩) hS.2.2 d_Model_away_45 hlocks
  have h := (if_neg hc).symm.trans h
  have hc0 := lv_neT (a := 0) hc (by decide)
  by_cases hc : v0.2.2.2.2.1 = (1 : Int32)
  · have h := (if_pos hc).symm.trans h
    refine lv_tableIn (tgt := 46) (off := 42) hx hb d_Model_away_4 (by rw [hc]; decide) (by rw [hc]; decide) (by rw [hc]; rfl) rfl ?_
    refine lv_iconst (v := 0) hx hb d_Model_away_46 (by decide) ?_
    obtain rfl := Option.some.inj h
    exact W.zret (v := (0 : Int32)) (ty := .boolean) hx hb hr rfl (fun t ht hW => ⟨⟨(0 : Int32), (), rfl, rfl, by rw [ht]; exact hP, hD⟩, hS.F ht⟩) hS.2.2 d_Model_away_47 hlocks
  have h := (if_neg hc).symm.trans h
  have hc1 := lv_neT (a := 1) hc (by decide)
  by_cases hc : v0.2.2.2.2.1 = (2 : Int32)
  · have h := (if_pos hc).symm.trans h
    refine lv_tableIn (tgt := 48) (off := 44) hx hb d_Model_away_4 (by rw [hc]; decide) (by rw [hc]; decide) (by rw [hc]; rfl) rfl ?_
    refine lv_iload_n hx hb d_Model_away_48 rfl (lv_at hl 2 rfl) ?_
    refine lv_if_ne (tgt := 56) hx hb d_Model_away_49 rfl (fun hc => ?_) (fun hc => ?_)
    · have h := (if_neg hc).symm.trans h
      refine lv_iconst (v := 0) hx hb d_Model_away_56 (by decide) ?_
      exact w_Model_away_57 X (0 : Int32) ls H locs h (lv_sub hl [] rfl) hP hD hS
    have h := (if_pos hc).symm.trans h
    refine lv_iconst (v := 1) hx hb d_Model_away_52 (by decide) ?_
    refine lv_goto (tgt := 57) hx hb d_Model_away_53 rfl ?_
    exact w_Model_away_57 X (1 : Int32) ls H locs h (lv_sub hl [] rfl) hP hD hS
  have h := (if_neg hc).symm.trans h
  have hc2 := lv_neT (a := 2) hc (by decide)
  by_cases hc : v0.2.2.2.2.1 = (3 : Int32)
  · have h := (if_pos hc).symm.trans h
    refine lv_tableIn (tgt := 58) (off := 54) hx hb d_Model_away_4 (by rw [hc]; decide) (by rw [hc]; decide) (by rw [hc]; rfl) rfl ?_
    refine lv_iload_n hx hb d_Model_away_58 rfl (lv_at hl 2 rfl) ?_
    obtain ⟨hc, h⟩ := x_chk h
    obtain rfl := Option.some.inj h
    exact W.zret (v := v2) (ty := .boolean) hx hb hr (x_zn hc) (fun t ht hW => ⟨⟨v2, (), rfl, rfl, by rw [ht]; exact hP, hD⟩, hS.F ht⟩) hS.2.2 d_Model_away_59 hlocks
  have h := (if_neg hc).symm.trans h
  have hc3 := lv_neT (a := 3) hc (by decide)
  by_cases hc : v0.2.2.2.2.1 = (4 : Int32)
  · have h := (if_pos hc).symm.trans h
    refine lv_tableIn (tgt := 60) (off := 56) hx hb d_Model_away_4 (by rw [hc]; decide) (by rw [hc]; decide) (by rw [hc]; rfl) rfl ?_
    refine lv_iload_n hx hb d_Model_away_60 rfl (lv_at hl 1 rfl) ?_
    refine lv_iconst (v := 2) hx hb d_Model_away_61 (by decide) ?_
    refine lv_icmp_lt (tgt := 69) hx hb d_Model_away_62 rfl (fun hc => ?_) (fun hc => ?_)
    · have h := (if_pos hc).symm.trans h
      refine lv_iconst (v := 0) hx hb d_Model_away_69 (by decide) ?_
      exact w_Model_away_70 X (0 : Int32) ls H locs h (lv_sub hl [] rfl) hP hD hS
    have h := (if_neg hc).symm.trans h
    refine lv_iconst (v := 1) hx hb d_Model_away_65 (by decide) ?_
    refine lv_goto (tgt := 70) hx hb d_Model_away_66 rfl ?_
    exact w_Model_away_70 X (1 : Int32) ls H locs h (lv_sub hl [] rfl) hP hD hS
  have h := (if_neg hc).symm.trans h
  have hc4 := lv_neT (a := 4) hc (by decide)
  by_cases hc : v0.2.2.2.2.1 = (5 : Int32)
  · have h := (if_pos hc).symm.trans h
    refine lv_tableIn (tgt := 71) (off := 67) hx hb d_Model_away_4 (by rw [hc]; decide) (by rw [hc]; decide) (by rw [hc]; rfl) rfl ?_
    refine lv_iload_n hx hb d_Model_away_71 rfl (lv_at hl 1 rfl) ?_
    refine lv_iconst (v := 3) hx hb d_Model_away_72 (by decide) ?_
    refine lv_icmp_ne (tgt := 80) hx hb d_Model_away_73 rfl (fun hc => ?_) (fun hc => ?_)
    · have h := (if_neg hc).symm.trans h
      refine lv_iconst (v := 0) hx hb d_Model_away_80 (by decide) ?_
      exact w_Model_away_81 X (0 : Int32) ls H locs h (lv_sub hl [] rfl) hP hD hS
    have h := (if_pos hc).symm.trans h
    refine lv_iconst (v := 1) hx hb d_Model_away_76 (by decide) ?_
    refine lv_goto (tgt := 81) hx hb d_Model_away_77 rfl ?_
    exact w_Model_away_81 X (1 : Int32) ls H locs h (lv_sub hl [] rfl) hP hD hS
  have h := (if_neg hc).symm.trans h
  have hc5 := lv_neT (a := 5) hc (by decide)
  refine lv_tableOut (tgt := 82) hx hb d_Model_away_4 (by omega) rfl ?_
  refine lv_iload_n hx hb d_Model_away_82 rfl (lv_at hl 1 rfl) ?_
  refine lv_iconst (v := 3) hx hb d_Model_away_83 (by decide) ?_
  refine lv_icmp_eq (tgt := 96) hx hb d_Model_away_84 rfl (fun hc => ?_) (fun hc => ?_)
  · have h := (if_pos hc).symm.trans h
    exact w_Model_away_96 X ls H locs h (lv_sub hl [] rfl) hP hD hS
  have h := (if_neg hc).symm.trans h
  refine lv_iload_n hx hb d_Model_away_87 rfl (lv_at hl 1 rfl) ?_
  refine lv_iconst (v := 2) hx hb d_Model_away_88 (by decide) ?_
  refine lv_icmp_ne (tgt := 100) hx hb d_Model_away_89 rfl (fun hc => ?_) (fun hc => ?_)
  · have h := (if_neg hc).symm.trans h
    exact w_Model_away_100 X ls H locs h (lv_sub hl [] rfl) hP hD hS
  have h := (if_pos hc).symm.trans h
  refine lv_iload_n hx hb d_Model_away_92 rfl (lv_at hl 3 rfl) ?_
  refine lv_if_eq (tgt := 100) hx hb d_Model_away_93 rfl (fun hc => ?_) (fun hc => ?_)
  · have h := (if_pos hc).symm.trans h
    exact w_Model_away_100 X ls H locs h (lv_sub hl [] rfl) hP hD hS
  have h := (if_neg hc).symm.trans h
  exact w_Model_away_96 X ls H locs h (lv_sub hl [] rfl) hP hD hS

set_option maxHeartbeats 4000000 in
set_option maxRecDepth 100000 in
theorem c_Model_away (l : Launch) (D : va_G) (cC cI : ClassId) (sz : Nat) (a0_0 a0_1 a0_2 a0_3 a0_4 a0_5 a0_6 a0_7 : Nat) (v0 : T_Model) (v1 : Int32) (v2 : Int32) (v3 : Int32) (out : O_Model_away) (h : f_Model_away v0 v1 v2 v3 = some out) : Met l y_Model_away (.code y_Model_away b_Model_away 4 (some .boolean) :: BIG) rm_Model_away (va_Pc [.ref a0_0, .int v1, .int v2, .int v3] (xPre D cC cI (wd_Model_away cC cI a0_0 a0_1 a0_2 a0_3 a0_4 a0_5 a0_6 a0_7 v0) sz)) (q_Model_away D cC cI a0_0 a0_1 a0_2 a0_3 a0_4 a0_5 a0_6 a0_7 v0 out (va_A (wd_Model_away cC cI a0_0 a0_1 a0_2 a0_3 a0_4 a0_5 a0_6 a0_7 v0) sz)) 0 0 (va_A (wd_Model_away cC cI a0_0 a0_1 a0_2 a0_3 a0_4 a0_5 a0_6 a0_7 v0) sz) := by
  refine Met.ofW (cc := b_Model_away) (maxL := 4) (ret := (some .boolean)) (by decide) rfl ?_
  intro p e s m args below meth c s₁ B hml hv
  obtain ⟨rfl, rfl, hP, hD0, hG, hZ⟩ := hv
  have hl := lv_entry [.ref a0_0, .int v1, .int v2, .int v3] (n := 4) (Nat.le_of_ble_eq_true rfl)
  rw [lg_entry_eq]
  exact w_Model_away (x_cx B hml hG hZ) v1 v2 v3 h hl hP hD0.self va_S.rf

abbrev wd_Model_round (cC cI : ClassId) (a0_0 a0_1 a0_2 a0_3 a0_4 a0_5 a0_6 a0_7 : Nat) (v0 : T_Model) : va_W := [(a0_0, .inr (11, [.ref a0_1, .int v0.2.1, .ref a0_2, .int v0.2.2.2.1, .int v0.2.2.2.2.1, .int v0.2.2.2.2.2.1, .ref a0_3, .ref a0_4, .ref a0_5, .int v0.2.2.2.2.2.2.2.2.2.1, .int v0.2.2.2.2.2.2.2.2.2.2.1, .int v0.2.2.2.2.2.2.2.2.2.2.2.1, .int v0.2.2.2.2.2.2.2.2.2.2.2.2.1, .ref a0_6, .int v0.2.2.2.2.2.2.2.2.2.2.2.2.2.2.1, .int v0.2.2.2.2.2.2.2.2.2.2.2.2.2.2.2.1, .int v0.2.2.2.2.2.2.2.2.2.2.2.2.2.2.2.2.1, .ref a0_7, .long v0.2.2.2.2.2.2.2.2.2.2.2.2.2.2.2.2.2.2.1, .int v0.2.2.2.2.2.2.2.2.2.2.2.2.2.2.2.2.2.2.2.1, .long v0.2.2.2.2.2.2.2.2.2.2.2.2.2.2.2.2.2.2.2.2.1, .int v0.2.2.2.2.2.2.2.2.2.2.2.2.2.2.2.2.2.2.2.2.2.1, .int v0.2.2.2.2.2.2.2.2.2.2.2.2.2.2.2.2.2.2.2.2.2.2])), (a0_1, .inl (cC, 120, .inl v0.1)), (a0_2, .inl (cC, 200, .inl v0.2.2.1)), (a0_3, .inl (cI, 160, .inl v0.2.2.2.2.2.2.1)), (a0_4, .inl (cI, 4, .inl v0.2.2.2.2.2.2.2.1)), (a0_5, .inl (cI, 7, .inl v0.2.2.2.2.2.2.2.2.1)), (a0_6, .inl (cI, 40, .inl v0.2.2.2.2.2.2.2.2.2.2.2.2.2.1)), (a0_7, .inl (cI, 6, .inl v0.2.2.2.2.2.2.2.2.2.2.2.2.2.2.2.2.2.1))]
abbrev O_Model_round : Type := Int32 × T_Model
abbrev q_Model_round (D : va_G) (cC cI : ClassId) (a0_0 a0_1 a0_2 a0_3 a0_4 a0_5 a0_6 a0_7 : Nat)  (out : O_Model_round) (A : Nat → Prop) : Array Value → State → Outcome → State → Prop := va_Qi (fun r (_ : Unit) => r = out.1) (fun _ t => va_P D classes (wd_Model_round cC cI a0_0 a0_1 a0_2 a0_3 a0_4 a0_5 a0_6 a0_7 out.2) t.heap ∧ va_D A (wd_Model_round cC cI a0_0 a0_1 a0_2 a0_3 a0_4 a0_5 a0_6 a0_7 out.2)) A
abbrev rm_Model_round : Room := { frames := 1, cells := 0, slots := 0, locals := 24 }
def J_Model_round_40 (p : Program) (l : Launch) (e : Env) (s : State) (m : MethodId) (args : Array Value) (below : List Frame) (meth : Method) (c : Code) (A : Nat → Prop) (D : va_G) (cC cI : ClassId) (a0_0 a0_1 a0_2 a0_3 a0_4 a0_5 a0_6 a0_7 : Nat) (out : O_Model_round) (k : T_Model → Int32 → Int32 → Int32 → Int32 → Option O_Model_round) : Prop := ∀ (v0 : T_Model) (x1 : Int32) (x2 : Int32) (x3 : Int32) (x4 : Int32) (ls : Array Slot) (H : Heap) (locs : List Loc), k v0 x1 x2 x3 x4 = some out → lv_has ls 9 [(0, .ref a0_0), (1, .int x1), (2, .int x2), (3, .int x3), (4, .int x4)] → va_P D classes (wd_Model_round cC cI a0_0 a0_1 a0_2 a0_3 a0_4 a0_5 a0_6 a0_7 v0) H → va_D A (wd_Model_round cC cI a0_0 a0_1 a0_2 a0_3 a0_4 a0_5 a0_6 a0_7 v0) → va_S A s.heap H locs → W p l e rm_Model_round s m args below meth c H locs 0 0 (MQ below (q_Model_round D cC cI a0_0 a0_1 a0_2 a0_3 a0_4 a0_5 a0_6 a0_7 out A) args s 0 0 A) (F0 m 40 ls [])
def J_Model_round_62 (p : Program) (l : Launch) (e : Env) (s : State) (m : MethodId) (args : Array Value) (below : List Frame) (meth : Method) (c : Code) (A : Nat → Prop) (D : va_G) (cC cI : ClassId) (a0_0 a0_1 a0_2 a0_3 a0_4 a0_5 a0_6 a0_7 : Nat) (out : O_Model_round) (k : T_Model → Int32 → Int32 → Int32 → Int32 → Option O_Model_round) : Prop := ∀ (v0 : T_Model) (x1 : Int32) (x2 : Int32) (x3 : Int32) (x4 : Int32) (ls : Array Slot) (H : Heap) (locs : List Loc), k v0 x1 x2 x3 x4 = some out → lv_has ls 9 [(0, .ref a0_0), (1, .int x1), (2, .int x2), (3, .int x3), (4, .int x4)] → va_P D classes (wd_Model_round cC cI a0_0 a0_1 a0_2 a0_3 a0_4 a0_5 a0_6 a0_7 v0) H → va_D A (wd_Model_round cC cI a0_0 a0_1 a0_2 a0_3 a0_4 a0_5 a0_6 a0_7 v0) → va_S A s.heap H locs → W p l e rm_Model_round s m args below meth c H locs 0 0 (MQ below (q_Model_round D cC cI a0_0 a0_1 a0_2 a0_3 a0_4 a0_5 a0_6 a0_7 out A) args s 0 0 A) (F0 m 62 ls [])
def J_Model_round_63 (p : Program) (l : Launch) (e : Env) (s : State) (m : MethodId) (args : Array Value) (below : List Frame) (meth : Method) (c : Code) (A : Nat → Prop) (D : va_G) (cC cI : ClassId) (a0_0 a0_1 a0_2 a0_3 a0_4 a0_5 a0_6 a0_7 : Nat) (out : O_Model_round) (k : T_Model → Int32 → Int32 → Int32 → Int32 → Int32 → Option O_Model_round) : Prop := ∀ (v0 : T_Model) (x1 : Int32) (x2 : Int32) (x3 : Int32) (x4 : Int32) (s0 : Int32) (ls : Array Slot) (H : Heap) (locs : List Loc), k v0 x1 x2 x3 x4 s0 = some out → lv_has ls 9 [(0, .ref a0_0), (1, .int x1), (2, .int x2), (3, .int x3), (4, .int x4)] → va_P D classes (wd_Model_round cC cI a0_0 a0_1 a0_2 a0_3 a0_4 a0_5 a0_6 a0_7 v0) H → va_D A (wd_Model_round cC cI a0_0 a0_1 a0_2 a0_3 a0_4 a0_5 a0_6 a0_7 v0) → va_S A s.heap H locs → W p l e rm_Model_round s m args below meth c H locs 0 0 (MQ below (q_Model_round D cC cI a0_0 a0_1 a0_2 a0_3 a0_4 a0_5 a0_6 a0_7 out A) args s 0 0 A) (F0 m 63 ls [.int s0])
def J_Model_round_86 (p : Program) (l : Launch) (e : Env) (s : State) (m : MethodId) (args : Array Value) (below : List Frame) (meth : Method) (c : Code) (A : Nat → Prop) (D : va_G) (cC cI : ClassId) (a0_0 a0_1 a0_2 a0_3 a0_4 a0_5 a0_6 a0_7 : Nat) (out : O_Model_round) (k : T_Model → Int32 → Int32 → Option O_Model_round) : Prop := ∀ (v0 : T_Model) (x1 : Int32) (x3 : Int32) (ls : Array Slot) (H : Heap) (locs : List Loc), k v0 x1 x3 = some out → lv_has ls 9 [(0, .ref a0_0), (1, .int x1), (3, .int x3)] → va_P D classes (wd_Model_round cC cI a0_0 a0_1 a0_2 a0_3 a0_4 a0_5 a0_6 a0_7 v0) H → va_D A (wd_Model_round cC cI a0_0 a0_1 a0_2 a0_3 a0_4 a0_5 a0_6 a0_7 v0) → va_S A s.heap H locs → W p l e rm_Model_round s m args below meth c H locs 0 0 (MQ below (q_Model_round D cC cI a0_0 a0_1 a0_2 a0_3 a0_4 a0_5 a0_6 a0_7 out A) args s 0 0 A) (F0 m 86 ls [])
def J_Model_round_87 (p : Program) (l : Launch) (e : Env) (s : State) (m : MethodId) (args : Array Value) (below : List Frame) (meth : Method) (c : Code) (A : Nat → Prop) (D : va_G) (cC cI : ClassId) (a0_0 a0_1 a0_2 a0_3 a0_4 a0_5 a0_6 a0_7 : Nat) (out : O_Model_round) (k : T_Model → Int32 → Int32 → Int32 → Option O_Model_round) : Prop := ∀ (v0 : T_Model) (x1 : Int32) (x3 : Int32) (s0 : Int32) (ls : Array Slot) (H : Heap) (locs : List Loc), k v0 x1 x3 s0 = some out → lv_has ls 9 [(0, .ref a0_0), (1, .int x1), (3, .int x3)] → va_P D classes (wd_Model_round cC cI a0_0 a0_1 a0_2 a0_3 a0_4 a0_5 a0_6 a0_7 v0) H → va_D A (wd_Model_round cC cI a0_0 a0_1 a0_2 a0_3 a0_4 a0_5 a0_6 a0_7 v0) → va_S A s.heap H locs → W p l e rm_Model_round s m args below meth c H locs 0 0 (MQ below (q_Model_round D cC cI a0_0 a0_1 a0_2 a0_3 a0_4 a0_5 a0_6 a0_7 out A) args s 0 0 A) (F0 m 87 ls [.int s0])
def J_Model_round_99 (p : Program) (l : Launch) (e : Env) (s : State) (m : MethodId) (args : Array Value) (below : List Frame) (meth : Method) (c : Code) (A : Nat → Prop) (D : va_G) (cC cI : ClassId) (a0_0 a0_1 a0_2 a0_3 a0_4 a0_5 a0_6 a0_7 : Nat) (out : O_Model_round) (k : T_Model → Int32 → Int32 → Int32 → Int32 → Option O_Model_round) : Prop := ∀ (v0 : T_Model) (x1 : Int32) (x3 : Int32) (x6 : Int32) (s1 : Int32) (ls : Array Slot) (H : Heap) (locs : List Loc), k v0 x1 x3 x6 s1 = some out → lv_has ls 9 [(0, .ref a0_0), (1, .int x1), (3, .int x3), (6, .int x6)] → va_P D classes (wd_Model_round cC cI a0_0 a0_1 a0_2 a0_3 a0_4 a0_5 a0_6 a0_7 v0) H → va_D A (wd_Model_round cC cI a0_0 a0_1 a0_2 a0_3 a0_4 a0_5 a0_6 a0_7 v0) → va_S A s.heap H locs → W p l e rm_Model_round s m args below meth c H locs 0 0 (MQ below (q_Model_round D cC cI a0_0 a0_1 a0_2 a0_3 a0_4 a0_5 a0_6 a0_7 out A) args s 0 0 A) (F0 m 99 ls [.int s1, .ref a0_0])
def J_Model_round_117 (p : Program) (l : Launch) (e : Env) (s : State) (m : MethodId) (args : Array Value) (below : List Frame) (meth : Method) (c : Code) (A : Nat → Prop) (D : va_G) (cC cI : ClassId) (a0_0 a0_1 a0_2 a0_3 a0_4 a0_5 a0_6 a0_7 : Nat) (out : O_Model_round) (k : T_Model → Int32 → Int32 → Int32 → Option O_Model_round) : Prop := ∀ (v0 : T_Model) (x1 : Int32) (x3 : Int32) (x7 : Int32) (ls : Array Slot) (H : Heap) (locs : List Loc), k v0 x1 x3 x7 = some out → lv_has ls 9 [(0, .ref a0_0), (1, .int x1), (3, .int x3), (7, .int x7)] → va_P D classes (wd_Model_round cC cI a0_0 a0_1 a0_2 a0_3 a0_4 a0_5 a0_6 a0_7 v0) H → va_D A (wd_Model_round cC cI a0_0 a0_1 a0_2 a0_3 a0_4 a0_5 a0_6 a0_7 v0) → va_S A s.heap H locs → W p l e rm_Model_round s m args below meth c H locs 0 0 (MQ below (q_Model_round D cC cI a0_0 a0_1 a0_2 a0_3 a0_4 a0_5 a0_6 a0_7 out A) args s 0 0 A) (F0 m 117 ls [])
def J_Model_round_151 (p : Program) (l : Launch) (e : Env) (s : State) (m : MethodId) (args : Array Value) (below : List Frame) (meth : Method) (c : Code) (A : Nat → Prop) (D : va_G) (cC cI : ClassId) (a0_0 a0_1 a0_2 a0_3 a0_4 a0_5 a0_6 a0_7 : Nat) (out : O_Model_round) (k : T_Model → Int32 → Int32 → Int32 → Option O_Model_round) : Prop := ∀ (v0 : T_Model) (x1 : Int32) (x3 : Int32) (x7 : Int32) (ls : Array Slot) (H : Heap) (locs : List Loc), k v0 x1 x3 x7 = some out → lv_has ls 9 [(0, .ref a0_0), (1, .int x1), (3, .int x3), (7, .int x7)] → va_P D classes (wd_Model_round cC cI a0_0 a0_1 a0_2 a0_3 a0_4 a0_5 a0_6 a0_7 v0) H → va_D A (wd_Model_round cC cI a0_0 a0_1 a0_2 a0_3 a0_4 a0_5 a0_6 a0_7 v0) → va_S A s.heap H locs → W p l e rm_Model_round s m args below meth c H locs 0 0 (MQ below (q_Model_round D cC cI a0_0 a0_1 a0_2 a0_3 a0_4 a0_5 a0_6 a0_7 out A) args s 0 0 A) (F0 m 151 ls [])
def J_Model_round_191 (p : Program) (l : Launch) (e : Env) (s : State) (m : MethodId) (args : Array Value) (below : List Frame) (meth : Method) (c : Code) (A : Nat → Prop) (D : va_G) (cC cI : ClassId) (a0_0 a0_1 a0_2 a0_3 a0_4 a0_5 a0_6 a0_7 : Nat) (out : O_Model_round) (k : T_Model → Int32 → Option O_Model_round) : Prop := ∀ (v0 : T_Model) (s1 : Int32) (ls : Array Slot) (H : Heap) (locs : List Loc), k v0 s1 = some out → lv_has ls 9 [(0, .ref a0_0)] → va_P D classes (wd_Model_round cC cI a0_0 a0_1 a0_2 a0_3 a0_4 a0_5 a0_6 a0_7 v0) H → va_D A (wd_Model_round cC cI a0_0 a0_1 a0_2 a0_3 a0_4 a0_5 a0_6 a0_7 v0) → va_S A s.heap H locs → W p l e rm_Model_round s m args below meth c H locs 0 0 (MQ below (q_Model_round D cC cI a0_0 a0_1 a0_2 a0_3 a0_4 a0_5 a0_6 a0_7 out A) args s 0 0 A) (F0 m 191 ls [.int s1, .ref a0_0])
def J_Model_round_204 (p : Program) (l : Launch) (e : Env) (s : State) (m : MethodId) (args : Array Value) (below : List Frame) (meth : Method) (c : Code) (A : Nat → Prop) (D : va_G) (cC cI : ClassId) (a0_0 a0_1 a0_2 a0_3 a0_4 a0_5 a0_6 a0_7 : Nat) (out : O_Model_round) (k : T_Model → Int32 → Option O_Model_round) : Prop := ∀ (v0 : T_Model) (x8 : Int32) (ls : Array Slot) (H : Heap) (locs : List Loc), k v0 x8 = some out → lv_has ls 9 [(0, .ref a0_0), (8, .int x8)] → va_P D classes (wd_Model_round cC cI a0_0 a0_1 a0_2 a0_3 a0_4 a0_5 a0_6 a0_7 v0) H → va_D A (wd_Model_round cC cI a0_0 a0_1 a0_2 a0_3 a0_4 a0_5 a0_6 a0_7 v0) → va_S A s.heap H locs → W p l e rm_Model_round s m args below meth c H locs 0 0 (MQ below (q_Model_round D cC cI a0_0 a0_1 a0_2 a0_3 a0_4 a0_5 a0_6 a0_7 out A) args s 0 0 A) (F0 m 204 ls [])
def f_Model_round_204   : Nat → T_Model → Int32 → Option O_Model_round
  | 0, _, _ => none
  | n + 1, v0, x8 => (if v0.2.2.2.2.2.2.2.2.2.2.2.2.2.2.1 < x8 then some ((1 : Int32), (v0.1, v0.2.1, v0.2.2.1, v0.2.2.2.1, v0.2.2.2.2.1, v0.2.2.2.2.2.1, v0.2.2.2.2.2.2.1, v0.2.2.2.2.2.2.2.1, v0.2.2.2.2.2.2.2.2.1, v0.2.2.2.2.2.2.2.2.2.1, v0.2.2.2.2.2.2.2.2.2.2.1, v0.2.2.2.2.2.2.2.2.2.2.2.1, v0.2.2.2.2.2.2.2.2.2.2.2.2.1, v0.2.2.2.2.2.2.2.2.2.2.2.2.2.1, (v0.2.2.2.2.2.2.2.2.2.2.2.2.2.2.1 + (1 : Int32)), v0.2.2.2.2.2.2.2.2.2.2.2.2.2.2.2.1, v0.2.2.2.2.2.2.2.2.2.2.2.2.2.2.2.2.1, v0.2.2.2.2.2.2.2.2.2.2.2.2.2.2.2.2.2.1, v0.2.2.2.2.2.2.2.2.2.2.2.2.2.2.2.2.2.2.1, v0.2.2.2.2.2.2.2.2.2.2.2.2.2.2.2.2.2.2.2.1, v0.2.2.2.2.2.2.2.2.2.2.2.2.2.2.2.2.2.2.2.2.1, v0.2.2.2.2.2.2.2.2.2.2.2.2.2.2.2.2.2.2.2.2.2.1, v0.2.2.2.2.2.2.2.2.2.2.2.2.2.2.2.2.2.2.2.2.2.2)) else if ix x8 40 then (f_Model_round_204  n) (v0.1, v0.2.1, v0.2.2.1, v0.2.2.2.1, v0.2.2.2.2.1, v0.2.2.2.2.2.1, v0.2.2.2.2.2.2.1, v0.2.2.2.2.2.2.2.1, v0.2.2.2.2.2.2.2.2.1, v0.2.2.2.2.2.2.2.2.2.1, v0.2.2.2.2.2.2.2.2.2.2.1, v0.2.2.2.2.2.2.2.2.2.2.2.1, v0.2.2.2.2.2.2.2.2.2.2.2.2.1, (upd v0.2.2.2.2.2.2.2.2.2.2.2.2.2.1 x8.toNatClampNeg (0 : Int32)), v0.2.2.2.2.2.2.2.2.2.2.2.2.2.2.1, v0.2.2.2.2.2.2.2.2.2.2.2.2.2.2.2.1, v0.2.2.2.2.2.2.2.2.2.2.2.2.2.2.2.2.1, v0.2.2.2.2.2.2.2.2.2.2.2.2.2.2.2.2.2.1, v0.2.2.2.2.2.2.2.2.2.2.2.2.2.2.2.2.2.2.1, v0.2.2.2.2.2.2.2.2.2.2.2.2.2.2.2.2.2.2.2.1, v0.2.2.2.2.2.2.2.2.2.2.2.2.2.2.2.2.2.2.2.2.1, v0.2.2.2.2.2.2.2.2.2.2.2.2.2.2.2.2.2.2.2.2.2.1, v0.2.2.2.2.2.2.2.2.2.2.2.2.2.2.2.2.2.2.2.2.2.2) (x8 + (1 : Int32)) else none)
set_option maxHeartbeats 4000000 in
set_option maxRecDepth 100000 in
theorem w_Model_round_204 {p : Program} {l : Launch} {e : Env} {s : State} {m : MethodId} {args : Array Value} {below : List Frame} {meth : Method} {c : Code} {A : Nat → Prop} {D : va_G} {cC cI : ClassId} {a0_0 a0_1 a0_2 a0_3 a0_4 a0_5 a0_6 a0_7 : Nat} (X : xCX p s m args meth c A D cC cI b_Model_round 9 R_Model (some .boolean)) {out : O_Model_round}   : ∀ n : Nat, J_Model_round_204 p l e s m args below meth c A D cC cI a0_0 a0_1 a0_2 a0_3 a0_4 a0_5 a0_6 a0_7 out (f_Model_round_204   n) := by
  obtain ⟨hx, hb, hml, hown, htB, ⟨hK, hN⟩, hZ, hA, hr, hlocks⟩ := id X
  intro n
  induction n with
  | zero =>
    intro v0 x8 ls H locs h hl hP hD hS
    cases h
  | succ n ih =>
    intro v0 x8 ls H locs h hl hP hD hS
    refine lv_iload hx hb d_Model_round_204 (lv_at hl 1 rfl) ?_
    refine lv_aload_n hx hb d_Model_round_206 rfl (lv_at hl 0 rfl) ?_
    refine va_get (D := D) (ci := 11) (v := .int v0.2.2.2.2.2.2.2.2.2.2.2.2.2.2.1) (C := R_Model) (T := F_Model) (N := 23) hx hb htB in_Model hown hK hP 0 rfl rfl 14 (by decide) (htB _ b_382) (fun _ h9 => h9) rfl d_Model_round_207 ?_
    refine lv_icmp_gt (tgt := 227) hx hb d_Model_round_210 rfl (fun hc => ?_) (fun hc => ?_)
    · have h := (if_pos hc).symm.trans h
      refine lv_aload_n hx hb d_Model_round_227 rfl (lv_at hl 0 rfl) ?_
      refine lv_aload_n hx hb d_Model_round_228 rfl (lv_at hl 0 rfl) ?_
      refine va_get (D := D) (ci := 11) (v := .int v0.2.2.2.2.2.2.2.2.2.2.2.2.2.2.1) (C := R_Model) (T := F_Model) (N := 23) hx hb htB in_Model hown hK hP 0 rfl rfl 14 (by decide) (htB _ b_382) (fun _ h9 => h9) rfl d_Model_round_229 ?_
      refine lv_iconst (v := 1) hx hb d_Model_round_232 (by decide) ?_
      refine lv_iadd hx hb d_Model_round_233 ?_
      refine va_put (D := D) (ci := 11) (v := .int (v0.2.2.2.2.2.2.2.2.2.2.2.2.2.2.1 + (1 : Int32))) (ty := .int) (C := R_Model) (T := F_Model) (N := 23) hx hb htB in_Model t_Model t_Model_ok n_Model hown hK hP hD hS 0 rfl rfl 14 (by decide) (htB _ b_382) (fun _ h9 => h9) rfl (by decide +kernel) rfl rfl (Nat.le_of_ble_eq_true rfl) d_Model_round_234 (fun H locs hP hD hS => ?_)
      have hP : va_P D classes (wd_Model_round cC cI a0_0 a0_1 a0_2 a0_3 a0_4 a0_5 a0_6 a0_7 (v0.1, v0.2.1, v0.2.2.1, v0.2.2.2.1, v0.2.2.2.2.1, v0.2.2.2.2.2.1, v0.2.2.2.2.2.2.1, v0.2.2.2.2.2.2.2.1, v0.2.2.2.2.2.2.2.2.1, v0.2.2.2.2.2.2.2.2.2.1, v0.2.2.2.2.2.2.2.2.2.2.1, v0.2.2.2.2.2.2.2.2.2.2.2.1, v0.2.2.2.2.2.2.2.2.2.2.2.2.1, v0.2.2.2.2.2.2.2.2.2.2.2.2.2.1, (v0.2.2.2.2.2.2.2.2.2.2.2.2.2.2.1 + (1 : Int32)), v0.2.2.2.2.2.2.2.2.2.2.2.2.2.2.2.1, v0.2.2.2.2.2.2.2.2.2.2.2.2.2.2.2.2.1, v0.2.2.2.2.2.2.2.2.2.2.2.2.2.2.2.2.2.1, v0.2.2.2.2.2.2.2.2.2.2.2.2.2.2.2.2.2.2.1, v0.2.2.2.2.2.2.2.2.2.2.2.2.2.2.2.2.2.2.2.1, v0.2.2.2.2.2.2.2.2.2.2.2.2.2.2.2.2.2.2.2.2.1, v0.2.2.2.2.2.2.2.2.2.2.2.2.2.2.2.2.2.2.2.2.2.1, v0.2.2.2.2.2.2.2.2.2.2.2.2.2.2.2.2.2.2.2.2.2.2)) H := hP
      have hD : va_D A (wd_Model_round cC cI a0_0 a0_1 a0_2 a0_3 a0_4 a0_5 a0_6 a0_7 (v0.1, v0.2.1, v0.2.2.1, v0.2.2.2.1, v0.2.2.2.2.1, v0.2.2.2.2.2.1, v0.2.2.2.2.2.2.1, v0.2.2.2.2.2.2.2.1, v0.2.2.2.2.2.2.2.2.1, v0.2.2.2.2.2.2.2.2.2.1, v0.2.2.2.2.2.2.2.2.2.2.1, v0.2.2.2.2.2.2.2.2.2.2.2.1, v0.2.2.2.2.2.2.2.2.2.2.2.2.1, v0.2.2.2.2.2.2.2.2.2.2.2.2.2.1, (v0.2.2.2.2.2.2.2.2.2.2.2.2.2.2.1 + (1 : Int32)), v0.2.2.2.2.2.2.2.2.2.2.2.2.2.2.2.1, v0.2.2.2.2.2.2.2.2.2.2.2.2.2.2.2.2.1, v0.2.2.2.2.2.2.2.2.2.2.2.2.2.2.2.2.2.1, v0.2.2.2.2.2.2.2.2.2.2.2.2.2.2.2.2.2.2.1, v0.2.2.2.2.2.2.2.2.2.2.2.2.2.2.2.2.2.2.2.1, v0.2.2.2.2.2.2.2.2.2.2.2.2.2.2.2.2.2.2.2.2.1, v0.2.2.2.2.2.2.2.2.2.2.2.2.2.2.2.2.2.2.2.2.2.1, v0.2.2.2.2.2.2.2.2.2.2.2.2.2.2.2.2.2.2.2.2.2.2)) := hD
      refine lv_iconst (v := 1) hx hb d_Model_round_237 (by decide) ?_
      obtain rfl := Option.some.inj h
      exact W.zret (v := (1 : Int32)) (ty := .boolean) hx hb hr rfl (fun t ht hW => ⟨⟨(1 : Int32), (), rfl, rfl, by rw [ht]; exact hP, hD⟩, hS.F ht⟩) hS.2.2 d_Model_round_238 hlocks
    have h := (if_neg hc).symm.trans h
    refine lv_aload_n hx hb d_Model_round_213 rfl (lv_at hl 0 rfl) ?_
    refine va_get (D := D) (ci := 11) (v := .ref a0_6) (C := R_Model) (T := F_Model) (N := 23) hx hb htB in_Model hown hK hP 0 rfl rfl 13 (by decide) (htB _ b_385) (fun _ h9 => h9) rfl d_Model_round_214 ?_
    refine lv_iload hx hb d_Model_round_217 (lv_at hl 1 rfl) ?_
    refine lv_iconst (v := 0) hx hb d_Model_round_219 (by decide) ?_
    obtain ⟨hc, h⟩ := x_chk h
    refine va_iast hx hb hK hP hD hS 6 1 rfl rfl hc d_Model_round_220 (fun H locs hP hD hS => ?_)
    have hP : va_P D classes (wd_Model_round cC cI a0_0 a0_1 a0_2 a0_3 a0_4 a0_5 a0_6 a0_7 (v0.1, v0.2.1, v0.2.2.1, v0.2.2.2.1, v0.2.2.2.2.1, v0.2.2.2.2.2.1, v0.2.2.2.2.2.2.1, v0.2.2.2.2.2.2.2.1, v0.2.2.2.2.2.2.2.2.1, v0.2.2.2.2.2.2.2.2.2.1, v0.2.2.2.2.2.2.2.2.2.2.1, v0.2.2.2.2.2.2.2.2.2.2.2.1, v0.2.2.2.2.2.2.2.2.2.2.2.2.1, (upd v0.2.2.2.2.2.2.2.2.2.2.2.2.2.1 x8.toNatClampNeg (0 : Int32)), v0.2.2.2.2.2.2.2.2.2.2.2.2.2.2.1, v0.2.2.2.2.2.2.2.2.2.2.2.2.2.2.2.1, v0.2.2.2.2.2.2.2.2.2.2.2.2.2.2.2.2.1, v0.2.2.2.2.2.2.2.2.2.2.2.2.2.2.2.2.2.1, v0.2.2.2.2.2.2.2.2.2.2.2.2.2.2.2.2.2.2.1, v0.2.2.2.2.2.2.2.2.2.2.2.2.2.2.2.2.2.2.2.1, v0.2.2.2.2.2.2.2.2.2.2.2.2.2.2.2.2.2.2.2.2.1, v0.2.2.2.2.2.2.2.2.2.2.2.2.2.2.2.2.2.2.2.2.2.1, v0.2.2.2.2.2.2.2.2.2.2.2.2.2.2.2.2.2.2.2.2.2.2)) H := hP
    have hD : va_D A (wd_Model_round cC cI a0_0 a0_1 a0_2 a0_3 a0_4 a0_5 a0_6 a0_7 (v0.1, v0.2.1, v0.2.2.1, v0.2.2.2.1, v0.2.2.2.2.1, v0.2.2.2.2.2.1, v0.2.2.2.2.2.2.1, v0.2.2.2.2.2.2.2.1, v0.2.2.2.2.2.2.2.2.1, v0.2.2.2.2.2.2.2.2.2.1, v0.2.2.2.2.2.2.2.2.2.2.1, v0.2.2.2.2.2.2.2.2.2.2.2.1, v0.2.2.2.2.2.2.2.2.2.2.2.2.1, (upd v0.2.2.2.2.2.2.2.2.2.2.2.2.2.1 x8.toNatClampNeg (0 : Int32)), v0.2.2.2.2.2.2.2.2.2.2.2.2.2.2.1, v0.2.2.2.2.2.2.2.2.2.2.2.2.2.2.2.1, v0.2.2.2.2.2.2.2.2.2.2.2.2.2.2.2.2.1, v0.2.2.2.2.2.2.2.2.2.2.2.2.2.2.2.2.2.1, v0.2.2.2.2.2.2.2.2.2.2.2.2.2.2.2.2.2.2.1, v0.2.2.2.2.2.2.2.2.2.2.2.2.2.2.2.2.2.2.2.1, v0.2.2.2.2.2.2.2.2.2.2.2.2.2.2.2.2.2.2.2.2.1, v0.2.2.2.2.2.2.2.2.2.2.2.2.2.2.2.2.2.2.2.2.2.1, v0.2.2.2.2.2.2.2.2.2.2.2.2.2.2.2.2.2.2.2.2.2.2)) := hD
    refine lv_iinc (k := 1) (v := (x8 + (1 : Int32))) (lv' := [(8, .int (x8 + (1 : Int32))), (0, .ref a0_0)]) hx hb d_Model_round_221 hl rfl (congrArg (fun z => x8 + z) (by decide : Int32.ofInt 1 = (1 : Int32))) (by decide) rfl (fun ls hl => ?_)
    refine lv_goto (tgt := 204) hx hb d_Model_round_224 rfl ?_
    exact ih (v0.1, v0.2.1, v0.2.2.1, v0.2.2.2.1, v0.2.2.2.2.1, v0.2.2.2.2.2.1, v0.2.2.2.2.2.2.1, v0.2.2.2.2.2.2.2.1, v0.2.2.2.2.2.2.2.2.1, v0.2.2.2.2.2.2.2.2.2.1, v0.2.2.2.2.2.2.2.2.2.2.1, v0.2.2.2.2.2.2.2.2.2.2.2.1, v0.2.2.2.2.2.2.2.2.2.2.2.2.1, (upd v0.2.2.2.2.2.2.2.2.2.2.2.2.2.1 x8.toNatClampNeg (0 : Int32)), v0.2.2.2.2.2.2.2.2.2.2.2.2.2.2.1, v0.2.2.2.2.2.2.2.2.2.2.2.2.2.2.2.1, v0.2.2.2.2.2.2.2.2.2.2.2.2.2.2.2.2.1, v0.2.2.2.2.2.2.2.2.2.2.2.2.2.2.2.2.2.1, v0.2.2.2.2.2.2.2.2.2.2.2.2.2.2.2.2.2.2.1, v0.2.2.2.2.2.2.2.2.2.2.2.2.2.2.2.2.2.2.2.1, v0.2.2.2.2.2.2.2.2.2.2.2.2.2.2.2.2.2.2.2.2.1, v0.2.2.2.2.2.2.2.2.2.2.2.2.2.2.2.2.2.2.2.2.2.1, v0.2.2.2.2.2.2.2.2.2.2.2.2.2.2.2.2.2.2.2.2.2.2) (x8 + (1 : Int32)) ls H locs h (lv_sub hl [1, 0] rfl) hP hD hS

def f_Model_round_191 (v0 : T_Model) (s1 : Int32) : Option O_Model_round := f_Model_round_204 FU (v0.1, v0.2.1, v0.2.2.1, v0.2.2.2.1, v0.2.2.2.2.1, v0.2.2.2.2.2.1, v0.2.2.2.2.2.2.1, v0.2.2.2.2.2.2.2.1, v0.2.2.2.2.2.2.2.2.1, v0.2.2.2.2.2.2.2.2.2.1, v0.2.2.2.2.2.2.2.2.2.2.1, v0.2.2.2.2.2.2.2.2.2.2.2.1, v0.2.2.2.2.2.2.2.2.2.2.2.2.1, (upd v0.2.2.2.2.2.2.2.2.2.2.2.2.2.1 (0 : Int32).toNatClampNeg (1 : Int32)), v0.2.2.2.2.2.2.2.2.2.2.2.2.2.2.1, s1, v0.2.2.2.2.2.2.2.2.2.2.2.2.2.2.2.2.1, v0.2.2.2.2.2.2.2.2.2.2.2.2.2.2.2.2.2.1, v0.2.2.2.2.2.2.2.2.2.2.2.2.2.2.2.2.2.2.1, v0.2.2.2.2.2.2.2.2.2.2.2.2.2.2.2.2.2.2.2.1, v0.2.2.2.2.2.2.2.2.2.2.2.2.2.2.2.2.2.2.2.2.1, v0.2.2.2.2.2.2.2.2.2.2.2.2.2.2.2.2.2.2.2.2.2.1, v0.2.2.2.2.2.2.2.2.2.2.2.2.2.2.2.2.2.2.2.2.2.2) (1 : Int32)
set_option maxHeartbeats 4000000 in
set_option maxRecDepth 100000 in
theorem w_Model_round_191 {p : Program} {l : Launch} {e : Env} {s : State} {m : MethodId} {args : Array Value} {below : List Frame} {meth : Method} {c : Code} {A : Nat → Prop} {D : va_G} {cC cI : ClassId} {a0_0 a0_1 a0_2 a0_3 a0_4 a0_5 a0_6 a0_7 : Nat} (X : xCX p s m args meth c A D cC cI b_Model_round 9 R_Model (some .boolean)) {out : O_Model_round}   : J_Model_round_191 p l e s m args below meth c A D cC cI a0_0 a0_1 a0_2 a0_3 a0_4 a0_5 a0_6 a0_7 out (f_Model_round_191  ) := by
  obtain ⟨hx, hb, hml, hown, htB, ⟨hK, hN⟩, hZ, hA, hr, hlocks⟩ := id X
  intro v0 s1 ls H locs h hl hP hD hS
  refine va_put (D := D) (ci := 11) (v := .int s1) (ty := .int) (C := R_Model) (T := F_Model) (N := 23) hx hb htB in_Model t_Model t_Model_ok n_Model hown hK hP hD hS 0 rfl rfl 15 (by decide) (htB _ b_386) (fun _ h9 => h9) rfl (by decide +kernel) rfl rfl (Nat.le_of_ble_eq_true rfl) d_Model_round_191 (fun H locs hP hD hS => ?_)
  have hP : va_P D classes (wd_Model_round cC cI a0_0 a0_1 a0_2 a0_3 a0_4 a0_5 a0_6 a0_7 (v0.1, v0.2.1, v0.2.2.1, v0.2.2.2.1, v0.2.2.2.2.1, v0.2.2.2.2.2.1, v0.2.2.2.2.2.2.1, v0.2.2.2.2.2.2.2.1, v0.2.2.2.2.2.2.2.2.1, v0.2.2.2.2.2.2.2.2.2.1, v0.2.2.2.2.2.2.2.2.2.2.1, v0.2.2.2.2.2.2.2.2.2.2.2.1, v0.2.2.2.2.2.2.2.2.2.2.2.2.1, v0.2.2.2.2.2.2.2.2.2.2.2.2.2.1, v0.2.2.2.2.2.2.2.2.2.2.2.2.2.2.1, s1, v0.2.2.2.2.2.2.2.2.2.2.2.2.2.2.2.2.1, v0.2.2.2.2.2.2.2.2.2.2.2.2.2.2.2.2.2.1, v0.2.2.2.2.2.2.2.2.2.2.2.2.2.2.2.2.2.2.1, v0.2.2.2.2.2.2.2.2.2.2.2.2.2.2.2.2.2.2.2.1, v0.2.2.2.2.2.2.2.2.2.2.2.2.2.2.2.2.2.2.2.2.1, v0.2.2.2.2.2.2.2.2.2.2.2.2.2.2.2.2.2.2.2.2.2.1, v0.2.2.2.2.2.2.2.2.2.2.2.2.2.2.2.2.2.2.2.2.2.2)) H := hP
  have hD : va_D A (wd_Model_round cC cI a0_0 a0_1 a0_2 a0_3 a0_4 a0_5 a0_6 a0_7 (v0.1, v0.2.1, v0.2.2.1, v0.2.2.2.1, v0.2.2.2.2.1, v0.2.2.2.2.2.1, v0.2.2.2.2.2.2.1, v0.2.2.2.2.2.2.2.1, v0.2.2.2.2.2.2.2.2.1, v0.2.2.2.2.2.2.2.2.2.1, v0.2.2.2.2.2.2.2.2.2.2.1, v0.2.2.2.2.2.2.2.2.2.2.2.1, v0.2.2.2.2.2.2.2.2.2.2.2.2.1, v0.2.2.2.2.2.2.2.2.2.2.2.2.2.1, v0.2.2.2.2.2.2.2.2.2.2.2.2.2.2.1, s1, v0.2.2.2.2.2.2.2.2.2.2.2.2.2.2.2.2.1, v0.2.2.2.2.2.2.2.2.2.2.2.2.2.2.2.2.2.1, v0.2.2.2.2.2.2.2.2.2.2.2.2.2.2.2.2.2.2.1, v0.2.2.2.2.2.2.2.2.2.2.2.2.2.2.2.2.2.2.2.1, v0.2.2.2.2.2.2.2.2.2.2.2.2.2.2.2.2.2.2.2.2.1, v0.2.2.2.2.2.2.2.2.2.2.2.2.2.2.2.2.2.2.2.2.2.1, v0.2.2.2.2.2.2.2.2.2.2.2.2.2.2.2.2.2.2.2.2.2.2)) := hD
  refine lv_aload_n hx hb d_Model_round_194 rfl (lv_at hl 0 rfl) ?_
  refine va_get (D := D) (ci := 11) (v := .ref a0_6) (C := R_Model) (T := F_Model) (N := 23) hx hb htB in_Model hown hK hP 0 rfl rfl 13 (by decide) (htB _ b_385) (fun _ h9 => h9) rfl d_Model_round_195 ?_
  refine lv_iconst (v := 0) hx hb d_Model_round_198 (by decide) ?_
  refine lv_iconst (v := 1) hx hb d_Model_round_199 (by decide) ?_
  refine va_iast hx hb hK hP hD hS 6 1 rfl rfl (show ¬ (((0 : Int32) : Int32) < 0 ∨ 40 ≤ ((0 : Int32) : Int32).toNatClampNeg) by decide) d_Model_round_200 (fun H locs hP hD hS => ?_)
  have hP : va_P D classes (wd_Model_round cC cI a0_0 a0_1 a0_2 a0_3 a0_4 a0_5 a0_6 a0_7 (v0.1, v0.2.1, v0.2.2.1, v0.2.2.2.1, v0.2.2.2.2.1, v0.2.2.2.2.2.1, v0.2.2.2.2.2.2.1, v0.2.2.2.2.2.2.2.1, v0.2.2.2.2.2.2.2.2.1, v0.2.2.2.2.2.2.2.2.2.1, v0.2.2.2.2.2.2.2.2.2.2.1, v0.2.2.2.2.2.2.2.2.2.2.2.1, v0.2.2.2.2.2.2.2.2.2.2.2.2.1, (upd v0.2.2.2.2.2.2.2.2.2.2.2.2.2.1 (0 : Int32).toNatClampNeg (1 : Int32)), v0.2.2.2.2.2.2.2.2.2.2.2.2.2.2.1, s1, v0.2.2.2.2.2.2.2.2.2.2.2.2.2.2.2.2.1, v0.2.2.2.2.2.2.2.2.2.2.2.2.2.2.2.2.2.1, v0.2.2.2.2.2.2.2.2.2.2.2.2.2.2.2.2.2.2.1, v0.2.2.2.2.2.2.2.2.2.2.2.2.2.2.2.2.2.2.2.1, v0.2.2.2.2.2.2.2.2.2.2.2.2.2.2.2.2.2.2.2.2.1, v0.2.2.2.2.2.2.2.2.2.2.2.2.2.2.2.2.2.2.2.2.2.1, v0.2.2.2.2.2.2.2.2.2.2.2.2.2.2.2.2.2.2.2.2.2.2)) H := hP
  have hD : va_D A (wd_Model_round cC cI a0_0 a0_1 a0_2 a0_3 a0_4 a0_5 a0_6 a0_7 (v0.1, v0.2.1, v0.2.2.1, v0.2.2.2.1, v0.2.2.2.2.1, v0.2.2.2.2.2.1, v0.2.2.2.2.2.2.1, v0.2.2.2.2.2.2.2.1, v0.2.2.2.2.2.2.2.2.1, v0.2.2.2.2.2.2.2.2.2.1, v0.2.2.2.2.2.2.2.2.2.2.1, v0.2.2.2.2.2.2.2.2.2.2.2.1, v0.2.2.2.2.2.2.2.2.2.2.2.2.1, (upd v0.2.2.2.2.2.2.2.2.2.2.2.2.2.1 (0 : Int32).toNatClampNeg (1 : Int32)), v0.2.2.2.2.2.2.2.2.2.2.2.2.2.2.1, s1, v0.2.2.2.2.2.2.2.2.2.2.2.2.2.2.2.2.1, v0.2.2.2.2.2.2.2.2.2.2.2.2.2.2.2.2.2.1, v0.2.2.2.2.2.2.2.2.2.2.2.2.2.2.2.2.2.2.1, v0.2.2.2.2.2.2.2.2.2.2.2.2.2.2.2.2.2.2.2.1, v0.2.2.2.2.2.2.2.2.2.2.2.2.2.2.2.2.2.2.2.2.1, v0.2.2.2.2.2.2.2.2.2.2.2.2.2.2.2.2.2.2.2.2.2.1, v0.2.2.2.2.2.2.2.2.2.2.2.2.2.2.2.2.2.2.2.2.2.2)) := hD
  refine lv_iconst (v := 1) hx hb d_Model_round_201 (by decide) ?_
  refine lv_istore (lv' := [(8, .int (1 : Int32)), (0, .ref a0_0)]) hx hb d_Model_round_202 hl (by decide) rfl (fun ls hl => ?_)
  exact w_Model_round_204 X FU (v0.1, v0.2.1, v0.2.2.1, v0.2.2.2.1, v0.2.2.2.2.1, v0.2.2.2.2.2.1, v0.2.2.2.2.2.2.1, v0.2.2.2.2.2.2.2.1, v0.2.2.2.2.2.2.2.2.1, v0.2.2.2.2.2.2.2.2.2.1, v0.2.2.2.2.2.2.2.2.2.2.1, v0.2.2.2.2.2.2.2.2.2.2.2.1, v0.2.2.2.2.2.2.2.2.2.2.2.2.1, (upd v0.2.2.2.2.2.2.2.2.2.2.2.2.2.1 (0 : Int32).toNatClampNeg (1 : Int32)), v0.2.2.2.2.2.2.2.2.2.2.2.2.2.2.1, s1, v0.2.2.2.2.2.2.2.2.2.2.2.2.2.2.2.2.1, v0.2.2.2.2.2.2.2.2.2.2.2.2.2.2.2.2.2.1, v0.2.2.2.2.2.2.2.2.2.2.2.2.2.2.2.2.2.2.1, v0.2.2.2.2.2.2.2.2.2.2.2.2.2.2.2.2.2.2.2.1, v0.2.2.2.2.2.2.2.2.2.2.2.2.2.2.2.2.2.2.2.2.1, v0.2.2.2.2.2.2.2.2.2.2.2.2.2.2.2.2.2.2.2.2.2.1, v0.2.2.2.2.2.2.2.2.2.2.2.2.2.2.2.2.2.2.2.2.2.2) (1 : Int32) ls H locs h (lv_sub hl [1, 0] rfl) hP hD hS

def f_Model_round_151 (v0 : T_Model) (x1 : Int32) (x3 : Int32) (x7 : Int32) : Option O_Model_round := (if x7 < 0 then (if 0 ≤ x3 then f_Model_round_191 v0 (v0.2.2.2.2.2.2.2.2.2.2.2.2.2.2.2.1 + (1 : Int32)) else f_Model_round_191 v0 ((1 : Int32) - x1)) else if ix x7 40 then if ix x7 40 then some ((1 : Int32), (v0.1, v0.2.1, v0.2.2.1, v0.2.2.2.1, v0.2.2.2.2.1, v0.2.2.2.2.2.1, v0.2.2.2.2.2.2.1, v0.2.2.2.2.2.2.2.1, v0.2.2.2.2.2.2.2.2.1, v0.2.2.2.2.2.2.2.2.2.1, v0.2.2.2.2.2.2.2.2.2.2.1, v0.2.2.2.2.2.2.2.2.2.2.2.1, v0.2.2.2.2.2.2.2.2.2.2.2.2.1, (upd v0.2.2.2.2.2.2.2.2.2.2.2.2.2.1 x7.toNatClampNeg ((v0.2.2.2.2.2.2.2.2.2.2.2.2.2.1 x7.toNatClampNeg) + (1 : Int32))), v0.2.2.2.2.2.2.2.2.2.2.2.2.2.2.1, v0.2.2.2.2.2.2.2.2.2.2.2.2.2.2.2.1, v0.2.2.2.2.2.2.2.2.2.2.2.2.2.2.2.2.1, v0.2.2.2.2.2.2.2.2.2.2.2.2.2.2.2.2.2.1, v0.2.2.2.2.2.2.2.2.2.2.2.2.2.2.2.2.2.2.1, v0.2.2.2.2.2.2.2.2.2.2.2.2.2.2.2.2.2.2.2.1, v0.2.2.2.2.2.2.2.2.2.2.2.2.2.2.2.2.2.2.2.2.1, v0.2.2.2.2.2.2.2.2.2.2.2.2.2.2.2.2.2.2.2.2.2.1, v0.2.2.2.2.2.2.2.2.2.2.2.2.2.2.2.2.2.2.2.2.2.2)) else none else none)
set_option maxHeartbeats 4000000 in
set_option maxRecDepth 100000 in
theorem w_Model_round_151 {p : Program} {l : Launch} {e : Env} {s : State} {m : MethodId} {args : Array Value} {below : List Frame} {meth : Method} {c : Code} {A : Nat → Prop} {D : va_G} {cC cI : ClassId} {a0_0 a0_1 a0_2 a0_3 a0_4 a0_5 a0_6 a0_7 : Nat} (X : xCX p s m args meth c A D cC cI b_Model_round 9 R_Model (some .boolean)) {out : O_Model_round}   : J_Model_round_151 p l e s m args below meth c A D cC cI a0_0 a0_1 a0_2 a0_3 a0_4 a0_5 a0_6 a0_7 out (f_Model_round_151  ) := by
  obtain ⟨hx, hb, hml, hown, htB, ⟨hK, hN⟩, hZ, hA, hr, hlocks⟩ := id X
  intro v0 x1 x3 x7 ls H locs h hl hP hD hS
  refine lv_iload hx hb d_Model_round_151 (lv_at hl 3 rfl) ?_
  refine lv_if_lt (tgt := 174) hx hb d_Model_round_153 rfl (fun hc => ?_) (fun hc => ?_)
  · have h := (if_pos hc).symm.trans h
    refine lv_aload_n hx hb d_Model_round_174 rfl (lv_at hl 0 rfl) ?_
    refine lv_iload_n hx hb d_Model_round_175 rfl (lv_at hl 2 rfl) ?_
    refine lv_if_ge (tgt := 185) hx hb d_Model_round_176 rfl (fun hc => ?_) (fun hc => ?_)
    · have h := (if_pos hc).symm.trans h
      refine lv_aload_n hx hb d_Model_round_185 rfl (lv_at hl 0 rfl) ?_
      refine va_get (D := D) (ci := 11) (v := .int v0.2.2.2.2.2.2.2.2.2.2.2.2.2.2.2.1) (C := R_Model) (T := F_Model) (N := 23) hx hb htB in_Model hown hK hP 0 rfl rfl 15 (by decide) (htB _ b_386) (fun _ h9 => h9) rfl d_Model_round_186 ?_
      refine lv_iconst (v := 1) hx hb d_Model_round_189 (by decide) ?_
      refine lv_iadd hx hb d_Model_round_190 ?_
      exact w_Model_round_191 X v0 (v0.2.2.2.2.2.2.2.2.2.2.2.2.2.2.2.1 + (1 : Int32)) ls H locs h (lv_sub hl [0] rfl) hP hD hS
    have h := (if_neg hc).symm.trans h
    refine lv_iconst (v := 1) hx hb d_Model_round_179 (by decide) ?_
    refine lv_iload_n hx hb d_Model_round_180 rfl (lv_at hl 1 rfl) ?_
    refine lv_isub hx hb d_Model_round_181 ?_
    refine lv_goto (tgt := 191) hx hb d_Model_round_182 rfl ?_
    exact w_Model_round_191 X v0 ((1 : Int32) - x1) ls H locs h (lv_sub hl [0] rfl) hP hD hS
  have h := (if_neg hc).symm.trans h
  refine lv_aload_n hx hb d_Model_round_156 rfl (lv_at hl 0 rfl) ?_
  refine va_get (D := D) (ci := 11) (v := .ref a0_6) (C := R_Model) (T := F_Model) (N := 23) hx hb htB in_Model hown hK hP 0 rfl rfl 13 (by decide) (htB _ b_385) (fun _ h9 => h9) rfl d_Model_round_157 ?_
  refine lv_iload hx hb d_Model_round_160 (lv_at hl 3 rfl) ?_
  refine lv_aload_n hx hb d_Model_round_162 rfl (lv_at hl 0 rfl) ?_
  refine va_get (D := D) (ci := 11) (v := .ref a0_6) (C := R_Model) (T := F_Model) (N := 23) hx hb htB in_Model hown hK hP 0 rfl rfl 13 (by decide) (htB _ b_385) (fun _ h9 => h9) rfl d_Model_round_163 ?_
  refine lv_iload hx hb d_Model_round_166 (lv_at hl 3 rfl) ?_
  obtain ⟨hc, h⟩ := x_chk h
  refine va_iald hx hb hK hP 6 1 rfl rfl hc d_Model_round_168 ?_
  refine lv_iconst (v := 1) hx hb d_Model_round_169 (by decide) ?_
  refine lv_iadd hx hb d_Model_round_170 ?_
  obtain ⟨hc, h⟩ := x_chk h
  refine va_iast hx hb hK hP hD hS 6 1 rfl rfl hc d_Model_round_171 (fun H locs hP hD hS => ?_)
  have hP : va_P D classes (wd_Model_round cC cI a0_0 a0_1 a0_2 a0_3 a0_4 a0_5 a0_6 a0_7 (v0.1, v0.2.1, v0.2.2.1, v0.2.2.2.1, v0.2.2.2.2.1, v0.2.2.2.2.2.1, v0.2.2.2.2.2.2.1, v0.2.2.2.2.2.2.2.1, v0.2.2.2.2.2.2.2.2.1, v0.2.2.2.2.2.2.2.2.2.1, v0.2.2.2.2.2.2.2.2.2.2.1, v0.2.2.2.2.2.2.2.2.2.2.2.1, v0.2.2.2.2.2.2.2.2.2.2.2.2.1, (upd v0.2.2.2.2.2.2.2.2.2.2.2.2.2.1 x7.toNatClampNeg ((v0.2.2.2.2.2.2.2.2.2.2.2.2.2.1 x7.toNatClampNeg) + (1 : Int32))), v0.2.2.2.2.2.2.2.2.2.2.2.2.2.2.1, v0.2.2.2.2.2.2.2.2.2.2.2.2.2.2.2.1, v0.2.2.2.2.2.2.2.2.2.2.2.2.2.2.2.2.1, v0.2.2.2.2.2.2.2.2.2.2.2.2.2.2.2.2.2.1, v0.2.2.2.2.2.2.2.2.2.2.2.2.2.2.2.2.2.2.1, v0.2.2.2.2.2.2.2.2.2.2.2.2.2.2.2.2.2.2.2.1, v0.2.2.2.2.2.2.2.2.2.2.2.2.2.2.2.2.2.2.2.2.1, v0.2.2.2.2.2.2.2.2.2.2.2.2.2.2.2.2.2.2.2.2.2.1, v0.2.2.2.2.2.2.2.2.2.2.2.2.2.2.2.2.2.2.2.2.2.2)) H := hP
  have hD : va_D A (wd_Model_round cC cI a0_0 a0_1 a0_2 a0_3 a0_4 a0_5 a0_6 a0_7 (v0.1, v0.2.1, v0.2.2.1, v0.2.2.2.1, v0.2.2.2.2.1, v0.2.2.2.2.2.1, v0.2.2.2.2.2.2.1, v0.2.2.2.2.2.2.2.1, v0.2.2.2.2.2.2.2.2.1, v0.2.2.2.2.2.2.2.2.2.1, v0.2.2.2.2.2.2.2.2.2.2.1, v0.2.2.2.2.2.2.2.2.2.2.2.1, v0.2.2.2.2.2.2.2.2.2.2.2.2.1, (upd v0.2.2.2.2.2.2.2.2.2.2.2.2.2.1 x7.toNatClampNeg ((v0.2.2.2.2.2.2.2.2.2.2.2.2.2.1 x7.toNatClampNeg) + (1 : Int32))), v0.2.2.2.2.2.2.2.2.2.2.2.2.2.2.1, v0.2.2.2.2.2.2.2.2.2.2.2.2.2.2.2.1, v0.2.2.2.2.2.2.2.2.2.2.2.2.2.2.2.2.1, v0.2.2.2.2.2.2.2.2.2.2.2.2.2.2.2.2.2.1, v0.2.2.2.2.2.2.2.2.2.2.2.2.2.2.2.2.2.2.1, v0.2.2.2.2.2.2.2.2.2.2.2.2.2.2.2.2.2.2.2.1, v0.2.2.2.2.2.2.2.2.2.2.2.2.2.2.2.2.2.2.2.2.1, v0.2.2.2.2.2.2.2.2.2.2.2.2.2.2.2.2.2.2.2.2.2.1, v0.2.2.2.2.2.2.2.2.2.2.2.2.2.2.2.2.2.2.2.2.2.2)) := hD
  refine lv_iconst (v := 1) hx hb d_Model_round_172 (by decide) ?_
  obtain rfl := Option.some.inj h
  exact W.zret (v := (1 : Int32)) (ty := .boolean) hx hb hr rfl (fun t ht hW => ⟨⟨(1 : Int32), (), rfl, rfl, by rw [ht]; exact hP, hD⟩, hS.F ht⟩) hS.2.2 d_Model_round_173 hlocks

def f_Model_round_117   : Nat → T_Model → Int32 → Int32 → Int32 → Option O_Model_round
  | 0, _, _, _, _ => none
  | n + 1, v0, x1, x3, x7 => (if x7 < 0 then f_Model_round_151 v0 x1 x3 x7 else if ix x7 40 then (if (v0.2.2.2.2.2.2.2.2.2.2.2.2.2.1 x7.toNatClampNeg) = (9 : Int32) then if ix x7 40 then (f_Model_round_117  n) (v0.1, v0.2.1, v0.2.2.1, v0.2.2.2.1, v0.2.2.2.2.1, v0.2.2.2.2.2.1, v0.2.2.2.2.2.2.1, v0.2.2.2.2.2.2.2.1, v0.2.2.2.2.2.2.2.2.1, v0.2.2.2.2.2.2.2.2.2.1, v0.2.2.2.2.2.2.2.2.2.2.1, v0.2.2.2.2.2.2.2.2.2.2.2.1, v0.2.2.2.2.2.2.2.2.2.2.2.2.1, (upd v0.2.2.2.2.2.2.2.2.2.2.2.2.2.1 x7.toNatClampNeg (0 : Int32)), v0.2.2.2.2.2.2.2.2.2.2.2.2.2.2.1, v0.2.2.2.2.2.2.2.2.2.2.2.2.2.2.2.1, v0.2.2.2.2.2.2.2.2.2.2.2.2.2.2.2.2.1, v0.2.2.2.2.2.2.2.2.2.2.2.2.2.2.2.2.2.1, v0.2.2.2.2.2.2.2.2.2.2.2.2.2.2.2.2.2.2.1, v0.2.2.2.2.2.2.2.2.2.2.2.2.2.2.2.2.2.2.2.1, v0.2.2.2.2.2.2.2.2.2.2.2.2.2.2.2.2.2.2.2.2.1, v0.2.2.2.2.2.2.2.2.2.2.2.2.2.2.2.2.2.2.2.2.2.1, v0.2.2.2.2.2.2.2.2.2.2.2.2.2.2.2.2.2.2.2.2.2.2) x1 x3 (x7 - (1 : Int32)) else none else f_Model_round_151 v0 x1 x3 x7) else none)
set_option maxHeartbeats 4000000 in
set_option maxRecDepth 100000 in
theorem w_Model_round_117 {p : Program} {l : Launch} {e : Env} {s : State} {m : MethodId} {args : Array Value} {below : List Frame} {meth : Method} {c : Code} {A : Nat → Prop} {D : va_G} {cC cI : ClassId} {a0_0 a0_1 a0_2 a0_3 a0_4 a0_5 a0_6 a0_7 : Nat} (X : xCX p s m args meth c A D cC cI b_Model_round 9 R_Model (some .boolean)) {out : O_Model_round}   : ∀ n : Nat, J_Model_round_117 p l e s m args below meth c A D cC cI a0_0 a0_1 a0_2 a0_3 a0_4 a0_5 a0_6 a0_7 out (f_Model_round_117   n) := by
  obtain ⟨hx, hb, hml, hown, htB, ⟨hK, hN⟩, hZ, hA, hr, hlocks⟩ := id X
  intro n
  induction n with
  | zero =>
    intro v0 x1 x3 x7 ls H locs h hl hP hD hS
    cases h
  | succ n ih =>
    intro v0 x1 x3 x7 ls H locs h hl hP hD hS
    refine lv_iload hx hb d_Model_round_117 (lv_at hl 3 rfl) ?_
    refine lv_if_lt (tgt := 151) hx hb d_Model_round_119 rfl (fun hc => ?_) (fun hc => ?_)
    · have h := (if_pos hc).symm.trans h
      exact w_Model_round_151 X v0 x1 x3 x7 ls H locs h (lv_sub hl [0, 1, 2, 3] rfl) hP hD hS
    have h := (if_neg hc).symm.trans h
    refine lv_aload_n hx hb d_Model_round_122 rfl (lv_at hl 0 rfl) ?_
    refine va_get (D := D) (ci := 11) (v := .ref a0_6) (C := R_Model) (T := F_Model) (N := 23) hx hb htB in_Model hown hK hP 0 rfl rfl 13 (by decide) (htB _ b_385) (fun _ h9 => h9) rfl d_Model_round_123 ?_
    refine lv_iload hx hb d_Model_round_126 (lv_at hl 3 rfl) ?_
    obtain ⟨hc, h⟩ := x_chk h
    refine va_iald hx hb hK hP 6 1 rfl rfl hc d_Model_round_128 ?_
    refine lv_bipush (v := 9) hx hb d_Model_round_129 (by decide) ?_
    refine lv_icmp_ne (tgt := 151) hx hb d_Model_round_131 rfl (fun hc => ?_) (fun hc => ?_)
    · have h := (if_neg hc).symm.trans h
      exact w_Model_round_151 X v0 x1 x3 x7 ls H locs h (lv_sub hl [0, 1, 2, 3] rfl) hP hD hS
    have h := (if_pos hc).symm.trans h
    refine lv_aload_n hx hb d_Model_round_134 rfl (lv_at hl 0 rfl) ?_
    refine va_get (D := D) (ci := 11) (v := .ref a0_6) (C := R_Model) (T := F_Model) (N := 23) hx hb htB in_Model hown hK hP 0 rfl rfl 13 (by decide) (htB _ b_385) (fun _ h9 => h9) rfl d_Model_round_135 ?_
    refine lv_iload hx hb d_Model_round_138 (lv_at hl 3 rfl) ?_
    refine lv_iconst (v := 0) hx hb d_Model_round_140 (by decide) ?_
    obtain ⟨hc, h⟩ := x_chk h
    refine va_iast hx hb hK hP hD hS 6 1 rfl rfl hc d_Model_round_141 (fun H locs hP hD hS => ?_)
    have hP : va_P D classes (wd_Model_round cC cI a0_0 a0_1 a0_2 a0_3 a0_4 a0_5 a0_6 a0_7 (v0.1, v0.2.1, v0.2.2.1, v0.2.2.2.1, v0.2.2.2.2.1, v0.2.2.2.2.2.1, v0.2.2.2.2.2.2.1, v0.2.2.2.2.2.2.2.1, v0.2.2.2.2.2.2.2.2.1, v0.2.2.2.2.2.2.2.2.2.1, v0.2.2.2.2.2.2.2.2.2.2.1, v0.2.2.2.2.2.2.2.2.2.2.2.1, v0.2.2.2.2.2.2.2.2.2.2.2.2.1, (upd v0.2.2.2.2.2.2.2.2.2.2.2.2.2.1 x7.toNatClampNeg (0 : Int32)), v0.2.2.2.2.2.2.2.2.2.2.2.2.2.2.1, v0.2.2.2.2.2.2.2.2.2.2.2.2.2.2.2.1, v0.2.2.2.2.2.2.2.2.2.2.2.2.2.2.2.2.1, v0.2.2.2.2.2.2.2.2.2.2.2.2.2.2.2.2.2.1, v0.2.2.2.2.2.2.2.2.2.2.2.2.2.2.2.2.2.2.1, v0.2.2.2.2.2.2.2.2.2.2.2.2.2.2.2.2.2.2.2.1, v0.2.2.2.2.2.2.2.2.2.2.2.2.2.2.2.2.2.2.2.2.1, v0.2.2.2.2.2.2.2.2.2.2.2.2.2.2.2.2.2.2.2.2.2.1, v0.2.2.2.2.2.2.2.2.2.2.2.2.2.2.2.2.2.2.2.2.2.2)) H := hP
    have hD : va_D A (wd_Model_round cC cI a0_0 a0_1 a0_2 a0_3 a0_4 a0_5 a0_6 a0_7 (v0.1, v0.2.1, v0.2.2.1, v0.2.2.2.1, v0.2.2.2.2.1, v0.2.2.2.2.2.1, v0.2.2.2.2.2.2.1, v0.2.2.2.2.2.2.2.1, v0.2.2.2.2.2.2.2.2.1, v0.2.2.2.2.2.2.2.2.2.1, v0.2.2.2.2.2.2.2.2.2.2.1, v0.2.2.2.2.2.2.2.2.2.2.2.1, v0.2.2.2.2.2.2.2.2.2.2.2.2.1, (upd v0.2.2.2.2.2.2.2.2.2.2.2.2.2.1 x7.toNatClampNeg (0 : Int32)), v0.2.2.2.2.2.2.2.2.2.2.2.2.2.2.1, v0.2.2.2.2.2.2.2.2.2.2.2.2.2.2.2.1, v0.2.2.2.2.2.2.2.2.2.2.2.2.2.2.2.2.1, v0.2.2.2.2.2.2.2.2.2.2.2.2.2.2.2.2.2.1, v0.2.2.2.2.2.2.2.2.2.2.2.2.2.2.2.2.2.2.1, v0.2.2.2.2.2.2.2.2.2.2.2.2.2.2.2.2.2.2.2.1, v0.2.2.2.2.2.2.2.2.2.2.2.2.2.2.2.2.2.2.2.2.1, v0.2.2.2.2.2.2.2.2.2.2.2.2.2.2.2.2.2.2.2.2.2.1, v0.2.2.2.2.2.2.2.2.2.2.2.2.2.2.2.2.2.2.2.2.2.2)) := hD
    refine lv_iload hx hb d_Model_round_142 (lv_at hl 3 rfl) ?_
    refine lv_iconst (v := 1) hx hb d_Model_round_144 (by decide) ?_
    refine lv_isub hx hb d_Model_round_145 ?_
    refine lv_istore (lv' := [(7, .int (x7 - (1 : Int32))), (0, .ref a0_0), (1, .int x1), (3, .int x3)]) hx hb d_Model_round_146 hl (by decide) rfl (fun ls hl => ?_)
    refine lv_goto (tgt := 117) hx hb d_Model_round_148 rfl ?_
    exact ih (v0.1, v0.2.1, v0.2.2.1, v0.2.2.2.1, v0.2.2.2.2.1, v0.2.2.2.2.2.1, v0.2.2.2.2.2.2.1, v0.2.2.2.2.2.2.2.1, v0.2.2.2.2.2.2.2.2.1, v0.2.2.2.2.2.2.2.2.2.1, v0.2.2.2.2.2.2.2.2.2.2.1, v0.2.2.2.2.2.2.2.2.2.2.2.1, v0.2.2.2.2.2.2.2.2.2.2.2.2.1, (upd v0.2.2.2.2.2.2.2.2.2.2.2.2.2.1 x7.toNatClampNeg (0 : Int32)), v0.2.2.2.2.2.2.2.2.2.2.2.2.2.2.1, v0.2.2.2.2.2.2.2.2.2.2.2.2.2.2.2.1, v0.2.2.2.2.2.2.2.2.2.2.2.2.2.2.2.2.1, v0.2.2.2.2.2.2.2.2.2.2.2.2.2.2.2.2.2.1, v0.2.2.2.2.2.2.2.2.2.2.2.2.2.2.2.2.2.2.1, v0.2.2.2.2.2.2.2.2.2.2.2.2.2.2.2.2.2.2.2.1, v0.2.2.2.2.2.2.2.2.2.2.2.2.2.2.2.2.2.2.2.2.1, v0.2.2.2.2.2.2.2.2.2.2.2.2.2.2.2.2.2.2.2.2.2.1, v0.2.2.2.2.2.2.2.2.2.2.2.2.2.2.2.2.2.2.2.2.2.2) x1 x3 (x7 - (1 : Int32)) ls H locs h (lv_sub hl [1, 2, 3, 0] rfl) hP hD hS

def f_Model_round_99 (v0 : T_Model) (x1 : Int32) (x3 : Int32) (x6 : Int32) (s1 : Int32) : Option O_Model_round := (if x6 = 0 then some ((1 : Int32), (v0.1, v0.2.1, v0.2.2.1, v0.2.2.2.1, v0.2.2.2.2.1, v0.2.2.2.2.2.1, v0.2.2.2.2.2.2.1, v0.2.2.2.2.2.2.2.1, v0.2.2.2.2.2.2.2.2.1, v0.2.2.2.2.2.2.2.2.2.1, v0.2.2.2.2.2.2.2.2.2.2.1, v0.2.2.2.2.2.2.2.2.2.2.2.1, v0.2.2.2.2.2.2.2.2.2.2.2.2.1, v0.2.2.2.2.2.2.2.2.2.2.2.2.2.1, s1, v0.2.2.2.2.2.2.2.2.2.2.2.2.2.2.2.1, v0.2.2.2.2.2.2.2.2.2.2.2.2.2.2.2.2.1, v0.2.2.2.2.2.2.2.2.2.2.2.2.2.2.2.2.2.1, v0.2.2.2.2.2.2.2.2.2.2.2.2.2.2.2.2.2.2.1, v0.2.2.2.2.2.2.2.2.2.2.2.2.2.2.2.2.2.2.2.1, v0.2.2.2.2.2.2.2.2.2.2.2.2.2.2.2.2.2.2.2.2.1, v0.2.2.2.2.2.2.2.2.2.2.2.2.2.2.2.2.2.2.2.2.2.1, v0.2.2.2.2.2.2.2.2.2.2.2.2.2.2.2.2.2.2.2.2.2.2)) else f_Model_round_117 FU (v0.1, v0.2.1, v0.2.2.1, v0.2.2.2.1, v0.2.2.2.2.1, v0.2.2.2.2.2.1, v0.2.2.2.2.2.2.1, v0.2.2.2.2.2.2.2.1, v0.2.2.2.2.2.2.2.2.1, v0.2.2.2.2.2.2.2.2.2.1, v0.2.2.2.2.2.2.2.2.2.2.1, v0.2.2.2.2.2.2.2.2.2.2.2.1, v0.2.2.2.2.2.2.2.2.2.2.2.2.1, v0.2.2.2.2.2.2.2.2.2.2.2.2.2.1, s1, v0.2.2.2.2.2.2.2.2.2.2.2.2.2.2.2.1, v0.2.2.2.2.2.2.2.2.2.2.2.2.2.2.2.2.1, v0.2.2.2.2.2.2.2.2.2.2.2.2.2.2.2.2.2.1, v0.2.2.2.2.2.2.2.2.2.2.2.2.2.2.2.2.2.2.1, v0.2.2.2.2.2.2.2.2.2.2.2.2.2.2.2.2.2.2.2.1, v0.2.2.2.2.2.2.2.2.2.2.2.2.2.2.2.2.2.2.2.2.1, v0.2.2.2.2.2.2.2.2.2.2.2.2.2.2.2.2.2.2.2.2.2.1, v0.2.2.2.2.2.2.2.2.2.2.2.2.2.2.2.2.2.2.2.2.2.2) x1 x3 (s1 - (1 : Int32)))
set_option maxHeartbeats 4000000 in
set_option maxRecDepth 100000 in
theorem w_Model_round_99 {p : Program} {l : Launch} {e : Env} {s : State} {m : MethodId} {args : Array Value} {below : List Frame} {meth : Method} {c : Code} {A : Nat → Prop} {D : va_G} {cC cI : ClassId} {a0_0 a0_1 a0_2 a0_3 a0_4 a0_5 a0_6 a0_7 : Nat} (X : xCX p s m args meth c A D cC cI b_Model_round 9 R_Model (some .boolean)) {out : O_Model_round}   : J_Model_round_99 p l e s m args below meth c A D cC cI a0_0 a0_1 a0_2 a0_3 a0_4 a0_5 a0_6 a0_7 out (f_Model_round_99  ) := by
  obtain ⟨hx, hb, hml, hown, htB, ⟨hK, hN⟩, hZ, hA, hr, hlocks⟩ := id X
  intro v0 x1 x3 x6 s1 ls H locs h hl hP hD hS
  refine va_put (D := D) (ci := 11) (v := .int s1) (ty := .int) (C := R_Model) (T := F_Model) (N := 23) hx hb htB in_Model t_Model t_Model_ok n_Model hown hK hP hD hS 0 rfl rfl 14 (by decide) (htB _ b_382) (fun _ h9 => h9) rfl (by decide +kernel) rfl rfl (Nat.le_of_ble_eq_true rfl) d_Model_round_99 (fun H locs hP hD hS => ?_)
  have hP : va_P D classes (wd_Model_round cC cI a0_0 a0_1 a0_2 a0_3 a0_4 a0_5 a0_6 a0_7 (v0.1, v0.2.1, v0.2.2.1, v0.2.2.2.1, v0.2.2.2.2.1, v0.2.2.2.2.2.1, v0.2.2.2.2.2.2.1, v0.2.2.2.2.2.2.2.1, v0.2.2.2.2.2.2.2.2.1, v0.2.2.2.2.2.2.2.2.2.1, v0.2.2.2.2.2.2.2.2.2.2.1, v0.2.2.2.2.2.2.2.2.2.2.2.1, v0.2.2.2.2.2.2.2.2.2.2.2.2.1, v0.2.2.2.2.2.2.2.2.2.2.2.2.2.1, s1, v0.2.2.2.2.2.2.2.2.2.2.2.2.2.2.2.1, v0.2.2.2.2.2.2.2.2.2.2.2.2.2.2.2.2.1, v0.2.2.2.2.2.2.2.2.2.2.2.2.2.2.2.2.2.1, v0.2.2.2.2.2.2.2.2.2.2.2.2.2.2.2.2.2.2.1, v0.2.2.2.2.2.2.2.2.2.2.2.2.2.2.2.2.2.2.2.1, v0.2.2.2.2.2.2.2.2.2.2.2.2.2.2.2.2.2.2.2.2.1, v0.2.2.2.2.2.2.2.2.2.2.2.2.2.2.2.2.2.2.2.2.2.1, v0.2.2.2.2.2.2.2.2.2.2.2.2.2.2.2.2.2.2.2.2.2.2)) H := hP
  have hD : va_D A (wd_Model_round cC cI a0_0 a0_1 a0_2 a0_3 a0_4 a0_5 a0_6 a0_7 (v0.1, v0.2.1, v0.2.2.1, v0.2.2.2.1, v0.2.2.2.2.1, v0.2.2.2.2.2.1, v0.2.2.2.2.2.2.1, v0.2.2.2.2.2.2.2.1, v0.2.2.2.2.2.2.2.2.1, v0.2.2.2.2.2.2.2.2.2.1, v0.2.2.2.2.2.2.2.2.2.2.1, v0.2.2.2.2.2.2.2.2.2.2.2.1, v0.2.2.2.2.2.2.2.2.2.2.2.2.1, v0.2.2.2.2.2.2.2.2.2.2.2.2.2.1, s1, v0.2.2.2.2.2.2.2.2.2.2.2.2.2.2.2.1, v0.2.2.2.2.2.2.2.2.2.2.2.2.2.2.2.2.1, v0.2.2.2.2.2.2.2.2.2.2.2.2.2.2.2.2.2.1, v0.2.2.2.2.2.2.2.2.2.2.2.2.2.2.2.2.2.2.1, v0.2.2.2.2.2.2.2.2.2.2.2.2.2.2.2.2.2.2.2.1, v0.2.2.2.2.2.2.2.2.2.2.2.2.2.2.2.2.2.2.2.2.1, v0.2.2.2.2.2.2.2.2.2.2.2.2.2.2.2.2.2.2.2.2.2.1, v0.2.2.2.2.2.2.2.2.2.2.2.2.2.2.2.2.2.2.2.2.2.2)) := hD
  refine lv_iload hx hb d_Model_round_102 (lv_at hl 3 rfl) ?_
  refine lv_if_ne (tgt := 109) hx hb d_Model_round_104 rfl (fun hc => ?_) (fun hc => ?_)
  · have h := (if_neg hc).symm.trans h
    refine lv_aload_n hx hb d_Model_round_109 rfl (lv_at hl 0 rfl) ?_
    refine va_get (D := D) (ci := 11) (v := .int s1) (C := R_Model) (T := F_Model) (N := 23) hx hb htB in_Model hown hK hP 0 rfl rfl 14 (by decide) (htB _ b_382) (fun _ h9 => h9) rfl d_Model_round_110 ?_
    refine lv_iconst (v := 1) hx hb d_Model_round_113 (by decide) ?_
    refine lv_isub hx hb d_Model_round_114 ?_
    refine lv_istore (lv' := [(7, .int (s1 - (1 : Int32))), (0, .ref a0_0), (1, .int x1), (3, .int x3), (6, .int x6)]) hx hb d_Model_round_115 hl (by decide) rfl (fun ls hl => ?_)
    exact w_Model_round_117 X FU (v0.1, v0.2.1, v0.2.2.1, v0.2.2.2.1, v0.2.2.2.2.1, v0.2.2.2.2.2.1, v0.2.2.2.2.2.2.1, v0.2.2.2.2.2.2.2.1, v0.2.2.2.2.2.2.2.2.1, v0.2.2.2.2.2.2.2.2.2.1, v0.2.2.2.2.2.2.2.2.2.2.1, v0.2.2.2.2.2.2.2.2.2.2.2.1, v0.2.2.2.2.2.2.2.2.2.2.2.2.1, v0.2.2.2.2.2.2.2.2.2.2.2.2.2.1, s1, v0.2.2.2.2.2.2.2.2.2.2.2.2.2.2.2.1, v0.2.2.2.2.2.2.2.2.2.2.2.2.2.2.2.2.1, v0.2.2.2.2.2.2.2.2.2.2.2.2.2.2.2.2.2.1, v0.2.2.2.2.2.2.2.2.2.2.2.2.2.2.2.2.2.2.1, v0.2.2.2.2.2.2.2.2.2.2.2.2.2.2.2.2.2.2.2.1, v0.2.2.2.2.2.2.2.2.2.2.2.2.2.2.2.2.2.2.2.2.1, v0.2.2.2.2.2.2.2.2.2.2.2.2.2.2.2.2.2.2.2.2.2.1, v0.2.2.2.2.2.2.2.2.2.2.2.2.2.2.2.2.2.2.2.2.2.2) x1 x3 (s1 - (1 : Int32)) ls H locs h (lv_sub hl [1, 2, 3, 0] rfl) hP hD hS
  have h := (if_pos hc).symm.trans h
  refine lv_iconst (v := 1) hx hb d_Model_round_107 (by decide) ?_
  obtain rfl := Option.some.inj h
  exact W.zret (v := (1 : Int32)) (ty := .boolean) hx hb hr rfl (fun t ht hW => ⟨⟨(1 : Int32), (), rfl, rfl, by rw [ht]; exact hP, hD⟩, hS.F ht⟩) hS.2.2 d_Model_round_108 hlocks

def f_Model_round_87 (v0 : T_Model) (x1 : Int32) (x3 : Int32) (s0 : Int32) : Option O_Model_round := (if 0 ≤ x3 then f_Model_round_99 v0 x1 x3 s0 x3 else f_Model_round_99 v0 x1 x3 s0 (0 : Int32))
set_option maxHeartbeats 4000000 in
set_option maxRecDepth 100000 in
theorem w_Model_round_87 {p : Program} {l : Launch} {e : Env} {s : State} {m : MethodId} {args : Array Value} {below : List Frame} {meth : Method} {c : Code} {A : Nat → Prop} {D : va_G} {cC cI : ClassId} {a0_0 a0_1 a0_2 a0_3 a0_4 a0_5 a0_6 a0_7 : Nat} (X : xCX p s m args meth c A D cC cI b_Model_round 9 R_Model (some .boolean)) {out : O_Model_round}   : J_Model_round_87 p l e s m args below meth c A D cC cI a0_0 a0_1 a0_2 a0_3 a0_4 a0_5 a0_6 a0_7 out (f_Model_round_87  ) := by
  obtain ⟨hx, hb, hml, hown, htB, ⟨hK, hN⟩, hZ, hA, hr, hlocks⟩ := id X
  intro v0 x1 x3 s0 ls H locs h hl hP hD hS
  refine lv_istore (lv' := [(6, .int s0), (0, .ref a0_0), (1, .int x1), (3, .int x3)]) hx hb d_Model_round_87 hl (by decide) rfl (fun ls hl => ?_)
  refine lv_aload_n hx hb d_Model_round_89 rfl (lv_at hl 1 rfl) ?_
  refine lv_iload_n hx hb d_Model_round_90 rfl (lv_at hl 3 rfl) ?_
  refine lv_if_ge (tgt := 98) hx hb d_Model_round_91 rfl (fun hc => ?_) (fun hc => ?_)
  · have h := (if_pos hc).symm.trans h
    refine lv_iload_n hx hb d_Model_round_98 rfl (lv_at hl 3 rfl) ?_
    exact w_Model_round_99 X v0 x1 x3 s0 x3 ls H locs h (lv_sub hl [1, 2, 3, 0] rfl) hP hD hS
  have h := (if_neg hc).symm.trans h
  refine lv_iconst (v := 0) hx hb d_Model_round_94 (by decide) ?_
  refine lv_goto (tgt := 99) hx hb d_Model_round_95 rfl ?_
  exact w_Model_round_99 X v0 x1 x3 s0 (0 : Int32) ls H locs h (lv_sub hl [1, 2, 3, 0] rfl) hP hD hS

def f_Model_round_86 (v0 : T_Model) (x1 : Int32) (x3 : Int32) : Option O_Model_round := f_Model_round_87 v0 x1 x3 (0 : Int32)
set_option maxHeartbeats 4000000 in
set_option maxRecDepth 100000 in
theorem w_Model_round_86 {p : Program} {l : Launch} {e : Env} {s : State} {m : MethodId} {args : Array Value} {below : List Frame} {meth : Method} {c : Code} {A : Nat → Prop} {D : va_G} {cC cI : ClassId} {a0_0 a0_1 a0_2 a0_3 a0_4 a0_5 a0_6 a0_7 : Nat} (X : xCX p s m args meth c A D cC cI b_Model_round 9 R_Model (some .boolean)) {out : O_Model_round}   : J_Model_round_86 p l e s m args below meth c A D cC cI a0_0 a0_1 a0_2 a0_3 a0_4 a0_5 a0_6 a0_7 out (f_Model_round_86  ) := by
  obtain ⟨hx, hb, hml, hown, htB, ⟨hK, hN⟩, hZ, hA, hr, hlocks⟩ := id X
  intro v0 x1 x3 ls H locs h hl hP hD hS
  refine lv_iconst (v := 0) hx hb d_Model_round_86 (by decide) ?_
  exact w_Model_round_87 X v0 x1 x3 (0 : Int32) ls H locs h (lv_sub hl [0, 1, 2] rfl) hP hD hS

def f_Model_round_63 (v0 : T_Model) (x1 : Int32) (x2 : Int32) (x3 : Int32) (x4 : Int32) (s0 : Int32) : Option O_Model_round := (if x4 ≤ 0 then f_Model_round_86 v0 x1 x3 else (f_Model_away v0 x4 x2 s0).bind (fun o76 => (if o76 = 0 then f_Model_round_86 v0 x1 x3 else f_Model_round_87 v0 x1 x3 (1 : Int32))))
set_option maxHeartbeats 4000000 in
set_option maxRecDepth 100000 in
theorem w_Model_round_63 {p : Program} {l : Launch} {e : Env} {s : State} {m : MethodId} {args : Array Value} {below : List Frame} {meth : Method} {c : Code} {A : Nat → Prop} {D : va_G} {cC cI : ClassId} {a0_0 a0_1 a0_2 a0_3 a0_4 a0_5 a0_6 a0_7 : Nat} (X : xCX p s m args meth c A D cC cI b_Model_round 9 R_Model (some .boolean)) {out : O_Model_round}   : J_Model_round_63 p l e s m args below meth c A D cC cI a0_0 a0_1 a0_2 a0_3 a0_4 a0_5 a0_6 a0_7 out (f_Model_round_63  ) := by
  obtain ⟨hx, hb, hml, hown, htB, ⟨hK, hN⟩, hZ, hA, hr, hlocks⟩ := id X
  intro v0 x1 x2 x3 x4 s0 ls H locs h hl hP hD hS
  refine lv_istore (lv' := [(5, .int s0), (0, .ref a0_0), (1, .int x1), (2, .int x2), (3, .int x3), (4, .int x4)]) hx hb d_Model_round_63 hl (by decide) rfl (fun ls hl => ?_)
  refine lv_iload hx hb d_Model_round_65 (lv_at hl 5 rfl) ?_
  refine lv_if_le (tgt := 86) hx hb d_Model_round_67 rfl (fun hc => ?_) (fun hc => ?_)
  · have h := (if_pos hc).symm.trans h
    exact w_Model_round_86 X v0 x1 x3 ls H locs h (lv_sub hl [1, 2, 4] rfl) hP hD hS
  have h := (if_neg hc).symm.trans h
  refine lv_aload_n hx hb d_Model_round_70 rfl (lv_at hl 1 rfl) ?_
  refine lv_iload hx hb d_Model_round_71 (lv_at hl 5 rfl) ?_
  refine lv_iload_n hx hb d_Model_round_73 rfl (lv_at hl 3 rfl) ?_
  refine lv_iload hx hb d_Model_round_74 (lv_at hl 0 rfl) ?_
  obtain ⟨o76, ho76, h⟩ := x_bnd h
  refine x_calli (r0 := o76) (ws2 := (wd_Model_round cC cI a0_0 a0_1 a0_2 a0_3 a0_4 a0_5 a0_6 a0_7 v0)) (x_runV (As := [.int x4, .int x2, .int s0]) (rest := []) X (c_Model_away l D cC cI H.size a0_0 a0_1 a0_2 a0_3 a0_4 a0_5 a0_6 a0_7 v0 x4 x2 s0 o76 ho76) b_391 3 (htB _ b_394) (htB _ b_392) (htB _ b_393) (htB _ b_319) ⟨by decide, by decide, by decide +kernel⟩ ⟨(Nat.le_of_ble_eq_true rfl), (Nat.le_of_ble_eq_true rfl)⟩ 0 rfl rfl hP hD hS [0, 1, 2, 3, 4, 5, 6, 7] rfl (by decide) rfl rfl hl.1 rfl rfl (Nat.le_of_ble_eq_true rfl) d_Model_round_76) hP hD hS hA [0, 1, 2, 3, 4, 5, 6, 7] [] [0, 1, 2, 3, 4, 5, 6, 7] rfl rfl (by decide) (by decide) rfl (by decide) (fun H locs hP hD hS => ?_)
  refine lv_if_eq (tgt := 86) hx hb d_Model_round_79 rfl (fun hc => ?_) (fun hc => ?_)
  · have h := (if_pos hc).symm.trans h
    exact w_Model_round_86 X v0 x1 x3 ls H locs h (lv_sub hl [1, 2, 4] rfl) hP hD hS
  have h := (if_neg hc).symm.trans h
  refine lv_iconst (v := 1) hx hb d_Model_round_82 (by decide) ?_
  refine lv_goto (tgt := 87) hx hb d_Model_round_83 rfl ?_
  exact w_Model_round_87 X v0 x1 x3 (1 : Int32) ls H locs h (lv_sub hl [1, 2, 4] rfl) hP hD hS

def f_Model_round_62 (v0 : T_Model) (x1 : Int32) (x2 : Int32) (x3 : Int32) (x4 : Int32) : Option O_Model_round := f_Model_round_63 v0 x1 x2 x3 x4 (0 : Int32)
set_option maxHeartbeats 4000000 in
set_option maxRecDepth 100000 in
theorem w_Model_round_62 {p : Program} {l : Launch} {e : Env} {s : State} {m : MethodId} {args : Array Value} {below : List Frame} {meth : Method} {c : Code} {A : Nat → Prop} {D : va_G} {cC cI : ClassId} {a0_0 a0_1 a0_2 a0_3 a0_4 a0_5 a0_6 a0_7 : Nat} (X : xCX p s m args meth c A D cC cI b_Model_round 9 R_Model (some .boolean)) {out : O_Model_round}   : J_Model_round_62 p l e s m args below meth c A D cC cI a0_0 a0_1 a0_2 a0_3 a0_4 a0_5 a0_6 a0_7 out (f_Model_round_62  ) := by
  obtain ⟨hx, hb, hml, hown, htB, ⟨hK, hN⟩, hZ, hA, hr, hlocks⟩ := id X
  intro v0 x1 x2 x3 x4 ls H locs h hl hP hD hS
  refine lv_iconst (v := 0) hx hb d_Model_round_62 (by decide) ?_
  exact w_Model_round_63 X v0 x1 x2 x3 x4 (0 : Int32) ls H locs h (lv_sub hl [0, 1, 2, 3, 4] rfl) hP hD hS

def f_Model_round_40 (v0 : T_Model) (x1 : Int32) (x2 : Int32) (x3 : Int32) (x4 : Int32) : Option O_Model_round := (if x3 ≤ 0 then f_Model_round_62 v0 x1 x2 x3 x4 else if ix (x3 - (1 : Int32)) 40 then (if ((v0.2.2.2.2.2.2.2.2.2.2.2.2.2.1 (x3 - (1 : Int32)).toNatClampNeg) - (v0.2.2.2.2.2.2.2.2.2.2.2.2.2.1 (x3 - (1 : Int32)).toNatClampNeg) / (2 : Int32) * (2 : Int32)) = (1 : Int32) then f_Model_round_63 v0 x1 x2 x3 x4 (1 : Int32) else f_Model_round_62 v0 x1 x2 x3 x4) else none)
set_option maxHeartbeats 4000000 in
set_option maxRecDepth 100000 in
theorem w_Model_round_40 {p : Program} {l : Launch} {e : Env} {s : State} {m : MethodId} {args : Array Value} {below : List Frame} {meth : Method} {c : Code} {A : Nat → Prop} {D : va_G} {cC cI : ClassId} {a0_0 a0_1 a0_2 a0_3 a0_4 a0_5 a0_6 a0_7 : Nat} (X : xCX p s m args meth c A D cC cI b_Model_round 9 R_Model (some .boolean)) {out : O_Model_round}   : J_Model_round_40 p l e s m args below meth c A D cC cI a0_0 a0_1 a0_2 a0_3 a0_4 a0_5 a0_6 a0_7 out (f_Model_round_40  ) := by
  obtain ⟨hx, hb, hml, hown, htB, ⟨hK, hN⟩, hZ, hA, hr, hlocks⟩ := id X
  intro v0 x1 x2 x3 x4 ls H locs h hl hP hD hS
  refine lv_iload_n hx hb d_Model_round_40 rfl (lv_at hl 3 rfl) ?_
  refine lv_if_le (tgt := 62) hx hb d_Model_round_41 rfl (fun hc => ?_) (fun hc => ?_)
  · have h := (if_pos hc).symm.trans h
    exact w_Model_round_62 X v0 x1 x2 x3 x4 ls H locs h (lv_sub hl [0, 1, 2, 3, 4] rfl) hP hD hS
  have h := (if_neg hc).symm.trans h
  refine lv_aload_n hx hb d_Model_round_44 rfl (lv_at hl 0 rfl) ?_
  refine va_get (D := D) (ci := 11) (v := .ref a0_6) (C := R_Model) (T := F_Model) (N := 23) hx hb htB in_Model hown hK hP 0 rfl rfl 13 (by decide) (htB _ b_385) (fun _ h9 => h9) rfl d_Model_round_45 ?_
  refine lv_iload_n hx hb d_Model_round_48 rfl (lv_at hl 3 rfl) ?_
  refine lv_iconst (v := 1) hx hb d_Model_round_49 (by decide) ?_
  refine lv_isub hx hb d_Model_round_50 ?_
  obtain ⟨hc, h⟩ := x_chk h
  refine va_iald hx hb hK hP 6 1 rfl rfl hc d_Model_round_51 ?_
  refine lv_iconst (v := 2) hx hb d_Model_round_52 (by decide) ?_
  refine lv_irem hx hb d_Model_round_53 (by decide) ?_
  refine lv_iconst (v := 1) hx hb d_Model_round_54 (by decide) ?_
  refine lv_icmp_ne (tgt := 62) hx hb d_Model_round_55 rfl (fun hc => ?_) (fun hc => ?_)
  · have h := (if_neg hc).symm.trans h
    exact w_Model_round_62 X v0 x1 x2 x3 x4 ls H locs h (lv_sub hl [0, 1, 2, 3, 4] rfl) hP hD hS
  have h := (if_pos hc).symm.trans h
  refine lv_iconst (v := 1) hx hb d_Model_round_58 (by decide) ?_
  refine lv_goto (tgt := 63) hx hb d_Model_round_59 rfl ?_
  exact w_Model_round_63 X v0 x1 x2 x3 x4 (1 : Int32) ls H locs h (lv_sub hl [0, 1, 2, 3, 4] rfl) hP hD hS

def f_Model_round (v0 : T_Model) (v1 : Int32) (v2 : Int32) : Option O_Model_round := (if (v0.2.2.2.2.2.2.2.2.2.2.2.2.2.2.2.1 + v1) < v0.2.2.2.2.2.2.2.2.2.2.2.2.2.2.1 then (f_Model_rest v0 (v0.2.2.2.2.2.2.2.2.2.2.2.2.2.2.2.1 + v1)).bind (fun o19 => (if o19 ≤ 0 then f_Model_round_40 v0 v1 v2 (v0.2.2.2.2.2.2.2.2.2.2.2.2.2.2.2.1 + v1) o19 else (if v0.2.2.2.2.1 = (7 : Int32) then some ((0 : Int32), v0) else f_Model_round_40 v0 v1 v2 (v0.2.2.2.2.2.2.2.2.2.2.2.2.2.2.2.1 + v1) o19))) else some ((1 : Int32), v0))
set_option maxHeartbeats 4000000 in
set_option maxRecDepth 100000 in
theorem w_Model_round {p : Program} {l : Launch} {e : Env} {s : State} {m : MethodId} {args : Array Value} {below : List Frame} {meth : Method} {c : Code} {A : Nat → Prop} {D : va_G} {cC cI : ClassId} {a0_0 a0_1 a0_2 a0_3 a0_4 a0_5 a0_6 a0_7 : Nat} (X : xCX p s m args meth c A D cC cI b_Model_round 9 R_Model (some .boolean)) {out : O_Model_round} (v0 : T_Model) (v1 : Int32) (v2 : Int32) {ls : Array Slot} {H : Heap} {locs : List Loc} (h : f_Model_round v0 v1 v2 = some out) (hl : lv_has ls 9 [(0, .ref a0_0), (1, .int v1), (2, .int v2)]) (hP : va_P D classes (wd_Model_round cC cI a0_0 a0_1 a0_2 a0_3 a0_4 a0_5 a0_6 a0_7 v0) H) (hD : va_D A (wd_Model_round cC cI a0_0 a0_1 a0_2 a0_3 a0_4 a0_5 a0_6 a0_7 v0)) (hS : va_S A s.heap H locs) : W p l e rm_Model_round s m args below meth c H locs 0 0 (MQ below (q_Model_round D cC cI a0_0 a0_1 a0_2 a0_3 a0_4 a0_5 a0_6 a0_7 out A) args s 0 0 A) (F0 m 0 ls []) := by
  obtain ⟨hx, hb, hml, hown, htB, ⟨hK, hN⟩, hZ, hA, hr, hlocks⟩ := id X
  refine lv_aload_n hx hb d_Model_round_0 rfl (lv_at hl 0 rfl) ?_
  refine va_get (D := D) (ci := 11) (v := .int v0.2.2.2.2.2.2.2.2.2.2.2.2.2.2.2.1) (C := R_Model) (T := F_Model) (N := 23) hx hb htB in_Model hown hK hP 0 rfl rfl 15 (by decide) (htB _ b_386) (fun _ h9 => h9) rfl d_Model_round_1 ?_
  refine lv_iload_n hx hb d_Model_round_4 rfl (lv_at hl 1 rfl) ?_
  refine lv_iadd hx hb d_Model_round_5 ?_
  refine lv_istore_n (lv' := [(3, .int (v0.2.2.2.2.2.2.2.2.2.2.2.2.2.2.2.1 + v1)), (0, .ref a0_0), (1, .int v1), (2, .int v2)]) hx hb d_Model_round_6 rfl hl (by decide) rfl (fun ls hl => ?_)
  refine lv_iload_n hx hb d_Model_round_7 rfl (lv_at hl 0 rfl) ?_
  refine lv_aload_n hx hb d_Model_round_8 rfl (lv_at hl 1 rfl) ?_
  refine va_get (D := D) (ci := 11) (v := .int v0.2.2.2.2.2.2.2.2.2.2.2.2.2.2.1) (C := R_Model) (T := F_Model) (N := 23) hx hb htB in_Model hown hK hP 0 rfl rfl 14 (by decide) (htB _ b_382) (fun _ h9 => h9) rfl d_Model_round_9 ?_
  refine lv_icmp_lt (tgt := 17) hx hb d_Model_round_12 rfl (fun hc => ?_) (fun hc => ?_)
  · have h := (if_pos hc).symm.trans h
    refine lv_aload_n hx hb d_Model_round_17 rfl (lv_at hl 1 rfl) ?_
    refine lv_iload_n hx hb d_Model_round_18 rfl (lv_at hl 0 rfl) ?_
    obtain ⟨o19, ho19, h⟩ := x_bnd h
    refine x_calli (r0 := o19) (ws2 := (wd_Model_round cC cI a0_0 a0_1 a0_2 a0_3 a0_4 a0_5 a0_6 a0_7 v0)) (x_runV (As := [.int (v0.2.2.2.2.2.2.2.2.2.2.2.2.2.2.2.1 + v1)]) (rest := []) X (c_Model_rest l D cC cI H.size a0_0 a0_1 a0_2 a0_3 a0_4 a0_5 a0_6 a0_7 v0 (v0.2.2.2.2.2.2.2.2.2.2.2.2.2.2.2.1 + v1) o19 ho19) b_387 1 (htB _ b_390) (htB _ b_388) (htB _ b_389) (htB _ b_319) ⟨by decide, by decide, by decide +kernel⟩ ⟨(Nat.le_of_ble_eq_true rfl), (Nat.le_of_ble_eq_true rfl)⟩ 0 rfl rfl hP hD hS [0, 1, 2, 3, 4, 5, 6, 7] rfl (by decide) rfl rfl hl.1 rfl rfl (Nat.le_of_ble_eq_true rfl) d_Model_round_19) hP hD hS hA [0, 1, 2, 3, 4, 5, 6, 7] [] [0, 1, 2, 3, 4, 5, 6, 7] rfl rfl (by decide) (by decide) rfl (by decide) (fun H locs hP hD hS => ?_)
    refine lv_istore (lv' := [(4, .int o19), (3, .int (v0.2.2.2.2.2.2.2.2.2.2.2.2.2.2.2.1 + v1)), (0, .ref a0_0), (1, .int v1), (2, .int v2)]) hx hb d_Model_round_22 hl (by decide) rfl (fun ls hl => ?_)
    refine lv_iload hx hb d_Model_round_24 (lv_at hl 0 rfl) ?_
    refine lv_if_le (tgt := 40) hx hb d_Model_round_26 rfl (fun hc => ?_) (fun hc => ?_)
    · have h := (if_pos hc).symm.trans h
      exact w_Model_round_40 X v0 v1 v2 (v0.2.2.2.2.2.2.2.2.2.2.2.2.2.2.2.1 + v1) o19 ls H locs h (lv_sub hl [2, 3, 4, 1, 0] rfl) hP hD hS
    have h := (if_neg hc).symm.trans h
    refine lv_aload_n hx hb d_Model_round_29 rfl (lv_at hl 2 rfl) ?_
    refine va_get (D := D) (ci := 11) (v := .int v0.2.2.2.2.1) (C := R_Model) (T := F_Model) (N := 23) hx hb htB in_Model hown hK hP 0 rfl rfl 4 (by decide) (htB _ b_365) (fun _ h9 => h9) rfl d_Model_round_30 ?_
    refine lv_bipush (v := 7) hx hb d_Model_round_33 (by decide) ?_
    refine lv_icmp_ne (tgt := 40) hx hb d_Model_round_35 rfl (fun hc => ?_) (fun hc => ?_)
    · have h := (if_neg hc).symm.trans h
      exact w_Model_round_40 X v0 v1 v2 (v0.2.2.2.2.2.2.2.2.2.2.2.2.2.2.2.1 + v1) o19 ls H locs h (lv_sub hl [2, 3, 4, 1, 0] rfl) hP hD hS
    have h := (if_pos hc).symm.trans h
    refine lv_iconst (v := 0) hx hb d_Model_round_38 (by decide) ?_
    obtain rfl := Option.some.inj h
    exact W.zret (v := (0 : Int32)) (ty := .boolean) hx hb hr rfl (fun t ht hW => ⟨⟨(0 : Int32), (), rfl, rfl, by rw [ht]; exact hP, hD⟩, hS.F ht⟩) hS.2.2 d_Model_round_39 hlocks
  have h := (if_neg hc).symm.trans h
  refine lv_iconst (v := 1) hx hb d_Model_round_15 (by decide) ?_
  obtain rfl := Option.some.inj h
  exact W.zret (v := (1 : Int32)) (ty := .boolean) hx hb hr rfl (fun t ht hW => ⟨⟨(1 : Int32), (), rfl, rfl, by rw [ht]; exact hP, hD⟩, hS.F ht⟩) hS.2.2 d_Model_round_16 hlocks

set_option maxHeartbeats 4000000 in
set_option maxRecDepth 100000 in
theorem c_Model_round (l : Launch) (D : va_G) (cC cI : ClassId) (sz : Nat) (a0_0 a0_1 a0_2 a0_3 a0_4 a0_5 a0_6 a0_7 : Nat) (v0 : T_Model) (v1 : Int32) (v2 : Int32) (out : O_Model_round) (h : f_Model_round v0 v1 v2 = some out) : Met l y_Model_round (.code y_Model_round b_Model_round 9 (some .boolean) :: BIG) rm_Model_round (va_Pc [.ref a0_0, .int v1, .int v2] (xPre D cC cI (wd_Model_round cC cI a0_0 a0_1 a0_2 a0_3 a0_4 a0_5 a0_6 a0_7 v0) sz)) (q_Model_round D cC cI a0_0 a0_1 a0_2 a0_3 a0_4 a0_5 a0_6 a0_7 out (va_A (wd_Model_round cC cI a0_0 a0_1 a0_2 a0_3 a0_4 a0_5 a0_6 a0_7 v0) sz)) 0 0 (va_A (wd_Model_round cC cI a0_0 a0_1 a0_2 a0_3 a0_4 a0_5 a0_6 a0_7 v0) sz) := by
  refine Met.ofW (cc := b_Model_round) (maxL := 9) (ret := (some .boolean)) (by decide) rfl ?_
  intro p e s m args below meth c s₁ B hml hv
  obtain ⟨rfl, rfl, hP, hD0, hG, hZ⟩ := hv
  have hl := lv_entry [.ref a0_0, .int v1, .int v2] (n := 9) (Nat.le_of_ble_eq_true rfl)
  rw [lg_entry_eq]
  exact w_Model_round (x_cx B hml hG hZ) v0 v1 v2 h hl hP hD0.self va_S.rf

abbrev wd_Model_placed (cC cI : ClassId) (a0_0 a0_1 a0_2 a0_3 a0_4 a0_5 a0_6 a0_7 : Nat) (v0 : T_Model) : va_W := [(a0_0, .inr (11, [.ref a0_1, .int v0.2.1, .ref a0_2, .int v0.2.2.2.1, .int v0.2.2.2.2.1, .int v0.2.2.2.2.2.1, .ref a0_3, .ref a0_4, .ref a0_5, .int v0.2.2.2.2.2.2.2.2.2.1, .int v0.2.2.2.2.2.2.2.2.2.2.1, .int v0.2.2.2.2.2.2.2.2.2.2.2.1, .int v0.2.2.2.2.2.2.2.2.2.2.2.2.1, .ref a0_6, .int v0.2.2.2.2.2.2.2.2.2.2.2.2.2.2.1, .int v0.2.2.2.2.2.2.2.2.2.2.2.2.2.2.2.1, .int v0.2.2.2.2.2.2.2.2.2.2.2.2.2.2.2.2.1, .ref a0_7, .long v0.2.2.2.2.2.2.2.2.2.2.2.2.2.2.2.2.2.2.1, .int v0.2.2.2.2.2.2.2.2.2.2.2.2.2.2.2.2.2.2.2.1, .long v0.2.2.2.2.2.2.2.2.2.2.2.2.2.2.2.2.2.2.2.2.1, .int v0.2.2.2.2.2.2.2.2.2.2.2.2.2.2.2.2.2.2.2.2.2.1, .int v0.2.2.2.2.2.2.2.2.2.2.2.2.2.2.2.2.2.2.2.2.2.2])), (a0_1, .inl (cC, 120, .inl v0.1)), (a0_2, .inl (cC, 200, .inl v0.2.2.1)), (a0_3, .inl (cI, 160, .inl v0.2.2.2.2.2.2.1)), (a0_4, .inl (cI, 4, .inl v0.2.2.2.2.2.2.2.1)), (a0_5, .inl (cI, 7, .inl v0.2.2.2.2.2.2.2.2.1)), (a0_6, .inl (cI, 40, .inl v0.2.2.2.2.2.2.2.2.2.2.2.2.2.1)), (a0_7, .inl (cI, 6, .inl v0.2.2.2.2.2.2.2.2.2.2.2.2.2.2.2.2.2.1))]
abbrev O_Model_placed : Type := Int32
abbrev q_Model_placed (D : va_G) (cC cI : ClassId) (a0_0 a0_1 a0_2 a0_3 a0_4 a0_5 a0_6 a0_7 : Nat) (v0 : T_Model) (out : O_Model_placed) (A : Nat → Prop) : Array Value → State → Outcome → State → Prop := va_Qi (fun r (_ : Unit) => r = out) (fun _ t => va_P D classes (wd_Model_placed cC cI a0_0 a0_1 a0_2 a0_3 a0_4 a0_5 a0_6 a0_7 v0) t.heap ∧ va_D A (wd_Model_placed cC cI a0_0 a0_1 a0_2 a0_3 a0_4 a0_5 a0_6 a0_7 v0)) A
abbrev rm_Model_placed : Room := { frames := 0, cells := 0, slots := 0, locals := 0 }
def J_Model_placed_19 (p : Program) (l : Launch) (e : Env) (s : State) (m : MethodId) (args : Array Value) (below : List Frame) (meth : Method) (c : Code) (A : Nat → Prop) (D : va_G) (cC cI : ClassId) (a0_0 a0_1 a0_2 a0_3 a0_4 a0_5 a0_6 a0_7 : Nat) (v0 : T_Model) (out : O_Model_placed) (k : Option O_Model_placed) : Prop := ∀  (ls : Array Slot) (H : Heap) (locs : List Loc), k  = some out → lv_has ls 3 [] → va_P D classes (wd_Model_placed cC cI a0_0 a0_1 a0_2 a0_3 a0_4 a0_5 a0_6 a0_7 v0) H → va_D A (wd_Model_placed cC cI a0_0 a0_1 a0_2 a0_3 a0_4 a0_5 a0_6 a0_7 v0) → va_S A s.heap H locs → W p l e rm_Model_placed s m args below meth c H locs 0 0 (MQ below (q_Model_placed D cC cI a0_0 a0_1 a0_2 a0_3 a0_4 a0_5 a0_6 a0_7 v0 out A) args s 0 0 A) (F0 m 19 ls [])
def J_Model_placed_29 (p : Program) (l : Launch) (e : Env) (s : State) (m : MethodId) (args : Array Value) (below : List Frame) (meth : Method) (c : Code) (A : Nat → Prop) (D : va_G) (cC cI : ClassId) (a0_0 a0_1 a0_2 a0_3 a0_4 a0_5 a0_6 a0_7 : Nat) (v0 : T_Model) (out : O_Model_placed) (k : Int32 → Option O_Model_placed) : Prop := ∀ (s0 : Int32) (ls : Array Slot) (H : Heap) (locs : List Loc), k s0 = some out → lv_has ls 3 [] → va_P D classes (wd_Model_placed cC cI a0_0 a0_1 a0_2 a0_3 a0_4 a0_5 a0_6 a0_7 v0) H → va_D A (wd_Model_placed cC cI a0_0 a0_1 a0_2 a0_3 a0_4 a0_5 a0_6 a0_7 v0) → va_S A s.heap H locs → W p l e rm_Model_placed s m args below meth c H locs 0 0 (MQ below (q_Model_placed D cC cI a0_0 a0_1 a0_2 a0_3 a0_4 a0_5 a0_6 a0_7 v0 out A) args s 0 0 A) (F0 m 29 ls [.int s0])
def f_Model_placed_29 (v0 : T_Model) (s0 : Int32) : Option O_Model_placed := some s0
set_option maxHeartbeats 4000000 in
set_option maxRecDepth 100000 in
theorem w_Model_placed_29 {p : Program} {l : Launch} {e : Env} {s : State} {m : MethodId} {args : Array Value} {below : List Frame} {meth : Method} {c : Code} {A : Nat → Prop} {D : va_G} {cC cI : ClassId} {a0_0 a0_1 a0_2 a0_3 a0_4 a0_5 a0_6 a0_7 : Nat} {v0 : T_Model} (X : xCX p s m args meth c A D cC cI b_Model_placed 3 R_Model (some .int)) {out : O_Model_placed}   : J_Model_placed_29 p l e s m args below meth c A D cC cI a0_0 a0_1 a0_2 a0_3 a0_4 a0_5 a0_6 a0_7 v0 out (f_Model_placed_29 v0 ) := by
  obtain ⟨hx, hb, hml, hown, htB, ⟨hK, hN⟩, hZ, hA, hr, hlocks⟩ := id X
  intro s0 ls H locs h hl hP hD hS
  obtain rfl := Option.some.inj h
  exact W.iret (v := s0) hx hb hr (fun t ht hW => ⟨⟨s0, (), rfl, rfl, by rw [ht]; exact hP, hD⟩, hS.F ht⟩) hS.2.2 d_Model_placed_29 hlocks

def f_Model_placed_19 (v0 : T_Model) : Option O_Model_placed := f_Model_placed_29 v0 (0 : Int32)
set_option maxHeartbeats 4000000 in
set_option maxRecDepth 100000 in
theorem w_Model_placed_19 {p : Program} {l : Launch} {e : Env} {s : State} {m : MethodId} {args : Array Value} {below : List Frame} {meth : Method} {c : Code} {A : Nat → Prop} {D : va_G} {cC cI : ClassId} {a0_0 a0_1 a0_2 a0_3 a0_4 a0_5 a0_6 a0_7 : Nat} {v0 : T_Model} (X : xCX p s m args meth c A D cC cI b_Model_placed 3 R_Model (some .int)) {out : O_Model_placed}   : J_Model_placed_19 p l e s m args below meth c A D cC cI a0_0 a0_1 a0_2 a0_3 a0_4 a0_5 a0_6 a0_7 v0 out (f_Model_placed_19 v0 ) := by
  obtain ⟨hx, hb, hml, hown, htB, ⟨hK, hN⟩, hZ, hA, hr, hlocks⟩ := id X
  intro  ls H locs h hl hP hD hS
  refine lv_iconst (v := 0) hx hb d_Model_placed_19 (by decide) ?_
  refine lv_goto (tgt := 29) hx hb d_Model_placed_20 rfl ?_
  exact w_Model_placed_29 X (0 : Int32) ls H locs h (lv_sub hl [] rfl) hP hD hS

def f_Model_placed (v0 : T_Model) (v1 : Int32) : Option O_Model_placed := (if (v0.2.2.2.2.2.2.2.2.2.2.2.2.2.2.2.1 + v1) < 0 then f_Model_placed_19 v0 else (if (v0.2.2.2.2.2.2.2.2.2.2.2.2.2.2.2.1 + v1) < v0.2.2.2.2.2.2.2.2.2.2.2.2.2.2.1 then if ix (v0.2.2.2.2.2.2.2.2.2.2.2.2.2.2.2.1 + v1) 40 then f_Model_placed_29 v0 (v0.2.2.2.2.2.2.2.2.2.2.2.2.2.1 (v0.2.2.2.2.2.2.2.2.2.2.2.2.2.2.2.1 + v1).toNatClampNeg) else none else f_Model_placed_19 v0))
set_option maxHeartbeats 4000000 in
set_option maxRecDepth 100000 in
theorem w_Model_placed {p : Program} {l : Launch} {e : Env} {s : State} {m : MethodId} {args : Array Value} {below : List Frame} {meth : Method} {c : Code} {A : Nat → Prop} {D : va_G} {cC cI : ClassId} {a0_0 a0_1 a0_2 a0_3 a0_4 a0_5 a0_6 a0_7 : Nat} {v0 : T_Model} (X : xCX p s m args meth c A D cC cI b_Model_placed 3 R_Model (some .int)) {out : O_Model_placed} (v1 : Int32) {ls : Array Slot} {H : Heap} {locs : List Loc} (h : f_Model_placed v0 v1 = some out) (hl : lv_has ls 3 [(0, .ref a0_0), (1, .int v1)]) (hP : va_P D classes (wd_Model_placed cC cI a0_0 a0_1 a0_2 a0_3 a0_4 a0_5 a0_6 a0_7 v0) H) (hD : va_D A (wd_Model_placed cC cI a0_0 a0_1 a0_2 a0_3 a0_4 a0_5 a0_6 a0_7 v0)) (hS : va_S A s.heap H locs) : W p l e rm_Model_placed s m args below meth c H locs 0 0 (MQ below (q_Model_placed D cC cI a0_0 a0_1 a0_2 a0_3 a0_4 a0_5 a0_6 a0_7 v0 out A) args s 0 0 A) (F0 m 0 ls []) := by
  obtain ⟨hx, hb, hml, hown, htB, ⟨hK, hN⟩, hZ, hA, hr, hlocks⟩ := id X
  refine lv_aload_n hx hb d_Model_placed_0 rfl (lv_at hl 0 rfl) ?_
  refine va_get (D := D) (ci := 11) (v := .int v0.2.2.2.2.2.2.2.2.2.2.2.2.2.2.2.1) (C := R_Model) (T := F_Model) (N := 23) hx hb htB in_Model hown hK hP 0 rfl rfl 15 (by decide) (htB _ b_386) (fun _ h9 => h9) rfl d_Model_placed_1 ?_
  refine lv_iload_n hx hb d_Model_placed_4 rfl (lv_at hl 1 rfl) ?_
  refine lv_iadd hx hb d_Model_placed_5 ?_
  refine lv_istore_n (lv' := [(2, .int (v0.2.2.2.2.2.2.2.2.2.2.2.2.2.2.2.1 + v1)), (0, .ref a0_0), (1, .int v1)]) hx hb d_Model_placed_6 rfl hl (by decide) rfl (fun ls hl => ?_)
  refine lv_iload_n hx hb d_Model_placed_7 rfl (lv_at hl 0 rfl) ?_
  refine lv_if_lt (tgt := 19) hx hb d_Model_placed_8 rfl (fun hc => ?_) (fun hc => ?_)
  · have h := (if_pos hc).symm.trans h
    exact w_Model_placed_19 X ls H locs h (lv_sub hl [] rfl) hP hD hS
  have h := (if_neg hc).symm.trans h
  refine lv_iload_n hx hb d_Model_placed_11 rfl (lv_at hl 0 rfl) ?_
  refine lv_aload_n hx hb d_Model_placed_12 rfl (lv_at hl 1 rfl) ?_
  refine va_get (D := D) (ci := 11) (v := .int v0.2.2.2.2.2.2.2.2.2.2.2.2.2.2.1) (C := R_Model) (T := F_Model) (N := 23) hx hb htB in_Model hown hK hP 0 rfl rfl 14 (by decide) (htB _ b_382) (fun _ h9 => h9) rfl d_Model_placed_13 ?_
  refine lv_icmp_lt (tgt := 23) hx hb d_Model_placed_16 rfl (fun hc => ?_) (fun hc => ?_)
  · have h := (if_pos hc).symm.trans h
    refine lv_aload_n hx hb d_Model_placed_23 rfl (lv_at hl 1 rfl) ?_
    refine va_get (D := D) (ci := 11) (v := .ref a0_6) (C := R_Model) (T := F_Model) (N := 23) hx hb htB in_Model hown hK hP 0 rfl rfl 13 (by decide) (htB _ b_385) (fun _ h9 => h9) rfl d_Model_placed_24 ?_
    refine lv_iload_n hx hb d_Model_placed_27 rfl (lv_at hl 0 rfl) ?_
    obtain ⟨hc, h⟩ := x_chk h
    refine va_iald hx hb hK hP 6 1 rfl rfl hc d_Model_placed_28 ?_
    exact w_Model_placed_29 X (v0.2.2.2.2.2.2.2.2.2.2.2.2.2.1 (v0.2.2.2.2.2.2.2.2.2.2.2.2.2.2.2.1 + v1).toNatClampNeg) ls H locs h (lv_sub hl [] rfl) hP hD hS
  have h := (if_neg hc).symm.trans h
  exact w_Model_placed_19 X ls H locs h (lv_sub hl [] rfl) hP hD hS

set_option maxHeartbeats 4000000 in
set_option maxRecDepth 100000 in
theorem c_Model_placed (l : Launch) (D : va_G) (cC cI : ClassId) (sz : Nat) (a0_0 a0_1 a0_2 a0_3 a0_4 a0_5 a0_6 a0_7 : Nat) (v0 : T_Model) (v1 : Int32) (out : O_Model_placed) (h : f_Model_placed v0 v1 = some out) : Met l y_Model_placed (.code y_Model_placed b_Model_placed 3 (some .int) :: BIG) rm_Model_placed (va_Pc [.ref a0_0, .int v1] (xPre D cC cI (wd_Model_placed cC cI a0_0 a0_1 a0_2 a0_3 a0_4 a0_5 a0_6 a0_7 v0) sz)) (q_Model_placed D cC cI a0_0 a0_1 a0_2 a0_3 a0_4 a0_5 a0_6 a0_7 v0 out (va_A (wd_Model_placed cC cI a0_0 a0_1 a0_2 a0_3 a0_4 a0_5 a0_6 a0_7 v0) sz)) 0 0 (va_A (wd_Model_placed cC cI a0_0 a0_1 a0_2 a0_3 a0_4 a0_5 a0_6 a0_7 v0) sz) := by
  refine Met.ofW (cc := b_Model_placed) (maxL := 3) (ret := (some .int)) (by decide) rfl ?_
  intro p e s m args below meth c s₁ B hml hv
  obtain ⟨rfl, rfl, hP, hD0, hG, hZ⟩ := hv
  have hl := lv_entry [.ref a0_0, .int v1] (n := 3) (Nat.le_of_ble_eq_true rfl)
  rw [lg_entry_eq]
  exact w_Model_placed (x_cx B hml hG hZ) v1 h hl hP hD0.self va_S.rf

abbrev wd_Model_writeWhole (cC cI : ClassId) (a0_0 a0_1 a0_2 a0_3 a0_4 a0_5 a0_6 a0_7 : Nat) (v0 : T_Model) : va_W := [(a0_0, .inr (11, [.ref a0_1, .int v0.2.1, .ref a0_2, .int v0.2.2.2.1, .int v0.2.2.2.2.1, .int v0.2.2.2.2.2.1, .ref a0_3, .ref a0_4, .ref a0_5, .int v0.2.2.2.2.2.2.2.2.2.1, .int v0.2.2.2.2.2.2.2.2.2.2.1, .int v0.2.2.2.2.2.2.2.2.2.2.2.1, .int v0.2.2.2.2.2.2.2.2.2.2.2.2.1, .ref a0_6, .int v0.2.2.2.2.2.2.2.2.2.2.2.2.2.2.1, .int v0.2.2.2.2.2.2.2.2.2.2.2.2.2.2.2.1, .int v0.2.2.2.2.2.2.2.2.2.2.2.2.2.2.2.2.1, .ref a0_7, .long v0.2.2.2.2.2.2.2.2.2.2.2.2.2.2.2.2.2.2.1, .int v0.2.2.2.2.2.2.2.2.2.2.2.2.2.2.2.2.2.2.2.1, .long v0.2.2.2.2.2.2.2.2.2.2.2.2.2.2.2.2.2.2.2.2.1, .int v0.2.2.2.2.2.2.2.2.2.2.2.2.2.2.2.2.2.2.2.2.2.1, .int v0.2.2.2.2.2.2.2.2.2.2.2.2.2.2.2.2.2.2.2.2.2.2])), (a0_1, .inl (cC, 120, .inl v0.1)), (a0_2, .inl (cC, 200, .inl v0.2.2.1)), (a0_3, .inl (cI, 160, .inl v0.2.2.2.2.2.2.1)), (a0_4, .inl (cI, 4, .inl v0.2.2.2.2.2.2.2.1)), (a0_5, .inl (cI, 7, .inl v0.2.2.2.2.2.2.2.2.1)), (a0_6, .inl (cI, 40, .inl v0.2.2.2.2.2.2.2.2.2.2.2.2.2.1)), (a0_7, .inl (cI, 6, .inl v0.2.2.2.2.2.2.2.2.2.2.2.2.2.2.2.2.2.1))]
abbrev O_Model_writeWhole : Type := T_Model
abbrev q_Model_writeWhole (D : va_G) (cC cI : ClassId) (a0_0 a0_1 a0_2 a0_3 a0_4 a0_5 a0_6 a0_7 : Nat)  (out : O_Model_writeWhole) (A : Nat → Prop) : Array Value → State → Outcome → State → Prop := va_Qv (fun _ : Unit => True) (fun _ t => va_P D classes (wd_Model_writeWhole cC cI a0_0 a0_1 a0_2 a0_3 a0_4 a0_5 a0_6 a0_7 out) t.heap ∧ va_D A (wd_Model_writeWhole cC cI a0_0 a0_1 a0_2 a0_3 a0_4 a0_5 a0_6 a0_7 out)) A
abbrev rm_Model_writeWhole : Room := { frames := 1, cells := 0, slots := 0, locals := 22 }
def J_Model_writeWhole_21 (p : Program) (l : Launch) (e : Env) (s : State) (m : MethodId) (args : Array Value) (below : List Frame) (meth : Method) (c : Code) (A : Nat → Prop) (D : va_G) (cC cI : ClassId) (a0_0 a0_1 a0_2 a0_3 a0_4 a0_5 a0_6 a0_7 : Nat) (out : O_Model_writeWhole) (k : T_Model → Int32 → Option O_Model_writeWhole) : Prop := ∀ (v0 : T_Model) (x1 : Int32) (ls : Array Slot) (H : Heap) (locs : List Loc), k v0 x1 = some out → lv_has ls 6 [(0, .ref a0_0), (1, .int x1)] → va_P D classes (wd_Model_writeWhole cC cI a0_0 a0_1 a0_2 a0_3 a0_4 a0_5 a0_6 a0_7 v0) H → va_D A (wd_Model_writeWhole cC cI a0_0 a0_1 a0_2 a0_3 a0_4 a0_5 a0_6 a0_7 v0) → va_S A s.heap H locs → W p l e rm_Model_writeWhole s m args below meth c H locs 0 0 (MQ below (q_Model_writeWhole D cC cI a0_0 a0_1 a0_2 a0_3 a0_4 a0_5 a0_6 a0_7 out A) args s 0 0 A) (F0 m 21 ls [])
def J_Model_writeWhole_22 (p : Program) (l : Launch) (e : Env) (s : State) (m : MethodId) (args : Array Value) (below : List Frame) (meth : Method) (c : Code) (A : Nat → Prop) (D : va_G) (cC cI : ClassId) (a0_0 a0_1 a0_2 a0_3 a0_4 a0_5 a0_6 a0_7 : Nat) (out : O_Model_writeWhole) (k : T_Model → Int32 → Int32 → Option O_Model_writeWhole) : Prop := ∀ (v0 : T_Model) (x1 : Int32) (s0 : Int32) (ls : Array Slot) (H : Heap) (locs : List Loc), k v0 x1 s0 = some out → lv_has ls 6 [(0, .ref a0_0), (1, .int x1)] → va_P D classes (wd_Model_writeWhole cC cI a0_0 a0_1 a0_2 a0_3 a0_4 a0_5 a0_6 a0_7 v0) H → va_D A (wd_Model_writeWhole cC cI a0_0 a0_1 a0_2 a0_3 a0_4 a0_5 a0_6 a0_7 v0) → va_S A s.heap H locs → W p l e rm_Model_writeWhole s m args below meth c H locs 0 0 (MQ below (q_Model_writeWhole D cC cI a0_0 a0_1 a0_2 a0_3 a0_4 a0_5 a0_6 a0_7 out A) args s 0 0 A) (F0 m 22 ls [.int s0])
def J_Model_writeWhole_43 (p : Program) (l : Launch) (e : Env) (s : State) (m : MethodId) (args : Array Value) (below : List Frame) (meth : Method) (c : Code) (A : Nat → Prop) (D : va_G) (cC cI : ClassId) (a0_0 a0_1 a0_2 a0_3 a0_4 a0_5 a0_6 a0_7 : Nat) (out : O_Model_writeWhole) (k : T_Model → Int32 → Int32 → Option O_Model_writeWhole) : Prop := ∀ (v0 : T_Model) (x1 : Int32) (s0 : Int32) (ls : Array Slot) (H : Heap) (locs : List Loc), k v0 x1 s0 = some out → lv_has ls 6 [(0, .ref a0_0), (1, .int x1)] → va_P D classes (wd_Model_writeWhole cC cI a0_0 a0_1 a0_2 a0_3 a0_4 a0_5 a0_6 a0_7 v0) H → va_D A (wd_Model_writeWhole cC cI a0_0 a0_1 a0_2 a0_3 a0_4 a0_5 a0_6 a0_7 v0) → va_S A s.heap H locs → W p l e rm_Model_writeWhole s m args below meth c H locs 0 0 (MQ below (q_Model_writeWhole D cC cI a0_0 a0_1 a0_2 a0_3 a0_4 a0_5 a0_6 a0_7 out A) args s 0 0 A) (F0 m 43 ls [.int s0])
def J_Model_writeWhole_56 (p : Program) (l : Launch) (e : Env) (s : State) (m : MethodId) (args : Array Value) (below : List Frame) (meth : Method) (c : Code) (A : Nat → Prop) (D : va_G) (cC cI : ClassId) (a0_0 a0_1 a0_2 a0_3 a0_4 a0_5 a0_6 a0_7 : Nat) (out : O_Model_writeWhole) (k : T_Model → Int32 → Option O_Model_writeWhole) : Prop := ∀ (v0 : T_Model) (x3 : Int32) (ls : Array Slot) (H : Heap) (locs : List Loc), k v0 x3 = some out → lv_has ls 6 [(0, .ref a0_0), (3, .int x3)] → va_P D classes (wd_Model_writeWhole cC cI a0_0 a0_1 a0_2 a0_3 a0_4 a0_5 a0_6 a0_7 v0) H → va_D A (wd_Model_writeWhole cC cI a0_0 a0_1 a0_2 a0_3 a0_4 a0_5 a0_6 a0_7 v0) → va_S A s.heap H locs → W p l e rm_Model_writeWhole s m args below meth c H locs 0 0 (MQ below (q_Model_writeWhole D cC cI a0_0 a0_1 a0_2 a0_3 a0_4 a0_5 a0_6 a0_7 out A) args s 0 0 A) (F0 m 56 ls [])
def J_Model_writeWhole_57 (p : Program) (l : Launch) (e : Env) (s : State) (m : MethodId) (args : Array Value) (below : List Frame) (meth : Method) (c : Code) (A : Nat → Prop) (D : va_G) (cC cI : ClassId) (a0_0 a0_1 a0_2 a0_3 a0_4 a0_5 a0_6 a0_7 : Nat) (out : O_Model_writeWhole) (k : T_Model → Int32 → Option O_Model_writeWhole) : Prop := ∀ (v0 : T_Model) (s0 : Int32) (ls : Array Slot) (H : Heap) (locs : List Loc), k v0 s0 = some out → lv_has ls 6 [(0, .ref a0_0)] → va_P D classes (wd_Model_writeWhole cC cI a0_0 a0_1 a0_2 a0_3 a0_4 a0_5 a0_6 a0_7 v0) H → va_D A (wd_Model_writeWhole cC cI a0_0 a0_1 a0_2 a0_3 a0_4 a0_5 a0_6 a0_7 v0) → va_S A s.heap H locs → W p l e rm_Model_writeWhole s m args below meth c H locs 0 0 (MQ below (q_Model_writeWhole D cC cI a0_0 a0_1 a0_2 a0_3 a0_4 a0_5 a0_6 a0_7 out A) args s 0 0 A) (F0 m 57 ls [.int s0])
def J_Model_writeWhole_71 (p : Program) (l : Launch) (e : Env) (s : State) (m : MethodId) (args : Array Value) (below : List Frame) (meth : Method) (c : Code) (A : Nat → Prop) (D : va_G) (cC cI : ClassId) (a0_0 a0_1 a0_2 a0_3 a0_4 a0_5 a0_6 a0_7 : Nat) (out : O_Model_writeWhole) (k : T_Model → Int32 → Int32 → Option O_Model_writeWhole) : Prop := ∀ (v0 : T_Model) (x3 : Int32) (x4 : Int32) (ls : Array Slot) (H : Heap) (locs : List Loc), k v0 x3 x4 = some out → lv_has ls 6 [(0, .ref a0_0), (3, .int x3), (4, .int x4)] → va_P D classes (wd_Model_writeWhole cC cI a0_0 a0_1 a0_2 a0_3 a0_4 a0_5 a0_6 a0_7 v0) H → va_D A (wd_Model_writeWhole cC cI a0_0 a0_1 a0_2 a0_3 a0_4 a0_5 a0_6 a0_7 v0) → va_S A s.heap H locs → W p l e rm_Model_writeWhole s m args below meth c H locs 0 0 (MQ below (q_Model_writeWhole D cC cI a0_0 a0_1 a0_2 a0_3 a0_4 a0_5 a0_6 a0_7 out A) args s 0 0 A) (F0 m 71 ls [])
def J_Model_writeWhole_109 (p : Program) (l : Launch) (e : Env) (s : State) (m : MethodId) (args : Array Value) (below : List Frame) (meth : Method) (c : Code) (A : Nat → Prop) (D : va_G) (cC cI : ClassId) (a0_0 a0_1 a0_2 a0_3 a0_4 a0_5 a0_6 a0_7 : Nat) (out : O_Model_writeWhole) (k : T_Model → Int32 → Int32 → Option O_Model_writeWhole) : Prop := ∀ (v0 : T_Model) (x3 : Int32) (x4 : Int32) (ls : Array Slot) (H : Heap) (locs : List Loc), k v0 x3 x4 = some out → lv_has ls 6 [(0, .ref a0_0), (3, .int x3), (4, .int x4)] → va_P D classes (wd_Model_writeWhole cC cI a0_0 a0_1 a0_2 a0_3 a0_4 a0_5 a0_6 a0_7 v0) H → va_D A (wd_Model_writeWhole cC cI a0_0 a0_1 a0_2 a0_3 a0_4 a0_5 a0_6 a0_7 v0) → va_S A s.heap H locs → W p l e rm_Model_writeWhole s m args below meth c H locs 0 0 (MQ below (q_Model_writeWhole D cC cI a0_0 a0_1 a0_2 a0_3 a0_4 a0_5 a0_6 a0_7 out A) args s 0 0 A) (F0 m 109 ls [])
def J_Model_writeWhole_127 (p : Program) (l : Launch) (e : Env) (s : State) (m : MethodId) (args : Array Value) (below : List Frame) (meth : Method) (c : Code) (A : Nat → Prop) (D : va_G) (cC cI : ClassId) (a0_0 a0_1 a0_2 a0_3 a0_4 a0_5 a0_6 a0_7 : Nat) (out : O_Model_writeWhole) (k : T_Model → Int32 → Int32 → Int32 → Option O_Model_writeWhole) : Prop := ∀ (v0 : T_Model) (x3 : Int32) (x4 : Int32) (s0 : Int32) (ls : Array Slot) (H : Heap) (locs : List Loc), k v0 x3 x4 s0 = some out → lv_has ls 6 [(0, .ref a0_0), (3, .int x3), (4, .int x4)] → va_P D classes (wd_Model_writeWhole cC cI a0_0 a0_1 a0_2 a0_3 a0_4 a0_5 a0_6 a0_7 v0) H → va_D A (wd_Model_writeWhole cC cI a0_0 a0_1 a0_2 a0_3 a0_4 a0_5 a0_6 a0_7 v0) → va_S A s.heap H locs → W p l e rm_Model_writeWhole s m args below meth c H locs 0 0 (MQ below (q_Model_writeWhole D cC cI a0_0 a0_1 a0_2 a0_3 a0_4 a0_5 a0_6 a0_7 out A) args s 0 0 A) (F0 m 127 ls [.int s0])
def f_Model_writeWhole_127 (k71 : T_Model → Int32 → Int32 → Option O_Model_writeWhole) (v0 : T_Model) (x3 : Int32) (x4 : Int32) (s0 : Int32) : Option O_Model_writeWhole := (f_Model_write v0 ((48 : Int32) + s0)).bind (fun o135 => k71 o135 x3 (x4 + (-1 : Int32)))
set_option maxHeartbeats 4000000 in
set_option maxRecDepth 100000 in
theorem w_Model_writeWhole_127 {p : Program} {l : Launch} {e : Env} {s : State} {m : MethodId} {args : Array Value} {below : List Frame} {meth : Method} {c : Code} {A : Nat → Prop} {D : va_G} {cC cI : ClassId} {a0_0 a0_1 a0_2 a0_3 a0_4 a0_5 a0_6 a0_7 : Nat} (X : xCX p s m args meth c A D cC cI b_Model_writeWhole 6 R_Model none) {out : O_Model_writeWhole} {k71 : T_Model → Int32 → Int32 → Option O_Model_writeWhole} (hk71 : J_Model_writeWhole_71 p l e s m args below meth c A D cC cI a0_0 a0_1 a0_2 a0_3 a0_4 a0_5 a0_6 a0_7 out k71) : J_Model_writeWhole_127 p l e s m args below meth c A D cC cI a0_0 a0_1 a0_2 a0_3 a0_4 a0_5 a0_6 a0_7 out (f_Model_writeWhole_127  k71) := by
  obtain ⟨hx, hb, hml, hown, htB, ⟨hK, hN⟩, hZ, hA, hr, hlocks⟩ := id X
  intro v0 x3 x4 s0 ls H locs h hl hP hD hS
  refine lv_istore (lv' := [(5, .int s0), (0, .ref a0_0), (3, .int x3), (4, .int x4)]) hx hb d_Model_writeWhole_127 hl (by decide) rfl (fun ls hl => ?_)
  refine lv_aload_n hx hb d_Model_writeWhole_129 rfl (lv_at hl 1 rfl) ?_
  refine lv_bipush (v := 48) hx hb d_Model_writeWhole_130 (by decide) ?_
  refine lv_iload hx hb d_Model_writeWhole_132 (lv_at hl 0 rfl) ?_
  refine lv_iadd hx hb d_Model_writeWhole_134 ?_
  obtain ⟨o135, ho135, h⟩ := x_bnd h
  refine x_callv (ws2 := (wd_Model_writeWhole cC cI a0_0 a0_1 a0_2 a0_3 a0_4 a0_5 a0_6 a0_7 o135)) (x_runV (As := [.int ((48 : Int32) + s0)]) (rest := []) X (c_Model_write l D cC cI H.size a0_0 a0_1 a0_2 a0_3 a0_4 a0_5 a0_6 a0_7 v0 ((48 : Int32) + s0) o135 ho135) b_378 1 (htB _ b_381) (htB _ b_379) (htB _ b_380) (htB _ b_319) ⟨by decide, by decide, by decide +kernel⟩ ⟨(Nat.le_of_ble_eq_true rfl), (Nat.le_of_ble_eq_true rfl)⟩ 0 rfl rfl hP hD hS [0, 1, 2, 3, 4, 5, 6, 7] rfl (by decide) rfl rfl hl.1 rfl rfl (Nat.le_of_ble_eq_true rfl) d_Model_writeWhole_135) hP hD hS hA [0, 1, 2, 3, 4, 5, 6, 7] [] [0, 1, 2, 3, 4, 5, 6, 7] rfl rfl (by decide) (by decide) rfl (by decide) (fun H locs hP hD hS => ?_)
  refine lv_iinc (k := 3) (v := (x4 + (-1 : Int32))) (lv' := [(4, .int (x4 + (-1 : Int32))), (5, .int s0), (0, .ref a0_0), (3, .int x3)]) hx hb d_Model_writeWhole_138 hl rfl (congrArg (fun z => x4 + z) (by decide : Int32.ofInt (-1) = (-1 : Int32))) (by decide) rfl (fun ls hl => ?_)
  refine lv_goto (tgt := 71) hx hb d_Model_writeWhole_141 rfl ?_
  exact hk71 o135 x3 (x4 + (-1 : Int32)) ls H locs h (lv_sub hl [2, 3, 0] rfl) hP hD hS

def f_Model_writeWhole_109 (k71 : T_Model → Int32 → Int32 → Option O_Model_writeWhole) (v0 : T_Model) (x3 : Int32) (x4 : Int32) : Option O_Model_writeWhole := (if v0.2.2.2.2.2.2.2.2.2.2.2.2.2.2.1 ≤ 0 then f_Model_writeWhole_127 k71 v0 x3 x4 (0 : Int32) else (f_Model_placed v0 (-x4)).bind (fun o120 => f_Model_writeWhole_127 k71 v0 x3 x4 o120))
set_option maxHeartbeats 4000000 in
set_option maxRecDepth 100000 in
theorem w_Model_writeWhole_109 {p : Program} {l : Launch} {e : Env} {s : State} {m : MethodId} {args : Array Value} {below : List Frame} {meth : Method} {c : Code} {A : Nat → Prop} {D : va_G} {cC cI : ClassId} {a0_0 a0_1 a0_2 a0_3 a0_4 a0_5 a0_6 a0_7 : Nat} (X : xCX p s m args meth c A D cC cI b_Model_writeWhole 6 R_Model none) {out : O_Model_writeWhole} {k71 : T_Model → Int32 → Int32 → Option O_Model_writeWhole} (hk71 : J_Model_writeWhole_71 p l e s m args below meth c A D cC cI a0_0 a0_1 a0_2 a0_3 a0_4 a0_5 a0_6 a0_7 out k71) : J_Model_writeWhole_109 p l e s m args below meth c A D cC cI a0_0 a0_1 a0_2 a0_3 a0_4 a0_5 a0_6 a0_7 out (f_Model_writeWhole_109  k71) := by
  obtain ⟨hx, hb, hml, hown, htB, ⟨hK, hN⟩, hZ, hA, hr, hlocks⟩ := id X
  intro v0 x3 x4 ls H locs h hl hP hD hS
  refine lv_aload_n hx hb d_Model_writeWhole_109 rfl (lv_at hl 0 rfl) ?_
  refine va_get (D := D) (ci := 11) (v := .int v0.2.2.2.2.2.2.2.2.2.2.2.2.2.2.1) (C := R_Model) (T := F_Model) (N := 23) hx hb htB in_Model hown hK hP 0 rfl rfl 14 (by decide) (htB _ b_382) (fun _ h9 => h9) rfl d_Model_writeWhole_110 ?_
  refine lv_if_le (tgt := 126) hx hb d_Model_writeWhole_113 rfl (fun hc => ?_) (fun hc => ?_)
  · have h := (if_pos hc).symm.trans h
    refine lv_iconst (v := 0) hx hb d_Model_writeWhole_126 (by decide) ?_
    exact w_Model_writeWhole_127 X hk71 v0 x3 x4 (0 : Int32) ls H locs h (lv_sub hl [0, 1, 2] rfl) hP hD hS
  have h := (if_neg hc).symm.trans h
  refine lv_aload_n hx hb d_Model_writeWhole_116 rfl (lv_at hl 0 rfl) ?_
  refine lv_iload hx hb d_Model_writeWhole_117 (lv_at hl 2 rfl) ?_
  refine lv_ineg hx hb d_Model_writeWhole_119 ?_
  obtain ⟨o120, ho120, h⟩ := x_bnd h
  refine x_calli (r0 := o120) (ws2 := (wd_Model_writeWhole cC cI a0_0 a0_1 a0_2 a0_3 a0_4 a0_5 a0_6 a0_7 v0)) (x_runV (As := [.int (-x4)]) (rest := []) X (c_Model_placed l D cC cI H.size a0_0 a0_1 a0_2 a0_3 a0_4 a0_5 a0_6 a0_7 v0 (-x4) o120 ho120) b_396 1 (htB _ b_399) (htB _ b_397) (htB _ b_398) (htB _ b_319) ⟨by decide, by decide, by decide +kernel⟩ ⟨(Nat.le_of_ble_eq_true rfl), (Nat.le_of_ble_eq_true rfl)⟩ 0 rfl rfl hP hD hS [0, 1, 2, 3, 4, 5, 6, 7] rfl (by decide) rfl rfl hl.1 rfl rfl (Nat.le_of_ble_eq_true rfl) d_Model_writeWhole_120) hP hD hS hA [0, 1, 2, 3, 4, 5, 6, 7] [] [0, 1, 2, 3, 4, 5, 6, 7] rfl rfl (by decide) (by decide) rfl (by decide) (fun H locs hP hD hS => ?_)
  refine lv_goto (tgt := 127) hx hb d_Model_writeWhole_123 rfl ?_
  exact w_Model_writeWhole_127 X hk71 v0 x3 x4 o120 ls H locs h (lv_sub hl [0, 1, 2] rfl) hP hD hS

def f_Model_writeWhole_71   : Nat → T_Model → Int32 → Int32 → Option O_Model_writeWhole
  | 0, _, _, _ => none
  | n + 1, v0, x3, x4 => (if x4 ≤ 0 then some (v0.1, v0.2.1, v0.2.2.1, v0.2.2.2.1, v0.2.2.2.2.1, v0.2.2.2.2.2.1, v0.2.2.2.2.2.2.1, v0.2.2.2.2.2.2.2.1, v0.2.2.2.2.2.2.2.2.1, v0.2.2.2.2.2.2.2.2.2.1, v0.2.2.2.2.2.2.2.2.2.2.1, v0.2.2.2.2.2.2.2.2.2.2.2.1, v0.2.2.2.2.2.2.2.2.2.2.2.2.1, v0.2.2.2.2.2.2.2.2.2.2.2.2.2.1, v0.2.2.2.2.2.2.2.2.2.2.2.2.2.2.1, v0.2.2.2.2.2.2.2.2.2.2.2.2.2.2.2.1, v0.2.2.2.2.2.2.2.2.2.2.2.2.2.2.2.2.1, (upd v0.2.2.2.2.2.2.2.2.2.2.2.2.2.2.2.2.2.1 (1 : Int32).toNatClampNeg v0.2.2.2.1), v0.2.2.2.2.2.2.2.2.2.2.2.2.2.2.2.2.2.2.1, v0.2.2.2.2.2.2.2.2.2.2.2.2.2.2.2.2.2.2.2.1, v0.2.2.2.2.2.2.2.2.2.2.2.2.2.2.2.2.2.2.2.2.1, v0.2.2.2.2.2.2.2.2.2.2.2.2.2.2.2.2.2.2.2.2.2.1, v0.2.2.2.2.2.2.2.2.2.2.2.2.2.2.2.2.2.2.2.2.2.2) else (if (v0.2.2.2.2.2.2.2.2.1 (3 : Int32).toNatClampNeg) ≤ 0 then f_Model_writeWhole_109 (f_Model_writeWhole_71  n) v0 x3 x4 else (if x3 ≤ x4 then f_Model_writeWhole_109 (f_Model_writeWhole_71  n) v0 x3 x4 else if ¬ (v0.2.2.2.2.2.2.2.2.1 (3 : Int32).toNatClampNeg) = 0 then (if (x4 - x4 / (v0.2.2.2.2.2.2.2.2.1 (3 : Int32).toNatClampNeg) * (v0.2.2.2.2.2.2.2.2.1 (3 : Int32).toNatClampNeg)) = 0 then (f_Model_write v0 (44 : Int32)).bind (fun o106 => f_Model_writeWhole_109 (f_Model_writeWhole_71  n) o106 x3 x4) else f_Model_writeWhole_109 (f_Model_writeWhole_71  n) v0 x3 x4) else none)))
set_option maxHeartbeats 4000000 in
set_option maxRecDepth 100000 in
theorem w_Model_writeWhole_71 {p : Program} {l : Launch} {e : Env} {s : State} {m : MethodId} {args : Array Value} {below : List Frame} {meth : Method} {c : Code} {A : Nat → Prop} {D : va_G} {cC cI : ClassId} {a0_0 a0_1 a0_2 a0_3 a0_4 a0_5 a0_6 a0_7 : Nat} (X : xCX p s m args meth c A D cC cI b_Model_writeWhole 6 R_Model none) {out : O_Model_writeWhole}   : ∀ n : Nat, J_Model_writeWhole_71 p l e s m args below meth c A D cC cI a0_0 a0_1 a0_2 a0_3 a0_4 a0_5 a0_6 a0_7 out (f_Model_writeWhole_71   n) := by
  obtain ⟨hx, hb, hml, hown, htB, ⟨hK, hN⟩, hZ, hA, hr, hlocks⟩ := id X
  intro n
  induction n with
  | zero =>
    intro v0 x3 x4 ls H locs h hl hP hD hS
    cases h
  | succ n ih =>
    intro v0 x3 x4 ls H locs h hl hP hD hS
    refine lv_iload hx hb d_Model_writeWhole_71 (lv_at hl 2 rfl) ?_
    refine lv_if_le (tgt := 144) hx hb d_Model_writeWhole_73 rfl (fun hc => ?_) (fun hc => ?_)
    · have h := (if_pos hc).symm.trans h
      refine lv_aload_n hx hb d_Model_writeWhole_144 rfl (lv_at hl 0 rfl) ?_
      refine va_get (D := D) (ci := 11) (v := .ref a0_7) (C := R_Model) (T := F_Model) (N := 23) hx hb htB in_Model hown hK hP 0 rfl rfl 17 (by decide) (htB _ b_395) (fun _ h9 => h9) rfl d_Model_writeWhole_145 ?_
      refine lv_iconst (v := 1) hx hb d_Model_writeWhole_148 (by decide) ?_
      refine lv_aload_n hx hb d_Model_writeWhole_149 rfl (lv_at hl 0 rfl) ?_
      refine va_get (D := D) (ci := 11) (v := .int v0.2.2.2.1) (C := R_Model) (T := F_Model) (N := 23) hx hb htB in_Model hown hK hP 0 rfl rfl 3 (by decide) (htB _ b_311) (fun _ h9 => h9) rfl d_Model_writeWhole_150 ?_
      refine va_iast hx hb hK hP hD hS 7 1 rfl rfl (show ¬ (((1 : Int32) : Int32) < 0 ∨ 6 ≤ ((1 : Int32) : Int32).toNatClampNeg) by decide) d_Model_writeWhole_153 (fun H locs hP hD hS => ?_)
      have hP : va_P D classes (wd_Model_writeWhole cC cI a0_0 a0_1 a0_2 a0_3 a0_4 a0_5 a0_6 a0_7 (v0.1, v0.2.1, v0.2.2.1, v0.2.2.2.1, v0.2.2.2.2.1, v0.2.2.2.2.2.1, v0.2.2.2.2.2.2.1, v0.2.2.2.2.2.2.2.1, v0.2.2.2.2.2.2.2.2.1, v0.2.2.2.2.2.2.2.2.2.1, v0.2.2.2.2.2.2.2.2.2.2.1, v0.2.2.2.2.2.2.2.2.2.2.2.1, v0.2.2.2.2.2.2.2.2.2.2.2.2.1, v0.2.2.2.2.2.2.2.2.2.2.2.2.2.1, v0.2.2.2.2.2.2.2.2.2.2.2.2.2.2.1, v0.2.2.2.2.2.2.2.2.2.2.2.2.2.2.2.1, v0.2.2.2.2.2.2.2.2.2.2.2.2.2.2.2.2.1, (upd v0.2.2.2.2.2.2.2.2.2.2.2.2.2.2.2.2.2.1 (1 : Int32).toNatClampNeg v0.2.2.2.1), v0.2.2.2.2.2.2.2.2.2.2.2.2.2.2.2.2.2.2.1, v0.2.2.2.2.2.2.2.2.2.2.2.2.2.2.2.2.2.2.2.1, v0.2.2.2.2.2.2.2.2.2.2.2.2.2.2.2.2.2.2.2.2.1, v0.2.2.2.2.2.2.2.2.2.2.2.2.2.2.2.2.2.2.2.2.2.1, v0.2.2.2.2.2.2.2.2.2.2.2.2.2.2.2.2.2.2.2.2.2.2)) H := hP
      have hD : va_D A (wd_Model_writeWhole cC cI a0_0 a0_1 a0_2 a0_3 a0_4 a0_5 a0_6 a0_7 (v0.1, v0.2.1, v0.2.2.1, v0.2.2.2.1, v0.2.2.2.2.1, v0.2.2.2.2.2.1, v0.2.2.2.2.2.2.1, v0.2.2.2.2.2.2.2.1, v0.2.2.2.2.2.2.2.2.1, v0.2.2.2.2.2.2.2.2.2.1, v0.2.2.2.2.2.2.2.2.2.2.1, v0.2.2.2.2.2.2.2.2.2.2.2.1, v0.2.2.2.2.2.2.2.2.2.2.2.2.1, v0.2.2.2.2.2.2.2.2.2.2.2.2.2.1, v0.2.2.2.2.2.2.2.2.2.2.2.2.2.2.1, v0.2.2.2.2.2.2.2.2.2.2.2.2.2.2.2.1, v0.2.2.2.2.2.2.2.2.2.2.2.2.2.2.2.2.1, (upd v0.2.2.2.2.2.2.2.2.2.2.2.2.2.2.2.2.2.1 (1 : Int32).toNatClampNeg v0.2.2.2.1), v0.2.2.2.2.2.2.2.2.2.2.2.2.2.2.2.2.2.2.1, v0.2.2.2.2.2.2.2.2.2.2.2.2.2.2.2.2.2.2.2.1, v0.2.2.2.2.2.2.2.2.2.2.2.2.2.2.2.2.2.2.2.2.1, v0.2.2.2.2.2.2.2.2.2.2.2.2.2.2.2.2.2.2.2.2.2.1, v0.2.2.2.2.2.2.2.2.2.2.2.2.2.2.2.2.2.2.2.2.2.2)) := hD
      obtain rfl := Option.some.inj h
      exact W.vret hx hb hr (fun t ht hW => ⟨⟨(), rfl, trivial, by rw [ht]; exact hP, hD⟩, hS.F ht⟩) hS.2.2 d_Model_writeWhole_154 hlocks
    have h := (if_neg hc).symm.trans h
    refine lv_aload_n hx hb d_Model_writeWhole_76 rfl (lv_at hl 0 rfl) ?_
    refine va_get (D := D) (ci := 11) (v := .ref a0_5) (C := R_Model) (T := F_Model) (N := 23) hx hb htB in_Model hown hK hP 0 rfl rfl 8 (by decide) (htB _ b_330) (fun _ h9 => h9) rfl d_Model_writeWhole_77 ?_
    refine lv_iconst (v := 3) hx hb d_Model_writeWhole_80 (by decide) ?_
    refine va_iald hx hb hK hP 5 1 rfl rfl (show ¬ (((3 : Int32) : Int32) < 0 ∨ 7 ≤ ((3 : Int32) : Int32).toNatClampNeg) by decide) d_Model_writeWhole_81 ?_
    refine lv_if_le (tgt := 109) hx hb d_Model_writeWhole_82 rfl (fun hc => ?_) (fun hc => ?_)
    · have h := (if_pos hc).symm.trans h
      exact w_Model_writeWhole_109 X ih v0 x3 x4 ls H locs h (lv_sub hl [0, 1, 2] rfl) hP hD hS
    have h := (if_neg hc).symm.trans h
    refine lv_iload hx hb d_Model_writeWhole_85 (lv_at hl 2 rfl) ?_
    refine lv_iload_n hx hb d_Model_writeWhole_87 rfl (lv_at hl 1 rfl) ?_
    refine lv_icmp_ge (tgt := 109) hx hb d_Model_writeWhole_88 rfl (fun hc => ?_) (fun hc => ?_)
    · have h := (if_pos hc).symm.trans h
      exact w_Model_writeWhole_109 X ih v0 x3 x4 ls H locs h (lv_sub hl [0, 1, 2] rfl) hP hD hS
    have h := (if_neg hc).symm.trans h
    refine lv_iload hx hb d_Model_writeWhole_91 (lv_at hl 2 rfl) ?_
    refine lv_aload_n hx hb d_Model_writeWhole_93 rfl (lv_at hl 0 rfl) ?_
    refine va_get (D := D) (ci := 11) (v := .ref a0_5) (C := R_Model) (T := F_Model) (N := 23) hx hb htB in_Model hown hK hP 0 rfl rfl 8 (by decide) (htB _ b_330) (fun _ h9 => h9) rfl d_Model_writeWhole_94 ?_
    refine lv_iconst (v := 3) hx hb d_Model_writeWhole_97 (by decide) ?_
    refine va_iald hx hb hK hP 5 1 rfl rfl (show ¬ (((3 : Int32) : Int32) < 0 ∨ 7 ≤ ((3 : Int32) : Int32).toNatClampNeg) by decide) d_Model_writeWhole_98 ?_
    obtain ⟨hc, h⟩ := x_chk h
    refine lv_irem hx hb d_Model_writeWhole_99 hc ?_
    refine lv_if_ne (tgt := 109) hx hb d_Model_writeWhole_100 rfl (fun hc => ?_) (fun hc => ?_)
    · have h := (if_neg hc).symm.trans h
      exact w_Model_writeWhole_109 X ih v0 x3 x4 ls H locs h (lv_sub hl [0, 1, 2] rfl) hP hD hS
    have h := (if_pos hc).symm.trans h
    refine lv_aload_n hx hb d_Model_writeWhole_103 rfl (lv_at hl 0 rfl) ?_
    refine lv_bipush (v := 44) hx hb d_Model_writeWhole_104 (by decide) ?_
    obtain ⟨o106, ho106, h⟩ := x_bnd h
    refine x_callv (ws2 := (wd_Model_writeWhole cC cI a0_0 a0_1 a0_2 a0_3 a0_4 a0_5 a0_6 a0_7 o106)) (x_runV (As := [.int (44 : Int32)]) (rest := []) X (c_Model_write l D cC cI H.size a0_0 a0_1 a0_2 a0_3 a0_4 a0_5 a0_6 a0_7 v0 (44 : Int32) o106 ho106) b_378 1 (htB _ b_381) (htB _ b_379) (htB _ b_380) (htB _ b_319) ⟨by decide, by decide, by decide +kernel⟩ ⟨(Nat.le_of_ble_eq_true rfl), (Nat.le_of_ble_eq_true rfl)⟩ 0 rfl rfl hP hD hS [0, 1, 2, 3, 4, 5, 6, 7] rfl (by decide) rfl rfl hl.1 rfl rfl (Nat.le_of_ble_eq_true rfl) d_Model_writeWhole_106) hP hD hS hA [0, 1, 2, 3, 4, 5, 6, 7] [] [0, 1, 2, 3, 4, 5, 6, 7] rfl rfl (by decide) (by decide) rfl (by decide) (fun H locs hP hD hS => ?_)
    exact w_Model_writeWhole_109 X ih o106 x3 x4 ls H locs h (lv_sub hl [0, 1, 2] rfl) hP hD hS

def f_Model_writeWhole_57 (v0 : T_Model) (s0 : Int32) : Option O_Model_writeWhole := f_Model_writeWhole_71 FU (v0.1, v0.2.1, v0.2.2.1, v0.2.2.2.1, v0.2.2.2.2.1, v0.2.2.2.2.2.1, v0.2.2.2.2.2.2.1, v0.2.2.2.2.2.2.2.1, v0.2.2.2.2.2.2.2.2.1, v0.2.2.2.2.2.2.2.2.2.1, v0.2.2.2.2.2.2.2.2.2.2.1, v0.2.2.2.2.2.2.2.2.2.2.2.1, v0.2.2.2.2.2.2.2.2.2.2.2.2.1, v0.2.2.2.2.2.2.2.2.2.2.2.2.2.1, v0.2.2.2.2.2.2.2.2.2.2.2.2.2.2.1, v0.2.2.2.2.2.2.2.2.2.2.2.2.2.2.2.1, v0.2.2.2.2.2.2.2.2.2.2.2.2.2.2.2.2.1, (upd v0.2.2.2.2.2.2.2.2.2.2.2.2.2.2.2.2.2.1 (0 : Int32).toNatClampNeg v0.2.2.2.1), v0.2.2.2.2.2.2.2.2.2.2.2.2.2.2.2.2.2.2.1, v0.2.2.2.2.2.2.2.2.2.2.2.2.2.2.2.2.2.2.2.1, v0.2.2.2.2.2.2.2.2.2.2.2.2.2.2.2.2.2.2.2.2.1, v0.2.2.2.2.2.2.2.2.2.2.2.2.2.2.2.2.2.2.2.2.2.1, v0.2.2.2.2.2.2.2.2.2.2.2.2.2.2.2.2.2.2.2.2.2.2) s0 s0
set_option maxHeartbeats 4000000 in
set_option maxRecDepth 100000 in
theorem w_Model_writeWhole_57 {p : Program} {l : Launch} {e : Env} {s : State} {m : MethodId} {args : Array Value} {below : List Frame} {meth : Method} {c : Code} {A : Nat → Prop} {D : va_G} {cC cI : ClassId} {a0_0 a0_1 a0_2 a0_3 a0_4 a0_5 a0_6 a0_7 : Nat} (X : xCX p s m args meth c A D cC cI b_Model_writeWhole 6 R_Model none) {out : O_Model_writeWhole}   : J_Model_writeWhole_57 p l e s m args below meth c A D cC cI a0_0 a0_1 a0_2 a0_3 a0_4 a0_5 a0_6 a0_7 out (f_Model_writeWhole_57  ) := by
  obtain ⟨hx, hb, hml, hown, htB, ⟨hK, hN⟩, hZ, hA, hr, hlocks⟩ := id X
  intro v0 s0 ls H locs h hl hP hD hS
  refine lv_istore_n (lv' := [(3, .int s0), (0, .ref a0_0)]) hx hb d_Model_writeWhole_57 rfl hl (by decide) rfl (fun ls hl => ?_)
  refine lv_aload_n hx hb d_Model_writeWhole_58 rfl (lv_at hl 1 rfl) ?_
  refine va_get (D := D) (ci := 11) (v := .ref a0_7) (C := R_Model) (T := F_Model) (N := 23) hx hb htB in_Model hown hK hP 0 rfl rfl 17 (by decide) (htB _ b_395) (fun _ h9 => h9) rfl d_Model_writeWhole_59 ?_
  refine lv_iconst (v := 0) hx hb d_Model_writeWhole_62 (by decide) ?_
  refine lv_aload_n hx hb d_Model_writeWhole_63 rfl (lv_at hl 1 rfl) ?_
  refine va_get (D := D) (ci := 11) (v := .int v0.2.2.2.1) (C := R_Model) (T := F_Model) (N := 23) hx hb htB in_Model hown hK hP 0 rfl rfl 3 (by decide) (htB _ b_311) (fun _ h9 => h9) rfl d_Model_writeWhole_64 ?_
  refine va_iast hx hb hK hP hD hS 7 1 rfl rfl (show ¬ (((0 : Int32) : Int32) < 0 ∨ 6 ≤ ((0 : Int32) : Int32).toNatClampNeg) by decide) d_Model_writeWhole_67 (fun H locs hP hD hS => ?_)
  have hP : va_P D classes (wd_Model_writeWhole cC cI a0_0 a0_1 a0_2 a0_3 a0_4 a0_5 a0_6 a0_7 (v0.1, v0.2.1, v0.2.2.1, v0.2.2.2.1, v0.2.2.2.2.1, v0.2.2.2.2.2.1, v0.2.2.2.2.2.2.1, v0.2.2.2.2.2.2.2.1, v0.2.2.2.2.2.2.2.2.1, v0.2.2.2.2.2.2.2.2.2.1, v0.2.2.2.2.2.2.2.2.2.2.1, v0.2.2.2.2.2.2.2.2.2.2.2.1, v0.2.2.2.2.2.2.2.2.2.2.2.2.1, v0.2.2.2.2.2.2.2.2.2.2.2.2.2.1, v0.2.2.2.2.2.2.2.2.2.2.2.2.2.2.1, v0.2.2.2.2.2.2.2.2.2.2.2.2.2.2.2.1, v0.2.2.2.2.2.2.2.2.2.2.2.2.2.2.2.2.1, (upd v0.2.2.2.2.2.2.2.2.2.2.2.2.2.2.2.2.2.1 (0 : Int32).toNatClampNeg v0.2.2.2.1), v0.2.2.2.2.2.2.2.2.2.2.2.2.2.2.2.2.2.2.1, v0.2.2.2.2.2.2.2.2.2.2.2.2.2.2.2.2.2.2.2.1, v0.2.2.2.2.2.2.2.2.2.2.2.2.2.2.2.2.2.2.2.2.1, v0.2.2.2.2.2.2.2.2.2.2.2.2.2.2.2.2.2.2.2.2.2.1, v0.2.2.2.2.2.2.2.2.2.2.2.2.2.2.2.2.2.2.2.2.2.2)) H := hP
  have hD : va_D A (wd_Model_writeWhole cC cI a0_0 a0_1 a0_2 a0_3 a0_4 a0_5 a0_6 a0_7 (v0.1, v0.2.1, v0.2.2.1, v0.2.2.2.1, v0.2.2.2.2.1, v0.2.2.2.2.2.1, v0.2.2.2.2.2.2.1, v0.2.2.2.2.2.2.2.1, v0.2.2.2.2.2.2.2.2.1, v0.2.2.2.2.2.2.2.2.2.1, v0.2.2.2.2.2.2.2.2.2.2.1, v0.2.2.2.2.2.2.2.2.2.2.2.1, v0.2.2.2.2.2.2.2.2.2.2.2.2.1, v0.2.2.2.2.2.2.2.2.2.2.2.2.2.1, v0.2.2.2.2.2.2.2.2.2.2.2.2.2.2.1, v0.2.2.2.2.2.2.2.2.2.2.2.2.2.2.2.1, v0.2.2.2.2.2.2.2.2.2.2.2.2.2.2.2.2.1, (upd v0.2.2.2.2.2.2.2.2.2.2.2.2.2.2.2.2.2.1 (0 : Int32).toNatClampNeg v0.2.2.2.1), v0.2.2.2.2.2.2.2.2.2.2.2.2.2.2.2.2.2.2.1, v0.2.2.2.2.2.2.2.2.2.2.2.2.2.2.2.2.2.2.2.1, v0.2.2.2.2.2.2.2.2.2.2.2.2.2.2.2.2.2.2.2.2.1, v0.2.2.2.2.2.2.2.2.2.2.2.2.2.2.2.2.2.2.2.2.2.1, v0.2.2.2.2.2.2.2.2.2.2.2.2.2.2.2.2.2.2.2.2.2.2)) := hD
  refine lv_iload_n hx hb d_Model_writeWhole_68 rfl (lv_at hl 0 rfl) ?_
  refine lv_istore (lv' := [(4, .int s0), (3, .int s0), (0, .ref a0_0)]) hx hb d_Model_writeWhole_69 hl (by decide) rfl (fun ls hl => ?_)
  exact w_Model_writeWhole_71 X FU (v0.1, v0.2.1, v0.2.2.1, v0.2.2.2.1, v0.2.2.2.2.1, v0.2.2.2.2.2.1, v0.2.2.2.2.2.2.1, v0.2.2.2.2.2.2.2.1, v0.2.2.2.2.2.2.2.2.1, v0.2.2.2.2.2.2.2.2.2.1, v0.2.2.2.2.2.2.2.2.2.2.1, v0.2.2.2.2.2.2.2.2.2.2.2.1, v0.2.2.2.2.2.2.2.2.2.2.2.2.1, v0.2.2.2.2.2.2.2.2.2.2.2.2.2.1, v0.2.2.2.2.2.2.2.2.2.2.2.2.2.2.1, v0.2.2.2.2.2.2.2.2.2.2.2.2.2.2.2.1, v0.2.2.2.2.2.2.2.2.2.2.2.2.2.2.2.2.1, (upd v0.2.2.2.2.2.2.2.2.2.2.2.2.2.2.2.2.2.1 (0 : Int32).toNatClampNeg v0.2.2.2.1), v0.2.2.2.2.2.2.2.2.2.2.2.2.2.2.2.2.2.2.1, v0.2.2.2.2.2.2.2.2.2.2.2.2.2.2.2.2.2.2.2.1, v0.2.2.2.2.2.2.2.2.2.2.2.2.2.2.2.2.2.2.2.2.1, v0.2.2.2.2.2.2.2.2.2.2.2.2.2.2.2.2.2.2.2.2.2.1, v0.2.2.2.2.2.2.2.2.2.2.2.2.2.2.2.2.2.2.2.2.2.2) s0 s0 ls H locs h (lv_sub hl [2, 1, 0] rfl) hP hD hS

def f_Model_writeWhole_56 (v0 : T_Model) (x3 : Int32) : Option O_Model_writeWhole := f_Model_writeWhole_57 v0 x3
set_option maxHeartbeats 4000000 in
set_option maxRecDepth 100000 in
theorem w_Model_writeWhole_56 {p : Program} {l : Launch} {e : Env} {s : State} {m : MethodId} {args : Array Value} {below : List Frame} {meth : Method} {c : Code} {A : Nat → Prop} {D : va_G} {cC cI : ClassId} {a0_0 a0_1 a0_2 a0_3 a0_4 a0_5 a0_6 a0_7 : Nat} (X : xCX p s m args meth c A D cC cI b_Model_writeWhole 6 R_Model none) {out : O_Model_writeWhole}   : J_Model_writeWhole_56 p l e s m args below meth c A D cC cI a0_0 a0_1 a0_2 a0_3 a0_4 a0_5 a0_6 a0_7 out (f_Model_writeWhole_56  ) := by
  obtain ⟨hx, hb, hml, hown, htB, ⟨hK, hN⟩, hZ, hA, hr, hlocks⟩ := id X
  intro v0 x3 ls H locs h hl hP hD hS
  refine lv_iload_n hx hb d_Model_writeWhole_56 rfl (lv_at hl 1 rfl) ?_
  exact w_Model_writeWhole_57 X v0 x3 ls H locs h (lv_sub hl [0] rfl) hP hD hS

def f_Model_writeWhole_43 (v0 : T_Model) (x1 : Int32) (s0 : Int32) : Option O_Model_writeWhole := (if s0 = 0 then (if x1 = 0 then f_Model_writeWhole_57 v0 (1 : Int32) else f_Model_writeWhole_56 v0 s0) else f_Model_writeWhole_56 v0 s0)
set_option maxHeartbeats 4000000 in
set_option maxRecDepth 100000 in
theorem w_Model_writeWhole_43 {p : Program} {l : Launch} {e : Env} {s : State} {m : MethodId} {args : Array Value} {below : List Frame} {meth : Method} {c : Code} {A : Nat → Prop} {D : va_G} {cC cI : ClassId} {a0_0 a0_1 a0_2 a0_3 a0_4 a0_5 a0_6 a0_7 : Nat} (X : xCX p s m args meth c A D cC cI b_Model_writeWhole 6 R_Model none) {out : O_Model_writeWhole}   : J_Model_writeWhole_43 p l e s m args below meth c A D cC cI a0_0 a0_1 a0_2 a0_3 a0_4 a0_5 a0_6 a0_7 out (f_Model_writeWhole_43  ) := by
  obtain ⟨hx, hb, hml, hown, htB, ⟨hK, hN⟩, hZ, hA, hr, hlocks⟩ := id X
  intro v0 x1 s0 ls H locs h hl hP hD hS
  refine lv_istore_n (lv' := [(3, .int s0), (0, .ref a0_0), (1, .int x1)]) hx hb d_Model_writeWhole_43 rfl hl (by decide) rfl (fun ls hl => ?_)
  refine lv_iload_n hx hb d_Model_writeWhole_44 rfl (lv_at hl 0 rfl) ?_
  refine lv_if_ne (tgt := 56) hx hb d_Model_writeWhole_45 rfl (fun hc => ?_) (fun hc => ?_)
  · have h := (if_neg hc).symm.trans h
    exact w_Model_writeWhole_56 X v0 s0 ls H locs h (lv_sub hl [1, 0] rfl) hP hD hS
  have h := (if_pos hc).symm.trans h
  refine lv_iload_n hx hb d_Model_writeWhole_48 rfl (lv_at hl 2 rfl) ?_
  refine lv_if_ne (tgt := 56) hx hb d_Model_writeWhole_49 rfl (fun hc => ?_) (fun hc => ?_)
  · have h := (if_neg hc).symm.trans h
    exact w_Model_writeWhole_56 X v0 s0 ls H locs h (lv_sub hl [1, 0] rfl) hP hD hS
  have h := (if_pos hc).symm.trans h
  refine lv_iconst (v := 1) hx hb d_Model_writeWhole_52 (by decide) ?_
  refine lv_goto (tgt := 57) hx hb d_Model_writeWhole_53 rfl ?_
  exact w_Model_writeWhole_57 X v0 (1 : Int32) ls H locs h (lv_sub hl [1] rfl) hP hD hS

def f_Model_writeWhole_22 (v0 : T_Model) (x1 : Int32) (s0 : Int32) : Option O_Model_writeWhole := (if (v0.2.2.2.2.2.2.2.2.1 (0 : Int32).toNatClampNeg) ≤ s0 then f_Model_writeWhole_43 v0 x1 s0 else f_Model_writeWhole_43 v0 x1 (v0.2.2.2.2.2.2.2.2.1 (0 : Int32).toNatClampNeg))
set_option maxHeartbeats 4000000 in
set_option maxRecDepth 100000 in
theorem w_Model_writeWhole_22 {p : Program} {l : Launch} {e : Env} {s : State} {m : MethodId} {args : Array Value} {below : List Frame} {meth : Method} {c : Code} {A : Nat → Prop} {D : va_G} {cC cI : ClassId} {a0_0 a0_1 a0_2 a0_3 a0_4 a0_5 a0_6 a0_7 : Nat} (X : xCX p s m args meth c A D cC cI b_Model_writeWhole 6 R_Model none) {out : O_Model_writeWhole}   : J_Model_writeWhole_22 p l e s m args below meth c A D cC cI a0_0 a0_1 a0_2 a0_3 a0_4 a0_5 a0_6 a0_7 out (f_Model_writeWhole_22  ) := by
  obtain ⟨hx, hb, hml, hown, htB, ⟨hK, hN⟩, hZ, hA, hr, hlocks⟩ := id X
  intro v0 x1 s0 ls H locs h hl hP hD hS
  refine lv_istore_n (lv' := [(2, .int s0), (0, .ref a0_0), (1, .int x1)]) hx hb d_Model_writeWhole_22 rfl hl (by decide) rfl (fun ls hl => ?_)
  refine lv_iload_n hx hb d_Model_writeWhole_23 rfl (lv_at hl 0 rfl) ?_
  refine lv_aload_n hx hb d_Model_writeWhole_24 rfl (lv_at hl 1 rfl) ?_
  refine va_get (D := D) (ci := 11) (v := .ref a0_5) (C := R_Model) (T := F_Model) (N := 23) hx hb htB in_Model hown hK hP 0 rfl rfl 8 (by decide) (htB _ b_330) (fun _ h9 => h9) rfl d_Model_writeWhole_25 ?_
  refine lv_iconst (v := 0) hx hb d_Model_writeWhole_28 (by decide) ?_
  refine va_iald hx hb hK hP 5 1 rfl rfl (show ¬ (((0 : Int32) : Int32) < 0 ∨ 7 ≤ ((0 : Int32) : Int32).toNatClampNeg) by decide) d_Model_writeWhole_29 ?_
  refine lv_icmp_ge (tgt := 42) hx hb d_Model_writeWhole_30 rfl (fun hc => ?_) (fun hc => ?_)
  · have h := (if_pos hc).symm.trans h
    refine lv_iload_n hx hb d_Model_writeWhole_42 rfl (lv_at hl 0 rfl) ?_
    exact w_Model_writeWhole_43 X v0 x1 s0 ls H locs h (lv_sub hl [1, 2] rfl) hP hD hS
  have h := (if_neg hc).symm.trans h
  refine lv_aload_n hx hb d_Model_writeWhole_33 rfl (lv_at hl 1 rfl) ?_
  refine va_get (D := D) (ci := 11) (v := .ref a0_5) (C := R_Model) (T := F_Model) (N := 23) hx hb htB in_Model hown hK hP 0 rfl rfl 8 (by decide) (htB _ b_330) (fun _ h9 => h9) rfl d_Model_writeWhole_34 ?_
  refine lv_iconst (v := 0) hx hb d_Model_writeWhole_37 (by decide) ?_
  refine va_iald hx hb hK hP 5 1 rfl rfl (show ¬ (((0 : Int32) : Int32) < 0 ∨ 7 ≤ ((0 : Int32) : Int32).toNatClampNeg) by decide) d_Model_writeWhole_38 ?_
  refine lv_goto (tgt := 43) hx hb d_Model_writeWhole_39 rfl ?_
  exact w_Model_writeWhole_43 X v0 x1 (v0.2.2.2.2.2.2.2.2.1 (0 : Int32).toNatClampNeg) ls H locs h (lv_sub hl [1, 2] rfl) hP hD hS

def f_Model_writeWhole_21 (v0 : T_Model) (x1 : Int32) : Option O_Model_writeWhole := f_Model_writeWhole_22 v0 x1 (0 : Int32)
set_option maxHeartbeats 4000000 in
set_option maxRecDepth 100000 in
theorem w_Model_writeWhole_21 {p : Program} {l : Launch} {e : Env} {s : State} {m : MethodId} {args : Array Value} {below : List Frame} {meth : Method} {c : Code} {A : Nat → Prop} {D : va_G} {cC cI : ClassId} {a0_0 a0_1 a0_2 a0_3 a0_4 a0_5 a0_6 a0_7 : Nat} (X : xCX p s m args meth c A D cC cI b_Model_writeWhole 6 R_Model none) {out : O_Model_writeWhole}   : J_Model_writeWhole_21 p l e s m args below meth c A D cC cI a0_0 a0_1 a0_2 a0_3 a0_4 a0_5 a0_6 a0_7 out (f_Model_writeWhole_21  ) := by
  obtain ⟨hx, hb, hml, hown, htB, ⟨hK, hN⟩, hZ, hA, hr, hlocks⟩ := id X
  intro v0 x1 ls H locs h hl hP hD hS
  refine lv_iconst (v := 0) hx hb d_Model_writeWhole_21 (by decide) ?_
  exact w_Model_writeWhole_22 X v0 x1 (0 : Int32) ls H locs h (lv_sub hl [0, 1] rfl) hP hD hS

def f_Model_writeWhole (v0 : T_Model) (v1 : Int32) : Option O_Model_writeWhole := (if v0.2.2.2.2.2.2.2.2.2.2.2.2.2.2.1 ≤ 0 then f_Model_writeWhole_21 v0 v1 else (if v0.2.2.2.2.2.2.2.2.2.2.2.2.2.2.2.1 ≤ 0 then f_Model_writeWhole_21 v0 v1 else f_Model_writeWhole_22 v0 v1 v0.2.2.2.2.2.2.2.2.2.2.2.2.2.2.2.1))
set_option maxHeartbeats 4000000 in
set_option maxRecDepth 100000 in
theorem w_Model_writeWhole {p : Program} {l : Launch} {e : Env} {s : State} {m : MethodId} {args : Array Value} {below : List Frame} {meth : Method} {c : Code} {A : Nat → Prop} {D : va_G} {cC cI : ClassId} {a0_0 a0_1 a0_2 a0_3 a0_4 a0_5 a0_6 a0_7 : Nat} (X : xCX p s m args meth c A D cC cI b_Model_writeWhole 6 R_Model none) {out : O_Model_writeWhole} (v0 : T_Model) (v1 : Int32) {ls : Array Slot} {H : Heap} {locs : List Loc} (h : f_Model_writeWhole v0 v1 = some out) (hl : lv_has ls 6 [(0, .ref a0_0), (1, .int v1)]) (hP : va_P D classes (wd_Model_writeWhole cC cI a0_0 a0_1 a0_2 a0_3 a0_4 a0_5 a0_6 a0_7 v0) H) (hD : va_D A (wd_Model_writeWhole cC cI a0_0 a0_1 a0_2 a0_3 a0_4 a0_5 a0_6 a0_7 v0)) (hS : va_S A s.heap H locs) : W p l e rm_Model_writeWhole s m args below meth c H locs 0 0 (MQ below (q_Model_writeWhole D cC cI a0_0 a0_1 a0_2 a0_3 a0_4 a0_5 a0_6 a0_7 out A) args s 0 0 A) (F0 m 0 ls []) := by
  obtain ⟨hx, hb, hml, hown, htB, ⟨hK, hN⟩, hZ, hA, hr, hlocks⟩ := id X
  refine lv_aload_n hx hb d_Model_writeWhole_0 rfl (lv_at hl 0 rfl) ?_
  refine va_get (D := D) (ci := 11) (v := .int v0.2.2.2.2.2.2.2.2.2.2.2.2.2.2.1) (C := R_Model) (T := F_Model) (N := 23) hx hb htB in_Model hown hK hP 0 rfl rfl 14 (by decide) (htB _ b_382) (fun _ h9 => h9) rfl d_Model_writeWhole_1 ?_
  refine lv_if_le (tgt := 21) hx hb d_Model_writeWhole_4 rfl (fun hc => ?_) (fun hc => ?_)
  · have h := (if_pos hc).symm.trans h
    exact w_Model_writeWhole_21 X v0 v1 ls H locs h (lv_sub hl [0, 1] rfl) hP hD hS
  have h := (if_neg hc).symm.trans h
  refine lv_aload_n hx hb d_Model_writeWhole_7 rfl (lv_at hl 0 rfl) ?_
  refine va_get (D := D) (ci := 11) (v := .int v0.2.2.2.2.2.2.2.2.2.2.2.2.2.2.2.1) (C := R_Model) (T := F_Model) (N := 23) hx hb htB in_Model hown hK hP 0 rfl rfl 15 (by decide) (htB _ b_386) (fun _ h9 => h9) rfl d_Model_writeWhole_8 ?_
  refine lv_if_le (tgt := 21) hx hb d_Model_writeWhole_11 rfl (fun hc => ?_) (fun hc => ?_)
  · have h := (if_pos hc).symm.trans h
    exact w_Model_writeWhole_21 X v0 v1 ls H locs h (lv_sub hl [0, 1] rfl) hP hD hS
  have h := (if_neg hc).symm.trans h
  refine lv_aload_n hx hb d_Model_writeWhole_14 rfl (lv_at hl 0 rfl) ?_
  refine va_get (D := D) (ci := 11) (v := .int v0.2.2.2.2.2.2.2.2.2.2.2.2.2.2.2.1) (C := R_Model) (T := F_Model) (N := 23) hx hb htB in_Model hown hK hP 0 rfl rfl 15 (by decide) (htB _ b_386) (fun _ h9 => h9) rfl d_Model_writeWhole_15 ?_
  refine lv_goto (tgt := 22) hx hb d_Model_writeWhole_18 rfl ?_
  exact w_Model_writeWhole_22 X v0 v1 v0.2.2.2.2.2.2.2.2.2.2.2.2.2.2.2.1 ls H locs h (lv_sub hl [0, 1] rfl) hP hD hS

set_option maxHeartbeats 4000000 in
set_option maxRecDepth 100000 in
theorem c_Model_writeWhole (l : Launch) (D : va_G) (cC cI : ClassId) (sz : Nat) (a0_0 a0_1 a0_2 a0_3 a0_4 a0_5 a0_6 a0_7 : Nat) (v0 : T_Model) (v1 : Int32) (out : O_Model_writeWhole) (h : f_Model_writeWhole v0 v1 = some out) : Met l y_Model_writeWhole (.code y_Model_writeWhole b_Model_writeWhole 6 none :: BIG) rm_Model_writeWhole (va_Pc [.ref a0_0, .int v1] (xPre D cC cI (wd_Model_writeWhole cC cI a0_0 a0_1 a0_2 a0_3 a0_4 a0_5 a0_6 a0_7 v0) sz)) (q_Model_writeWhole D cC cI a0_0 a0_1 a0_2 a0_3 a0_4 a0_5 a0_6 a0_7 out (va_A (wd_Model_writeWhole cC cI a0_0 a0_1 a0_2 a0_3 a0_4 a0_5 a0_6 a0_7 v0) sz)) 0 0 (va_A (wd_Model_writeWhole cC cI a0_0 a0_1 a0_2 a0_3 a0_4 a0_5 a0_6 a0_7 v0) sz) := by
  refine Met.ofW (cc := b_Model_writeWhole) (maxL := 6) (ret := none) (by decide) rfl ?_
  intro p e s m args below meth c s₁ B hml hv
  obtain ⟨rfl, rfl, hP, hD0, hG, hZ⟩ := hv
  have hl := lv_entry [.ref a0_0, .int v1] (n := 6) (Nat.le_of_ble_eq_true rfl)
  rw [lg_entry_eq]
  exact w_Model_writeWhole (x_cx B hml hG hZ) v0 v1 h hl hP hD0.self va_S.rf

abbrev wd_Model_fractions (cC cI : ClassId) (a0_0 a0_1 a0_2 a0_3 a0_4 a0_5 a0_6 a0_7 : Nat) (v0 : T_Model) : va_W := [(a0_0, .inr (11, [.ref a0_1, .int v0.2.1, .ref a0_2, .int v0.2.2.2.1, .int v0.2.2.2.2.1, .int v0.2.2.2.2.2.1, .ref a0_3, .ref a0_4, .ref a0_5, .int v0.2.2.2.2.2.2.2.2.2.1, .int v0.2.2.2.2.2.2.2.2.2.2.1, .int v0.2.2.2.2.2.2.2.2.2.2.2.1, .int v0.2.2.2.2.2.2.2.2.2.2.2.2.1, .ref a0_6, .int v0.2.2.2.2.2.2.2.2.2.2.2.2.2.2.1, .int v0.2.2.2.2.2.2.2.2.2.2.2.2.2.2.2.1, .int v0.2.2.2.2.2.2.2.2.2.2.2.2.2.2.2.2.1, .ref a0_7, .long v0.2.2.2.2.2.2.2.2.2.2.2.2.2.2.2.2.2.2.1, .int v0.2.2.2.2.2.2.2.2.2.2.2.2.2.2.2.2.2.2.2.1, .long v0.2.2.2.2.2.2.2.2.2.2.2.2.2.2.2.2.2.2.2.2.1, .int v0.2.2.2.2.2.2.2.2.2.2.2.2.2.2.2.2.2.2.2.2.2.1, .int v0.2.2.2.2.2.2.2.2.2.2.2.2.2.2.2.2.2.2.2.2.2.2])), (a0_1, .inl (cC, 120, .inl v0.1)), (a0_2, .inl (cC, 200, .inl v0.2.2.1)), (a0_3, .inl (cI, 160, .inl v0.2.2.2.2.2.2.1)), (a0_4, .inl (cI, 4, .inl v0.2.2.2.2.2.2.2.1)), (a0_5, .inl (cI, 7, .inl v0.2.2.2.2.2.2.2.2.1)), (a0_6, .inl (cI, 40, .inl v0.2.2.2.2.2.2.2.2.2.2.2.2.2.1)), (a0_7, .inl (cI, 6, .inl v0.2.2.2.2.2.2.2.2.2.2.2.2.2.2.2.2.2.1))]
abbrev O_Model_fractions : Type := Int32
abbrev q_Model_fractions (D : va_G) (cC cI : ClassId) (a0_0 a0_1 a0_2 a0_3 a0_4 a0_5 a0_6 a0_7 : Nat) (v0 : T_Model) (out : O_Model_fractions) (A : Nat → Prop) : Array Value → State → Outcome → State → Prop := va_Qi (fun r (_ : Unit) => r = out) (fun _ t => va_P D classes (wd_Model_fractions cC cI a0_0 a0_1 a0_2 a0_3 a0_4 a0_5 a0_6 a0_7 v0) t.heap ∧ va_D A (wd_Model_fractions cC cI a0_0 a0_1 a0_2 a0_3 a0_4 a0_5 a0_6 a0_7 v0)) A
abbrev rm_Model_fractions : Room := { frames := 1, cells := 0, slots := 0, locals := 22 }
def J_Model_fractions_4 (p : Program) (l : Launch) (e : Env) (s : State) (m : MethodId) (args : Array Value) (below : List Frame) (meth : Method) (c : Code) (A : Nat → Prop) (D : va_G) (cC cI : ClassId) (a0_0 a0_1 a0_2 a0_3 a0_4 a0_5 a0_6 a0_7 : Nat) (v0 : T_Model) (out : O_Model_fractions) (k : Int32 → Int32 → Option O_Model_fractions) : Prop := ∀ (x1 : Int32) (x2 : Int32) (ls : Array Slot) (H : Heap) (locs : List Loc), k x1 x2 = some out → lv_has ls 3 [(0, .ref a0_0), (1, .int x1), (2, .int x2)] → va_P D classes (wd_Model_fractions cC cI a0_0 a0_1 a0_2 a0_3 a0_4 a0_5 a0_6 a0_7 v0) H → va_D A (wd_Model_fractions cC cI a0_0 a0_1 a0_2 a0_3 a0_4 a0_5 a0_6 a0_7 v0) → va_S A s.heap H locs → W p l e rm_Model_fractions s m args below meth c H locs 0 0 (MQ below (q_Model_fractions D cC cI a0_0 a0_1 a0_2 a0_3 a0_4 a0_5 a0_6 a0_7 v0 out A) args s 0 0 A) (F0 m 4 ls [])
def J_Model_fractions_59 (p : Program) (l : Launch) (e : Env) (s : State) (m : MethodId) (args : Array Value) (below : List Frame) (meth : Method) (c : Code) (A : Nat → Prop) (D : va_G) (cC cI : ClassId) (a0_0 a0_1 a0_2 a0_3 a0_4 a0_5 a0_6 a0_7 : Nat) (v0 : T_Model) (out : O_Model_fractions) (k : Int32 → Option O_Model_fractions) : Prop := ∀ (s0 : Int32) (ls : Array Slot) (H : Heap) (locs : List Loc), k s0 = some out → lv_has ls 3 [] → va_P D classes (wd_Model_fractions cC cI a0_0 a0_1 a0_2 a0_3 a0_4 a0_5 a0_6 a0_7 v0) H → va_D A (wd_Model_fractions cC cI a0_0 a0_1 a0_2 a0_3 a0_4 a0_5 a0_6 a0_7 v0) → va_S A s.heap H locs → W p l e rm_Model_fractions s m args below meth c H locs 0 0 (MQ below (q_Model_fractions D cC cI a0_0 a0_1 a0_2 a0_3 a0_4 a0_5 a0_6 a0_7 v0 out A) args s 0 0 A) (F0 m 59 ls [.int s0])
def f_Model_fractions_59 (v0 : T_Model) (s0 : Int32) : Option O_Model_fractions := some s0
set_option maxHeartbeats 4000000 in
set_option maxRecDepth 100000 in
theorem w_Model_fractions_59 {p : Program} {l : Launch} {e : Env} {s : State} {m : MethodId} {args : Array Value} {below : List Frame} {meth : Method} {c : Code} {A : Nat → Prop} {D : va_G} {cC cI : ClassId} {a0_0 a0_1 a0_2 a0_3 a0_4 a0_5 a0_6 a0_7 : Nat} {v0 : T_Model} (X : xCX p s m args meth c A D cC cI b_Model_fractions 3 R_Model (some .int)) {out : O_Model_fractions}   : J_Model_fractions_59 p l e s m args below meth c A D cC cI a0_0 a0_1 a0_2 a0_3 a0_4 a0_5 a0_6 a0_7 v0 out (f_Model_fractions_59 v0 ) := by
  obtain ⟨hx, hb, hml, hown, htB, ⟨hK, hN⟩, hZ, hA, hr, hlocks⟩ := id X
  intro s0 ls H locs h hl hP hD hS
  obtain rfl := Option.some.inj h
  exact W.iret (v := s0) hx hb hr (fun t ht hW => ⟨⟨s0, (), rfl, rfl, by rw [ht]; exact hP, hD⟩, hS.F ht⟩) hS.2.2 d_Model_fractions_59 hlocks

def J_Model_fractions_31 (p : Program) (l : Launch) (e : Env) (s : State) (m : MethodId) (args : Array Value) (below : List Frame) (meth : Method) (c : Code) (A : Nat → Prop) (D : va_G) (cC cI : ClassId) (a0_0 a0_1 a0_2 a0_3 a0_4 a0_5 a0_6 a0_7 : Nat) (v0 : T_Model) (out : O_Model_fractions) (k : Int32 → Int32 → Option O_Model_fractions) : Prop := ∀ (x1 : Int32) (x2 : Int32) (ls : Array Slot) (H : Heap) (locs : List Loc), k x1 x2 = some out → lv_has ls 3 [(0, .ref a0_0), (1, .int x1), (2, .int x2)] → va_P D classes (wd_Model_fractions cC cI a0_0 a0_1 a0_2 a0_3 a0_4 a0_5 a0_6 a0_7 v0) H → va_D A (wd_Model_fractions cC cI a0_0 a0_1 a0_2 a0_3 a0_4 a0_5 a0_6 a0_7 v0) → va_S A s.heap H locs → W p l e rm_Model_fractions s m args below meth c H locs 0 0 (MQ below (q_Model_fractions D cC cI a0_0 a0_1 a0_2 a0_3 a0_4 a0_5 a0_6 a0_7 v0 out A) args s 0 0 A) (F0 m 31 ls [])
def J_Model_fractions_32 (p : Program) (l : Launch) (e : Env) (s : State) (m : MethodId) (args : Array Value) (below : List Frame) (meth : Method) (c : Code) (A : Nat → Prop) (D : va_G) (cC cI : ClassId) (a0_0 a0_1 a0_2 a0_3 a0_4 a0_5 a0_6 a0_7 : Nat) (v0 : T_Model) (out : O_Model_fractions) (k : Int32 → Int32 → Option O_Model_fractions) : Prop := ∀ (x2 : Int32) (s0 : Int32) (ls : Array Slot) (H : Heap) (locs : List Loc), k x2 s0 = some out → lv_has ls 3 [(0, .ref a0_0), (2, .int x2)] → va_P D classes (wd_Model_fractions cC cI a0_0 a0_1 a0_2 a0_3 a0_4 a0_5 a0_6 a0_7 v0) H → va_D A (wd_Model_fractions cC cI a0_0 a0_1 a0_2 a0_3 a0_4 a0_5 a0_6 a0_7 v0) → va_S A s.heap H locs → W p l e rm_Model_fractions s m args below meth c H locs 0 0 (MQ below (q_Model_fractions D cC cI a0_0 a0_1 a0_2 a0_3 a0_4 a0_5 a0_6 a0_7 v0 out A) args s 0 0 A) (F0 m 32 ls [.int s0])
def f_Model_fractions_32 (v0 : T_Model) (k4 : Int32 → Int32 → Option O_Model_fractions) (x2 : Int32) (s0 : Int32) : Option O_Model_fractions := k4 s0 (x2 + (1 : Int32))
set_option maxHeartbeats 4000000 in
set_option maxRecDepth 100000 in
theorem w_Model_fractions_32 {p : Program} {l : Launch} {e : Env} {s : State} {m : MethodId} {args : Array Value} {below : List Frame} {meth : Method} {c : Code} {A : Nat → Prop} {D : va_G} {cC cI : ClassId} {a0_0 a0_1 a0_2 a0_3 a0_4 a0_5 a0_6 a0_7 : Nat} {v0 : T_Model} (X : xCX p s m args meth c A D cC cI b_Model_fractions 3 R_Model (some .int)) {out : O_Model_fractions} {k4 : Int32 → Int32 → Option O_Model_fractions} (hk4 : J_Model_fractions_4 p l e s m args below meth c A D cC cI a0_0 a0_1 a0_2 a0_3 a0_4 a0_5 a0_6 a0_7 v0 out k4) : J_Model_fractions_32 p l e s m args below meth c A D cC cI a0_0 a0_1 a0_2 a0_3 a0_4 a0_5 a0_6 a0_7 v0 out (f_Model_fractions_32 v0 k4) := by
  obtain ⟨hx, hb, hml, hown, htB, ⟨hK, hN⟩, hZ, hA, hr, hlocks⟩ := id X
  intro x2 s0 ls H locs h hl hP hD hS
  refine lv_istore_n (lv' := [(1, .int s0), (0, .ref a0_0), (2, .int x2)]) hx hb d_Model_fractions_32 rfl hl (by decide) rfl (fun ls hl => ?_)
  refine lv_iinc (k := 2) (v := (x2 + (1 : Int32))) (lv' := [(2, .int (x2 + (1 : Int32))), (1, .int s0), (0, .ref a0_0)]) hx hb d_Model_fractions_33 hl rfl (congrArg (fun z => x2 + z) (by decide : Int32.ofInt 1 = (1 : Int32))) (by decide) rfl (fun ls hl => ?_)
  refine lv_goto (tgt := 4) hx hb d_Model_fractions_36 rfl ?_
  exact hk4 s0 (x2 + (1 : Int32)) ls H locs h (lv_sub hl [2, 1, 0] rfl) hP hD hS

def f_Model_fractions_31 (v0 : T_Model) (k4 : Int32 → Int32 → Option O_Model_fractions) (x1 : Int32) (x2 : Int32) : Option O_Model_fractions := f_Model_fractions_32 v0 k4 x2 x1
set_option maxHeartbeats 4000000 in
set_option maxRecDepth 100000 in
theorem w_Model_fractions_31 {p : Program} {l : Launch} {e : Env} {s : State} {m : MethodId} {args : Array Value} {below : List Frame} {meth : Method} {c : Code} {A : Nat → Prop} {D : va_G} {cC cI : ClassId} {a0_0 a0_1 a0_2 a0_3 a0_4 a0_5 a0_6 a0_7 : Nat} {v0 : T_Model} (X : xCX p s m args meth c A D cC cI b_Model_fractions 3 R_Model (some .int)) {out : O_Model_fractions} {k4 : Int32 → Int32 → Option O_Model_fractions} (hk4 : J_Model_fractions_4 p l e s m args below meth c A D cC cI a0_0 a0_1 a0_2 a0_3 a0_4 a0_5 a0_6 a0_7 v0 out k4) : J_Model_fractions_31 p l e s m args below meth c A D cC cI a0_0 a0_1 a0_2 a0_3 a0_4 a0_5 a0_6 a0_7 v0 out (f_Model_fractions_31 v0 k4) := by
  obtain ⟨hx, hb, hml, hown, htB, ⟨hK, hN⟩, hZ, hA, hr, hlocks⟩ := id X
  intro x1 x2 ls H locs h hl hP hD hS
  refine lv_iload_n hx hb d_Model_fractions_31 rfl (lv_at hl 1 rfl) ?_
  exact w_Model_fractions_32 X hk4 x2 x1 ls H locs h (lv_sub hl [0, 2] rfl) hP hD hS

def f_Model_fractions_4 (v0 : T_Model)  : Nat → Int32 → Int32 → Option O_Model_fractions
  | 0, _, _ => none
  | n + 1, x1, x2 => (if (9 : Int32) ≤ x2 then (if (v0.2.2.2.2.2.2.2.2.1 (1 : Int32).toNatClampNeg) ≤ x1 then f_Model_fractions_59 v0 x1 else f_Model_fractions_59 v0 (v0.2.2.2.2.2.2.2.2.1 (1 : Int32).toNatClampNeg)) else (if v0.2.2.2.2.2.2.2.2.2.2.2.2.2.2.1 ≤ 0 then f_Model_fractions_31 v0 (f_Model_fractions_4 v0 n) x1 x2 else (f_Model_placed v0 x2).bind (fun o19 => (if o19 ≤ 0 then f_Model_fractions_31 v0 (f_Model_fractions_4 v0 n) x1 x2 else f_Model_fractions_32 v0 (f_Model_fractions_4 v0 n) x2 (x2 + (1 : Int32))))))
set_option maxHeartbeats 4000000 in
set_option maxRecDepth 100000 in
theorem w_Model_fractions_4 {p : Program} {l : Launch} {e : Env} {s : State} {m : MethodId} {args : Array Value} {below : List Frame} {meth : Method} {c : Code} {A : Nat → Prop} {D : va_G} {cC cI : ClassId} {a0_0 a0_1 a0_2 a0_3 a0_4 a0_5 a0_6 a0_7 : Nat} {v0 : T_Model} (X : xCX p s m args meth c A D cC cI b_Model_fractions 3 R_Model (some .int)) {out : O_Model_fractions}   : ∀ n : Nat, J_Model_fractions_4 p l e s m args below meth c A D cC cI a0_0 a0_1 a0_2 a0_3 a0_4 a0_5 a0_6 a0_7 v0 out (f_Model_fractions_4 v0  n) := by
  obtain ⟨hx, hb, hml, hown, htB, ⟨hK, hN⟩, hZ, hA, hr, hlocks⟩ := id X
  intro n
  induction n with
  | zero =>
    intro x1 x2 ls H locs h hl hP hD hS
    cases h
  | succ n ih =>
    intro x1 x2 ls H locs h hl hP hD hS
    refine lv_iload_n hx hb d_Model_fractions_4 rfl (lv_at hl 2 rfl) ?_
    refine lv_bipush (v := 9) hx hb d_Model_fractions_5 (by decide) ?_
    refine lv_icmp_ge (tgt := 39) hx hb d_Model_fractions_7 rfl (fun hc => ?_) (fun hc => ?_)
    · have h := (if_pos hc).symm.trans h
      refine lv_iload_n hx hb d_Model_fractions_39 rfl (lv_at hl 1 rfl) ?_
      refine lv_aload_n hx hb d_Model_fractions_40 rfl (lv_at hl 0 rfl) ?_
      refine va_get (D := D) (ci := 11) (v := .ref a0_5) (C := R_Model) (T := F_Model) (N := 23) hx hb htB in_Model hown hK hP 0 rfl rfl 8 (by decide) (htB _ b_330) (fun _ h9 => h9) rfl d_Model_fractions_41 ?_
      refine lv_iconst (v := 1) hx hb d_Model_fractions_44 (by decide) ?_
      refine va_iald hx hb hK hP 5 1 rfl rfl (show ¬ (((1 : Int32) : Int32) < 0 ∨ 7 ≤ ((1 : Int32) : Int32).toNatClampNeg) by decide) d_Model_fractions_45 ?_
      refine lv_icmp_ge (tgt := 58) hx hb d_Model_fractions_46 rfl (fun hc => ?_) (fun hc => ?_)
      · have h := (if_pos hc).symm.trans h
        refine lv_iload_n hx hb d_Model_fractions_58 rfl (lv_at hl 1 rfl) ?_
        exact w_Model_fractions_59 X x1 ls H locs h (lv_sub hl [] rfl) hP hD hS
      have h := (if_neg hc).symm.trans h
      refine lv_aload_n hx hb d_Model_fractions_49 rfl (lv_at hl 0 rfl) ?_
      refine va_get (D := D) (ci := 11) (v := .ref a0_5) (C := R_Model) (T := F_Model) (N := 23) hx hb htB in_Model hown hK hP 0 rfl rfl 8 (by decide) (htB _ b_330) (fun _ h9 => h9) rfl d_Model_fractions_50 ?_
      refine lv_iconst (v := 1) hx hb d_Model_fractions_53 (by decide) ?_
      refine va_iald hx hb hK hP 5 1 rfl rfl (show ¬ (((1 : Int32) : Int32) < 0 ∨ 7 ≤ ((1 : Int32) : Int32).toNatClampNeg) by decide) d_Model_fractions_54 ?_
      refine lv_goto (tgt := 59) hx hb d_Model_fractions_55 rfl ?_
      exact w_Model_fractions_59 X (v0.2.2.2.2.2.2.2.2.1 (1 : Int32).toNatClampNeg) ls H locs h (lv_sub hl [] rfl) hP hD hS
    have h := (if_neg hc).symm.trans h
    refine lv_aload_n hx hb d_Model_fractions_10 rfl (lv_at hl 0 rfl) ?_
    refine va_get (D := D) (ci := 11) (v := .int v0.2.2.2.2.2.2.2.2.2.2.2.2.2.2.1) (C := R_Model) (T := F_Model) (N := 23) hx hb htB in_Model hown hK hP 0 rfl rfl 14 (by decide) (htB _ b_382) (fun _ h9 => h9) rfl d_Model_fractions_11 ?_
    refine lv_if_le (tgt := 31) hx hb d_Model_fractions_14 rfl (fun hc => ?_) (fun hc => ?_)
    · have h := (if_pos hc).symm.trans h
      exact w_Model_fractions_31 X ih x1 x2 ls H locs h (lv_sub hl [0, 1, 2] rfl) hP hD hS
    have h := (if_neg hc).symm.trans h
    refine lv_aload_n hx hb d_Model_fractions_17 rfl (lv_at hl 0 rfl) ?_
    refine lv_iload_n hx hb d_Model_fractions_18 rfl (lv_at hl 2 rfl) ?_
    obtain ⟨o19, ho19, h⟩ := x_bnd h
    refine x_calli (r0 := o19) (ws2 := (wd_Model_fractions cC cI a0_0 a0_1 a0_2 a0_3 a0_4 a0_5 a0_6 a0_7 v0)) (x_runV (As := [.int x2]) (rest := []) X (c_Model_placed l D cC cI H.size a0_0 a0_1 a0_2 a0_3 a0_4 a0_5 a0_6 a0_7 v0 x2 o19 ho19) b_396 1 (htB _ b_399) (htB _ b_397) (htB _ b_398) (htB _ b_319) ⟨by decide, by decide, by decide +kernel⟩ ⟨(Nat.le_of_ble_eq_true rfl), (Nat.le_of_ble_eq_true rfl)⟩ 0 rfl rfl hP hD hS [0, 1, 2, 3, 4, 5, 6, 7] rfl (by decide) rfl rfl hl.1 rfl rfl (Nat.le_of_ble_eq_true rfl) d_Model_fractions_19) hP hD hS hA [0, 1, 2, 3, 4, 5, 6, 7] [] [0, 1, 2, 3, 4, 5, 6, 7] rfl rfl (by decide) (by decide) rfl (by decide) (fun H locs hP hD hS => ?_)
    refine lv_if_le (tgt := 31) hx hb d_Model_fractions_22 rfl (fun hc => ?_) (fun hc => ?_)
    · have h := (if_pos hc).symm.trans h
      exact w_Model_fractions_31 X ih x1 x2 ls H locs h (lv_sub hl [0, 1, 2] rfl) hP hD hS
    have h := (if_neg hc).symm.trans h
    refine lv_iload_n hx hb d_Model_fractions_25 rfl (lv_at hl 2 rfl) ?_
    refine lv_iconst (v := 1) hx hb d_Model_fractions_26 (by decide) ?_
    refine lv_iadd hx hb d_Model_fractions_27 ?_
    refine lv_goto (tgt := 32) hx hb d_Model_fractions_28 rfl ?_
    exact w_Model_fractions_32 X ih x2 (x2 + (1 : Int32)) ls H locs h (lv_sub hl [0, 2] rfl) hP hD hS

def f_Model_fractions (v0 : T_Model) : Option O_Model_fractions := f_Model_fractions_4 v0 FU (0 : Int32) (0 : Int32)
set_option maxHeartbeats 4000000 in
set_option maxRecDepth 100000 in
theorem w_Model_fractions {p : Program} {l : Launch} {e : Env} {s : State} {m : MethodId} {args : Array Value} {below : List Frame} {meth : Method} {c : Code} {A : Nat → Prop} {D : va_G} {cC cI : ClassId} {a0_0 a0_1 a0_2 a0_3 a0_4 a0_5 a0_6 a0_7 : Nat} {v0 : T_Model} (X : xCX p s m args meth c A D cC cI b_Model_fractions 3 R_Model (some .int)) {out : O_Model_fractions}  {ls : Array Slot} {H : Heap} {locs : List Loc} (h : f_Model_fractions v0 = some out) (hl : lv_has ls 3 [(0, .ref a0_0)]) (hP : va_P D classes (wd_Model_fractions cC cI a0_0 a0_1 a0_2 a0_3 a0_4 a0_5 a0_6 a0_7 v0) H) (hD : va_D A (wd_Model_fractions cC cI a0_0 a0_1 a0_2 a0_3 a0_4 a0_5 a0_6 a0_7 v0)) (hS : va_S A s.heap H locs) : W p l e rm_Model_fractions s m args below meth c H locs 0 0 (MQ below (q_Model_fractions D cC cI a0_0 a0_1 a0_2 a0_3 a0_4 a0_5 a0_6 a0_7 v0 out A) args s 0 0 A) (F0 m 0 ls []) := by
  obtain ⟨hx, hb, hml, hown, htB, ⟨hK, hN⟩, hZ, hA, hr, hlocks⟩ := id X
  refine lv_iconst (v := 0) hx hb d_Model_fractions_0 (by decide) ?_
  refine lv_istore_n (lv' := [(1, .int (0 : Int32)), (0, .ref a0_0)]) hx hb d_Model_fractions_1 rfl hl (by decide) rfl (fun ls hl => ?_)
  refine lv_iconst (v := 0) hx hb d_Model_fractions_2 (by decide) ?_
  refine lv_istore_n (lv' := [(2, .int (0 : Int32)), (1, .int (0 : Int32)), (0, .ref a0_0)]) hx hb d_Model_fractions_3 rfl hl (by decide) rfl (fun ls hl => ?_)
  exact w_Model_fractions_4 X FU (0 : Int32) (0 : Int32) ls H locs h (lv_sub hl [2, 1, 0] rfl) hP hD hS

set_option maxHeartbeats 4000000 in
set_option maxRecDepth 100000 in
theorem c_Model_fractions (l : Launch) (D : va_G) (cC cI : ClassId) (sz : Nat) (a0_0 a0_1 a0_2 a0_3 a0_4 a0_5 a0_6 a0_7 : Nat) (v0 : T_Model) (out : O_Model_fractions) (h : f_Model_fractions v0 = some out) : Met l y_Model_fractions (.code y_Model_fractions b_Model_fractions 3 (some .int) :: BIG) rm_Model_fractions (va_Pc [.ref a0_0] (xPre D cC cI (wd_Model_fractions cC cI a0_0 a0_1 a0_2 a0_3 a0_4 a0_5 a0_6 a0_7 v0) sz)) (q_Model_fractions D cC cI a0_0 a0_1 a0_2 a0_3 a0_4 a0_5 a0_6 a0_7 v0 out (va_A (wd_Model_fractions cC cI a0_0 a0_1 a0_2 a0_3 a0_4 a0_5 a0_6 a0_7 v0) sz)) 0 0 (va_A (wd_Model_fractions cC cI a0_0 a0_1 a0_2 a0_3 a0_4 a0_5 a0_6 a0_7 v0) sz) := by
  refine Met.ofW (cc := b_Model_fractions) (maxL := 3) (ret := (some .int)) (by decide) rfl ?_
  intro p e s m args below meth c s₁ B hml hv
  obtain ⟨rfl, rfl, hP, hD0, hG, hZ⟩ := hv
  have hl := lv_entry [.ref a0_0] (n := 3) (Nat.le_of_ble_eq_true rfl)
  rw [lg_entry_eq]
  exact w_Model_fractions (x_cx B hml hG hZ) h hl hP hD0.self va_S.rf

abbrev wd_Model_writeFraction (cC cI : ClassId) (a0_0 a0_1 a0_2 a0_3 a0_4 a0_5 a0_6 a0_7 : Nat) (v0 : T_Model) : va_W := [(a0_0, .inr (11, [.ref a0_1, .int v0.2.1, .ref a0_2, .int v0.2.2.2.1, .int v0.2.2.2.2.1, .int v0.2.2.2.2.2.1, .ref a0_3, .ref a0_4, .ref a0_5, .int v0.2.2.2.2.2.2.2.2.2.1, .int v0.2.2.2.2.2.2.2.2.2.2.1, .int v0.2.2.2.2.2.2.2.2.2.2.2.1, .int v0.2.2.2.2.2.2.2.2.2.2.2.2.1, .ref a0_6, .int v0.2.2.2.2.2.2.2.2.2.2.2.2.2.2.1, .int v0.2.2.2.2.2.2.2.2.2.2.2.2.2.2.2.1, .int v0.2.2.2.2.2.2.2.2.2.2.2.2.2.2.2.2.1, .ref a0_7, .long v0.2.2.2.2.2.2.2.2.2.2.2.2.2.2.2.2.2.2.1, .int v0.2.2.2.2.2.2.2.2.2.2.2.2.2.2.2.2.2.2.2.1, .long v0.2.2.2.2.2.2.2.2.2.2.2.2.2.2.2.2.2.2.2.2.1, .int v0.2.2.2.2.2.2.2.2.2.2.2.2.2.2.2.2.2.2.2.2.2.1, .int v0.2.2.2.2.2.2.2.2.2.2.2.2.2.2.2.2.2.2.2.2.2.2])), (a0_1, .inl (cC, 120, .inl v0.1)), (a0_2, .inl (cC, 200, .inl v0.2.2.1)), (a0_3, .inl (cI, 160, .inl v0.2.2.2.2.2.2.1)), (a0_4, .inl (cI, 4, .inl v0.2.2.2.2.2.2.2.1)), (a0_5, .inl (cI, 7, .inl v0.2.2.2.2.2.2.2.2.1)), (a0_6, .inl (cI, 40, .inl v0.2.2.2.2.2.2.2.2.2.2.2.2.2.1)), (a0_7, .inl (cI, 6, .inl v0.2.2.2.2.2.2.2.2.2.2.2.2.2.2.2.2.2.1))]
abbrev O_Model_writeFraction : Type := T_Model
abbrev q_Model_writeFraction (D : va_G) (cC cI : ClassId) (a0_0 a0_1 a0_2 a0_3 a0_4 a0_5 a0_6 a0_7 : Nat)  (out : O_Model_writeFraction) (A : Nat → Prop) : Array Value → State → Outcome → State → Prop := va_Qv (fun _ : Unit => True) (fun _ t => va_P D classes (wd_Model_writeFraction cC cI a0_0 a0_1 a0_2 a0_3 a0_4 a0_5 a0_6 a0_7 out) t.heap ∧ va_D A (wd_Model_writeFraction cC cI a0_0 a0_1 a0_2 a0_3 a0_4 a0_5 a0_6 a0_7 out)) A
abbrev rm_Model_writeFraction : Room := { frames := 1, cells := 0, slots := 0, locals := 22 }
def J_Model_writeFraction_10 (p : Program) (l : Launch) (e : Env) (s : State) (m : MethodId) (args : Array Value) (below : List Frame) (meth : Method) (c : Code) (A : Nat → Prop) (D : va_G) (cC cI : ClassId) (a0_0 a0_1 a0_2 a0_3 a0_4 a0_5 a0_6 a0_7 : Nat) (out : O_Model_writeFraction) (k : T_Model → Int32 → Option O_Model_writeFraction) : Prop := ∀ (v0 : T_Model) (x1 : Int32) (ls : Array Slot) (H : Heap) (locs : List Loc), k v0 x1 = some out → lv_has ls 4 [(0, .ref a0_0), (1, .int x1)] → va_P D classes (wd_Model_writeFraction cC cI a0_0 a0_1 a0_2 a0_3 a0_4 a0_5 a0_6 a0_7 v0) H → va_D A (wd_Model_writeFraction cC cI a0_0 a0_1 a0_2 a0_3 a0_4 a0_5 a0_6 a0_7 v0) → va_S A s.heap H locs → W p l e rm_Model_writeFraction s m args below meth c H locs 0 0 (MQ below (q_Model_writeFraction D cC cI a0_0 a0_1 a0_2 a0_3 a0_4 a0_5 a0_6 a0_7 out A) args s 0 0 A) (F0 m 10 ls [])
def J_Model_writeFraction_22 (p : Program) (l : Launch) (e : Env) (s : State) (m : MethodId) (args : Array Value) (below : List Frame) (meth : Method) (c : Code) (A : Nat → Prop) (D : va_G) (cC cI : ClassId) (a0_0 a0_1 a0_2 a0_3 a0_4 a0_5 a0_6 a0_7 : Nat) (out : O_Model_writeFraction) (k : T_Model → Int32 → Int32 → Option O_Model_writeFraction) : Prop := ∀ (v0 : T_Model) (x1 : Int32) (x2 : Int32) (ls : Array Slot) (H : Heap) (locs : List Loc), k v0 x1 x2 = some out → lv_has ls 4 [(0, .ref a0_0), (1, .int x1), (2, .int x2)] → va_P D classes (wd_Model_writeFraction cC cI a0_0 a0_1 a0_2 a0_3 a0_4 a0_5 a0_6 a0_7 v0) H → va_D A (wd_Model_writeFraction cC cI a0_0 a0_1 a0_2 a0_3 a0_4 a0_5 a0_6 a0_7 v0) → va_S A s.heap H locs → W p l e rm_Model_writeFraction s m args below meth c H locs 0 0 (MQ below (q_Model_writeFraction D cC cI a0_0 a0_1 a0_2 a0_3 a0_4 a0_5 a0_6 a0_7 out A) args s 0 0 A) (F0 m 22 ls [])
def J_Model_writeFraction_43 (p : Program) (l : Launch) (e : Env) (s : State) (m : MethodId) (args : Array Value) (below : List Frame) (meth : Method) (c : Code) (A : Nat → Prop) (D : va_G) (cC cI : ClassId) (a0_0 a0_1 a0_2 a0_3 a0_4 a0_5 a0_6 a0_7 : Nat) (out : O_Model_writeFraction) (k : T_Model → Int32 → Int32 → Int32 → Option O_Model_writeFraction) : Prop := ∀ (v0 : T_Model) (x1 : Int32) (x2 : Int32) (s0 : Int32) (ls : Array Slot) (H : Heap) (locs : List Loc), k v0 x1 x2 s0 = some out → lv_has ls 4 [(0, .ref a0_0), (1, .int x1), (2, .int x2)] → va_P D classes (wd_Model_writeFraction cC cI a0_0 a0_1 a0_2 a0_3 a0_4 a0_5 a0_6 a0_7 v0) H → va_D A (wd_Model_writeFraction cC cI a0_0 a0_1 a0_2 a0_3 a0_4 a0_5 a0_6 a0_7 v0) → va_S A s.heap H locs → W p l e rm_Model_writeFraction s m args below meth c H locs 0 0 (MQ below (q_Model_writeFraction D cC cI a0_0 a0_1 a0_2 a0_3 a0_4 a0_5 a0_6 a0_7 out A) args s 0 0 A) (F0 m 43 ls [.int s0])
def f_Model_writeFraction_43 (k22 : T_Model → Int32 → Int32 → Option O_Model_writeFraction) (v0 : T_Model) (x1 : Int32) (x2 : Int32) (s0 : Int32) : Option O_Model_writeFraction := (f_Model_write v0 ((48 : Int32) + s0)).bind (fun o49 => k22 o49 x1 (x2 + (1 : Int32)))
set_option maxHeartbeats 4000000 in
set_option maxRecDepth 100000 in
theorem w_Model_writeFraction_43 {p : Program} {l : Launch} {e : Env} {s : State} {m : MethodId} {args : Array Value} {below : List Frame} {meth : Method} {c : Code} {A : Nat → Prop} {D : va_G} {cC cI : ClassId} {a0_0 a0_1 a0_2 a0_3 a0_4 a0_5 a0_6 a0_7 : Nat} (X : xCX p s m args meth c A D cC cI b_Model_writeFraction 4 R_Model none) {out : O_Model_writeFraction} {k22 : T_Model → Int32 → Int32 → Option O_Model_writeFraction} (hk22 : J_Model_writeFraction_22 p l e s m args below meth c A D cC cI a0_0 a0_1 a0_2 a0_3 a0_4 a0_5 a0_6 a0_7 out k22) : J_Model_writeFraction_43 p l e s m args below meth c A D cC cI a0_0 a0_1 a0_2 a0_3 a0_4 a0_5 a0_6 a0_7 out (f_Model_writeFraction_43  k22) := by
  obtain ⟨hx, hb, hml, hown, htB, ⟨hK, hN⟩, hZ, hA, hr, hlocks⟩ := id X
  intro v0 x1 x2 s0 ls H locs h hl hP hD hS
  refine lv_istore_n (lv' := [(3, .int s0), (0, .ref a0_0), (1, .int x1), (2, .int x2)]) hx hb d_Model_writeFraction_43 rfl hl (by decide) rfl (fun ls hl => ?_)
  refine lv_aload_n hx hb d_Model_writeFraction_44 rfl (lv_at hl 1 rfl) ?_
  refine lv_bipush (v := 48) hx hb d_Model_writeFraction_45 (by decide) ?_
  refine lv_iload_n hx hb d_Model_writeFraction_47 rfl (lv_at hl 0 rfl) ?_
  refine lv_iadd hx hb d_Model_writeFraction_48 ?_
  obtain ⟨o49, ho49, h⟩ := x_bnd h
  refine x_callv (ws2 := (wd_Model_writeFraction cC cI a0_0 a0_1 a0_2 a0_3 a0_4 a0_5 a0_6 a0_7 o49)) (x_runV (As := [.int ((48 : Int32) + s0)]) (rest := []) X (c_Model_write l D cC cI H.size a0_0 a0_1 a0_2 a0_3 a0_4 a0_5 a0_6 a0_7 v0 ((48 : Int32) + s0) o49 ho49) b_378 1 (htB _ b_381) (htB _ b_379) (htB _ b_380) (htB _ b_319) ⟨by decide, by decide, by decide +kernel⟩ ⟨(Nat.le_of_ble_eq_true rfl), (Nat.le_of_ble_eq_true rfl)⟩ 0 rfl rfl hP hD hS [0, 1, 2, 3, 4, 5, 6, 7] rfl (by decide) rfl rfl hl.1 rfl rfl (Nat.le_of_ble_eq_true rfl) d_Model_writeFraction_49) hP hD hS hA [0, 1, 2, 3, 4, 5, 6, 7] [] [0, 1, 2, 3, 4, 5, 6, 7] rfl rfl (by decide) (by decide) rfl (by decide) (fun H locs hP hD hS => ?_)
  refine lv_iinc (k := 3) (v := (x2 + (1 : Int32))) (lv' := [(2, .int (x2 + (1 : Int32))), (3, .int s0), (0, .ref a0_0), (1, .int x1)]) hx hb d_Model_writeFraction_52 hl rfl (congrArg (fun z => x2 + z) (by decide : Int32.ofInt 1 = (1 : Int32))) (by decide) rfl (fun ls hl => ?_)
  refine lv_goto (tgt := 22) hx hb d_Model_writeFraction_55 rfl ?_
  exact hk22 o49 x1 (x2 + (1 : Int32)) ls H locs h (lv_sub hl [2, 3, 0] rfl) hP hD hS

def f_Model_writeFraction_22   : Nat → T_Model → Int32 → Int32 → Option O_Model_writeFraction
  | 0, _, _, _ => none
  | n + 1, v0, x1, x2 => (if x1 ≤ x2 then some (v0.1, v0.2.1, v0.2.2.1, v0.2.2.2.1, v0.2.2.2.2.1, v0.2.2.2.2.2.1, v0.2.2.2.2.2.2.1, v0.2.2.2.2.2.2.2.1, v0.2.2.2.2.2.2.2.2.1, v0.2.2.2.2.2.2.2.2.2.1, v0.2.2.2.2.2.2.2.2.2.2.1, v0.2.2.2.2.2.2.2.2.2.2.2.1, v0.2.2.2.2.2.2.2.2.2.2.2.2.1, v0.2.2.2.2.2.2.2.2.2.2.2.2.2.1, v0.2.2.2.2.2.2.2.2.2.2.2.2.2.2.1, v0.2.2.2.2.2.2.2.2.2.2.2.2.2.2.2.1, v0.2.2.2.2.2.2.2.2.2.2.2.2.2.2.2.2.1, (upd v0.2.2.2.2.2.2.2.2.2.2.2.2.2.2.2.2.2.1 (3 : Int32).toNatClampNeg v0.2.2.2.1), v0.2.2.2.2.2.2.2.2.2.2.2.2.2.2.2.2.2.2.1, v0.2.2.2.2.2.2.2.2.2.2.2.2.2.2.2.2.2.2.2.1, v0.2.2.2.2.2.2.2.2.2.2.2.2.2.2.2.2.2.2.2.2.1, v0.2.2.2.2.2.2.2.2.2.2.2.2.2.2.2.2.2.2.2.2.2.1, v0.2.2.2.2.2.2.2.2.2.2.2.2.2.2.2.2.2.2.2.2.2.2) else (if v0.2.2.2.2.2.2.2.2.2.2.2.2.2.2.1 ≤ 0 then f_Model_writeFraction_43 (f_Model_writeFraction_22  n) v0 x1 x2 (0 : Int32) else (f_Model_placed v0 x2).bind (fun o36 => f_Model_writeFraction_43 (f_Model_writeFraction_22  n) v0 x1 x2 o36)))
set_option maxHeartbeats 4000000 in
set_option maxRecDepth 100000 in
theorem w_Model_writeFraction_22 {p : Program} {l : Launch} {e : Env} {s : State} {m : MethodId} {args : Array Value} {below : List Frame} {meth : Method} {c : Code} {A : Nat → Prop} {D : va_G} {cC cI : ClassId} {a0_0 a0_1 a0_2 a0_3 a0_4 a0_5 a0_6 a0_7 : Nat} (X : xCX p s m args meth c A D cC cI b_Model_writeFraction 4 R_Model none) {out : O_Model_writeFraction}   : ∀ n : Nat, J_Model_writeFraction_22 p l e s m args below meth c A D cC cI a0_0 a0_1 a0_2 a0_3 a0_4 a0_5 a0_6 a0_7 out (f_Model_writeFraction_22   n) := by
  obtain ⟨hx, hb, hml, hown, htB, ⟨hK, hN⟩, hZ, hA, hr, hlocks⟩ := id X
  intro n
  induction n with
  | zero =>
    intro v0 x1 x2 ls H locs h hl hP hD hS
    cases h
  | succ n ih =>
    intro v0 x1 x2 ls H locs h hl hP hD hS
    refine lv_iload_n hx hb d_Model_writeFraction_22 rfl (lv_at hl 2 rfl) ?_
    refine lv_iload_n hx hb d_Model_writeFraction_23 rfl (lv_at hl 1 rfl) ?_
    refine lv_icmp_ge (tgt := 58) hx hb d_Model_writeFraction_24 rfl (fun hc => ?_) (fun hc => ?_)
    · have h := (if_pos hc).symm.trans h
      refine lv_aload_n hx hb d_Model_writeFraction_58 rfl (lv_at hl 0 rfl) ?_
      refine va_get (D := D) (ci := 11) (v := .ref a0_7) (C := R_Model) (T := F_Model) (N := 23) hx hb htB in_Model hown hK hP 0 rfl rfl 17 (by decide) (htB _ b_395) (fun _ h9 => h9) rfl d_Model_writeFraction_59 ?_
      refine lv_iconst (v := 3) hx hb d_Model_writeFraction_62 (by decide) ?_
      refine lv_aload_n hx hb d_Model_writeFraction_63 rfl (lv_at hl 0 rfl) ?_
      refine va_get (D := D) (ci := 11) (v := .int v0.2.2.2.1) (C := R_Model) (T := F_Model) (N := 23) hx hb htB in_Model hown hK hP 0 rfl rfl 3 (by decide) (htB _ b_311) (fun _ h9 => h9) rfl d_Model_writeFraction_64 ?_
      refine va_iast hx hb hK hP hD hS 7 1 rfl rfl (show ¬ (((3 : Int32) : Int32) < 0 ∨ 6 ≤ ((3 : Int32) : Int32).toNatClampNeg) by decide) d_Model_writeFraction_67 (fun H locs hP hD hS => ?_)
      have hP : va_P D classes (wd_Model_writeFraction cC cI a0_0 a0_1 a0_2 a0_3 a0_4 a0_5 a0_6 a0_7 (v0.1, v0.2.1, v0.2.2.1, v0.2.2.2.1, v0.2.2.2.2.1, v0.2.2.2.2.2.1, v0.2.2.2.2.2.2.1, v0.2.2.2.2.2.2.2.1, v0.2.2.2.2.2.2.2.2.1, v0.2.2.2.2.2.2.2.2.2.1, v0.2.2.2.2.2.2.2.2.2.2.1, v0.2.2.2.2.2.2.2.2.2.2.2.1, v0.2.2.2.2.2.2.2.2.2.2.2.2.1, v0.2.2.2.2.2.2.2.2.2.2.2.2.2.1, v0.2.2.2.2.2.2.2.2.2.2.2.2.2.2.1, v0.2.2.2.2.2.2.2.2.2.2.2.2.2.2.2.1, v0.2.2.2.2.2.2.2.2.2.2.2.2.2.2.2.2.1, (upd v0.2.2.2.2.2.2.2.2.2.2.2.2.2.2.2.2.2.1 (3 : Int32).toNatClampNeg v0.2.2.2.1), v0.2.2.2.2.2.2.2.2.2.2.2.2.2.2.2.2.2.2.1, v0.2.2.2.2.2.2.2.2.2.2.2.2.2.2.2.2.2.2.2.1, v0.2.2.2.2.2.2.2.2.2.2.2.2.2.2.2.2.2.2.2.2.1, v0.2.2.2.2.2.2.2.2.2.2.2.2.2.2.2.2.2.2.2.2.2.1, v0.2.2.2.2.2.2.2.2.2.2.2.2.2.2.2.2.2.2.2.2.2.2)) H := hP
      have hD : va_D A (wd_Model_writeFraction cC cI a0_0 a0_1 a0_2 a0_3 a0_4 a0_5 a0_6 a0_7 (v0.1, v0.2.1, v0.2.2.1, v0.2.2.2.1, v0.2.2.2.2.1, v0.2.2.2.2.2.1, v0.2.2.2.2.2.2.1, v0.2.2.2.2.2.2.2.1, v0.2.2.2.2.2.2.2.2.1, v0.2.2.2.2.2.2.2.2.2.1, v0.2.2.2.2.2.2.2.2.2.2.1, v0.2.2.2.2.2.2.2.2.2.2.2.1, v0.2.2.2.2.2.2.2.2.2.2.2.2.1, v0.2.2.2.2.2.2.2.2.2.2.2.2.2.1, v0.2.2.2.2.2.2.2.2.2.2.2.2.2.2.1, v0.2.2.2.2.2.2.2.2.2.2.2.2.2.2.2.1, v0.2.2.2.2.2.2.2.2.2.2.2.2.2.2.2.2.1, (upd v0.2.2.2.2.2.2.2.2.2.2.2.2.2.2.2.2.2.1 (3 : Int32).toNatClampNeg v0.2.2.2.1), v0.2.2.2.2.2.2.2.2.2.2.2.2.2.2.2.2.2.2.1, v0.2.2.2.2.2.2.2.2.2.2.2.2.2.2.2.2.2.2.2.1, v0.2.2.2.2.2.2.2.2.2.2.2.2.2.2.2.2.2.2.2.2.1, v0.2.2.2.2.2.2.2.2.2.2.2.2.2.2.2.2.2.2.2.2.2.1, v0.2.2.2.2.2.2.2.2.2.2.2.2.2.2.2.2.2.2.2.2.2.2)) := hD
      obtain rfl := Option.some.inj h
      exact W.vret hx hb hr (fun t ht hW => ⟨⟨(), rfl, trivial, by rw [ht]; exact hP, hD⟩, hS.F ht⟩) hS.2.2 d_Model_writeFraction_68 hlocks
    have h := (if_neg hc).symm.trans h
    refine lv_aload_n hx hb d_Model_writeFraction_27 rfl (lv_at hl 0 rfl) ?_
    refine va_get (D := D) (ci := 11) (v := .int v0.2.2.2.2.2.2.2.2.2.2.2.2.2.2.1) (C := R_Model) (T := F_Model) (N := 23) hx hb htB in_Model hown hK hP 0 rfl rfl 14 (by decide) (htB _ b_382) (fun _ h9 => h9) rfl d_Model_writeFraction_28 ?_
    refine lv_if_le (tgt := 42) hx hb d_Model_writeFraction_31 rfl (fun hc => ?_) (fun hc => ?_)
    · have h := (if_pos hc).symm.trans h
      refine lv_iconst (v := 0) hx hb d_Model_writeFraction_42 (by decide) ?_
      exact w_Model_writeFraction_43 X ih v0 x1 x2 (0 : Int32) ls H locs h (lv_sub hl [0, 1, 2] rfl) hP hD hS
    have h := (if_neg hc).symm.trans h
    refine lv_aload_n hx hb d_Model_writeFraction_34 rfl (lv_at hl 0 rfl) ?_
    refine lv_iload_n hx hb d_Model_writeFraction_35 rfl (lv_at hl 2 rfl) ?_
    obtain ⟨o36, ho36, h⟩ := x_bnd h
    refine x_calli (r0 := o36) (ws2 := (wd_Model_writeFraction cC cI a0_0 a0_1 a0_2 a0_3 a0_4 a0_5 a0_6 a0_7 v0)) (x_runV (As := [.int x2]) (rest := []) X (c_Model_placed l D cC cI H.size a0_0 a0_1 a0_2 a0_3 a0_4 a0_5 a0_6 a0_7 v0 x2 o36 ho36) b_396 1 (htB _ b_399) (htB _ b_397) (htB _ b_398) (htB _ b_319) ⟨by decide, by decide, by decide +kernel⟩ ⟨(Nat.le_of_ble_eq_true rfl), (Nat.le_of_ble_eq_true rfl)⟩ 0 rfl rfl hP hD hS [0, 1, 2, 3, 4, 5, 6, 7] rfl (by decide) rfl rfl hl.1 rfl rfl (Nat.le_of_ble_eq_true rfl) d_Model_writeFraction_36) hP hD hS hA [0, 1, 2, 3, 4, 5, 6, 7] [] [0, 1, 2, 3, 4, 5, 6, 7] rfl rfl (by decide) (by decide) rfl (by decide) (fun H locs hP hD hS => ?_)
    refine lv_goto (tgt := 43) hx hb d_Model_writeFraction_39 rfl ?_
    exact w_Model_writeFraction_43 X ih v0 x1 x2 o36 ls H locs h (lv_sub hl [0, 1, 2] rfl) hP hD hS

def f_Model_writeFraction_10 (v0 : T_Model) (x1 : Int32) : Option O_Model_writeFraction := f_Model_writeFraction_22 FU (v0.1, v0.2.1, v0.2.2.1, v0.2.2.2.1, v0.2.2.2.2.1, v0.2.2.2.2.2.1, v0.2.2.2.2.2.2.1, v0.2.2.2.2.2.2.2.1, v0.2.2.2.2.2.2.2.2.1, v0.2.2.2.2.2.2.2.2.2.1, v0.2.2.2.2.2.2.2.2.2.2.1, v0.2.2.2.2.2.2.2.2.2.2.2.1, v0.2.2.2.2.2.2.2.2.2.2.2.2.1, v0.2.2.2.2.2.2.2.2.2.2.2.2.2.1, v0.2.2.2.2.2.2.2.2.2.2.2.2.2.2.1, v0.2.2.2.2.2.2.2.2.2.2.2.2.2.2.2.1, v0.2.2.2.2.2.2.2.2.2.2.2.2.2.2.2.2.1, (upd v0.2.2.2.2.2.2.2.2.2.2.2.2.2.2.2.2.2.1 (2 : Int32).toNatClampNeg v0.2.2.2.1), v0.2.2.2.2.2.2.2.2.2.2.2.2.2.2.2.2.2.2.1, v0.2.2.2.2.2.2.2.2.2.2.2.2.2.2.2.2.2.2.2.1, v0.2.2.2.2.2.2.2.2.2.2.2.2.2.2.2.2.2.2.2.2.1, v0.2.2.2.2.2.2.2.2.2.2.2.2.2.2.2.2.2.2.2.2.2.1, v0.2.2.2.2.2.2.2.2.2.2.2.2.2.2.2.2.2.2.2.2.2.2) x1 (0 : Int32)
set_option maxHeartbeats 4000000 in
set_option maxRecDepth 100000 in
theorem w_Model_writeFraction_10 {p : Program} {l : Launch} {e : Env} {s : State} {m : MethodId} {args : Array Value} {below : List Frame} {meth : Method} {c : Code} {A : Nat → Prop} {D : va_G} {cC cI : ClassId} {a0_0 a0_1 a0_2 a0_3 a0_4 a0_5 a0_6 a0_7 : Nat} (X : xCX p s m args meth c A D cC cI b_Model_writeFraction 4 R_Model none) {out : O_Model_writeFraction}   : J_Model_writeFraction_10 p l e s m args below meth c A D cC cI a0_0 a0_1 a0_2 a0_3 a0_4 a0_5 a0_6 a0_7 out (f_Model_writeFraction_10  ) := by
  obtain ⟨hx, hb, hml, hown, htB, ⟨hK, hN⟩, hZ, hA, hr, hlocks⟩ := id X
  intro v0 x1 ls H locs h hl hP hD hS
  refine lv_aload_n hx hb d_Model_writeFraction_10 rfl (lv_at hl 0 rfl) ?_
  refine va_get (D := D) (ci := 11) (v := .ref a0_7) (C := R_Model) (T := F_Model) (N := 23) hx hb htB in_Model hown hK hP 0 rfl rfl 17 (by decide) (htB _ b_395) (fun _ h9 => h9) rfl d_Model_writeFraction_11 ?_
  refine lv_iconst (v := 2) hx hb d_Model_writeFraction_14 (by decide) ?_
  refine lv_aload_n hx hb d_Model_writeFraction_15 rfl (lv_at hl 0 rfl) ?_
  refine va_get (D := D) (ci := 11) (v := .int v0.2.2.2.1) (C := R_Model) (T := F_Model) (N := 23) hx hb htB in_Model hown hK hP 0 rfl rfl 3 (by decide) (htB _ b_311) (fun _ h9 => h9) rfl d_Model_writeFraction_16 ?_
  refine va_iast hx hb hK hP hD hS 7 1 rfl rfl (show ¬ (((2 : Int32) : Int32) < 0 ∨ 6 ≤ ((2 : Int32) : Int32).toNatClampNeg) by decide) d_Model_writeFraction_19 (fun H locs hP hD hS => ?_)
  have hP : va_P D classes (wd_Model_writeFraction cC cI a0_0 a0_1 a0_2 a0_3 a0_4 a0_5 a0_6 a0_7 (v0.1, v0.2.1, v0.2.2.1, v0.2.2.2.1, v0.2.2.2.2.1, v0.2.2.2.2.2.1, v0.2.2.2.2.2.2.1, v0.2.2.2.2.2.2.2.1, v0.2.2.2.2.2.2.2.2.1, v0.2.2.2.2.2.2.2.2.2.1, v0.2.2.2.2.2.2.2.2.2.2.1, v0.2.2.2.2.2.2.2.2.2.2.2.1, v0.2.2.2.2.2.2.2.2.2.2.2.2.1, v0.2.2.2.2.2.2.2.2.2.2.2.2.2.1, v0.2.2.2.2.2.2.2.2.2.2.2.2.2.2.1, v0.2.2.2.2.2.2.2.2.2.2.2.2.2.2.2.1, v0.2.2.2.2.2.2.2.2.2.2.2.2.2.2.2.2.1, (upd v0.2.2.2.2.2.2.2.2.2.2.2.2.2.2.2.2.2.1 (2 : Int32).toNatClampNeg v0.2.2.2.1), v0.2.2.2.2.2.2.2.2.2.2.2.2.2.2.2.2.2.2.1, v0.2.2.2.2.2.2.2.2.2.2.2.2.2.2.2.2.2.2.2.1, v0.2.2.2.2.2.2.2.2.2.2.2.2.2.2.2.2.2.2.2.2.1, v0.2.2.2.2.2.2.2.2.2.2.2.2.2.2.2.2.2.2.2.2.2.1, v0.2.2.2.2.2.2.2.2.2.2.2.2.2.2.2.2.2.2.2.2.2.2)) H := hP
  have hD : va_D A (wd_Model_writeFraction cC cI a0_0 a0_1 a0_2 a0_3 a0_4 a0_5 a0_6 a0_7 (v0.1, v0.2.1, v0.2.2.1, v0.2.2.2.1, v0.2.2.2.2.1, v0.2.2.2.2.2.1, v0.2.2.2.2.2.2.1, v0.2.2.2.2.2.2.2.1, v0.2.2.2.2.2.2.2.2.1, v0.2.2.2.2.2.2.2.2.2.1, v0.2.2.2.2.2.2.2.2.2.2.1, v0.2.2.2.2.2.2.2.2.2.2.2.1, v0.2.2.2.2.2.2.2.2.2.2.2.2.1, v0.2.2.2.2.2.2.2.2.2.2.2.2.2.1, v0.2.2.2.2.2.2.2.2.2.2.2.2.2.2.1, v0.2.2.2.2.2.2.2.2.2.2.2.2.2.2.2.1, v0.2.2.2.2.2.2.2.2.2.2.2.2.2.2.2.2.1, (upd v0.2.2.2.2.2.2.2.2.2.2.2.2.2.2.2.2.2.1 (2 : Int32).toNatClampNeg v0.2.2.2.1), v0.2.2.2.2.2.2.2.2.2.2.2.2.2.2.2.2.2.2.1, v0.2.2.2.2.2.2.2.2.2.2.2.2.2.2.2.2.2.2.2.1, v0.2.2.2.2.2.2.2.2.2.2.2.2.2.2.2.2.2.2.2.2.1, v0.2.2.2.2.2.2.2.2.2.2.2.2.2.2.2.2.2.2.2.2.2.1, v0.2.2.2.2.2.2.2.2.2.2.2.2.2.2.2.2.2.2.2.2.2.2)) := hD
  refine lv_iconst (v := 0) hx hb d_Model_writeFraction_20 (by decide) ?_
  refine lv_istore_n (lv' := [(2, .int (0 : Int32)), (0, .ref a0_0), (1, .int x1)]) hx hb d_Model_writeFraction_21 rfl hl (by decide) rfl (fun ls hl => ?_)
  exact w_Model_writeFraction_22 X FU (v0.1, v0.2.1, v0.2.2.1, v0.2.2.2.1, v0.2.2.2.2.1, v0.2.2.2.2.2.1, v0.2.2.2.2.2.2.1, v0.2.2.2.2.2.2.2.1, v0.2.2.2.2.2.2.2.2.1, v0.2.2.2.2.2.2.2.2.2.1, v0.2.2.2.2.2.2.2.2.2.2.1, v0.2.2.2.2.2.2.2.2.2.2.2.1, v0.2.2.2.2.2.2.2.2.2.2.2.2.1, v0.2.2.2.2.2.2.2.2.2.2.2.2.2.1, v0.2.2.2.2.2.2.2.2.2.2.2.2.2.2.1, v0.2.2.2.2.2.2.2.2.2.2.2.2.2.2.2.1, v0.2.2.2.2.2.2.2.2.2.2.2.2.2.2.2.2.1, (upd v0.2.2.2.2.2.2.2.2.2.2.2.2.2.2.2.2.2.1 (2 : Int32).toNatClampNeg v0.2.2.2.1), v0.2.2.2.2.2.2.2.2.2.2.2.2.2.2.2.2.2.2.1, v0.2.2.2.2.2.2.2.2.2.2.2.2.2.2.2.2.2.2.2.1, v0.2.2.2.2.2.2.2.2.2.2.2.2.2.2.2.2.2.2.2.2.1, v0.2.2.2.2.2.2.2.2.2.2.2.2.2.2.2.2.2.2.2.2.2.1, v0.2.2.2.2.2.2.2.2.2.2.2.2.2.2.2.2.2.2.2.2.2.2) x1 (0 : Int32) ls H locs h (lv_sub hl [1, 2, 0] rfl) hP hD hS

def f_Model_writeFraction (v0 : T_Model) (v1 : Int32) : Option O_Model_writeFraction := (if v1 ≤ 0 then f_Model_writeFraction_10 v0 v1 else (f_Model_write v0 (46 : Int32)).bind (fun o7 => f_Model_writeFraction_10 o7 v1))
set_option maxHeartbeats 4000000 in
set_option maxRecDepth 100000 in
theorem w_Model_writeFraction {p : Program} {l : Launch} {e : Env} {s : State} {m : MethodId} {args : Array Value} {below : List Frame} {meth : Method} {c : Code} {A : Nat → Prop} {D : va_G} {cC cI : ClassId} {a0_0 a0_1 a0_2 a0_3 a0_4 a0_5 a0_6 a0_7 : Nat} (X : xCX p s m args meth c A D cC cI b_Model_writeFraction 4 R_Model none) {out : O_Model_writeFraction} (v0 : T_Model) (v1 : Int32) {ls : Array Slot} {H : Heap} {locs : List Loc} (h : f_Model_writeFraction v0 v1 = some out) (hl : lv_has ls 4 [(0, .ref a0_0), (1, .int v1)]) (hP : va_P D classes (wd_Model_writeFraction cC cI a0_0 a0_1 a0_2 a0_3 a0_4 a0_5 a0_6 a0_7 v0) H) (hD : va_D A (wd_Model_writeFraction cC cI a0_0 a0_1 a0_2 a0_3 a0_4 a0_5 a0_6 a0_7 v0)) (hS : va_S A s.heap H locs) : W p l e rm_Model_writeFraction s m args below meth c H locs 0 0 (MQ below (q_Model_writeFraction D cC cI a0_0 a0_1 a0_2 a0_3 a0_4 a0_5 a0_6 a0_7 out A) args s 0 0 A) (F0 m 0 ls []) := by
  obtain ⟨hx, hb, hml, hown, htB, ⟨hK, hN⟩, hZ, hA, hr, hlocks⟩ := id X
  refine lv_iload_n hx hb d_Model_writeFraction_0 rfl (lv_at hl 1 rfl) ?_
  refine lv_if_le (tgt := 10) hx hb d_Model_writeFraction_1 rfl (fun hc => ?_) (fun hc => ?_)
  · have h := (if_pos hc).symm.trans h
    exact w_Model_writeFraction_10 X v0 v1 ls H locs h (lv_sub hl [0, 1] rfl) hP hD hS
  have h := (if_neg hc).symm.trans h
  refine lv_aload_n hx hb d_Model_writeFraction_4 rfl (lv_at hl 0 rfl) ?_
  refine lv_bipush (v := 46) hx hb d_Model_writeFraction_5 (by decide) ?_
  obtain ⟨o7, ho7, h⟩ := x_bnd h
  refine x_callv (ws2 := (wd_Model_writeFraction cC cI a0_0 a0_1 a0_2 a0_3 a0_4 a0_5 a0_6 a0_7 o7)) (x_runV (As := [.int (46 : Int32)]) (rest := []) X (c_Model_write l D cC cI H.size a0_0 a0_1 a0_2 a0_3 a0_4 a0_5 a0_6 a0_7 v0 (46 : Int32) o7 ho7) b_378 1 (htB _ b_381) (htB _ b_379) (htB _ b_380) (htB _ b_319) ⟨by decide, by decide, by decide +kernel⟩ ⟨(Nat.le_of_ble_eq_true rfl), (Nat.le_of_ble_eq_true rfl)⟩ 0 rfl rfl hP hD hS [0, 1, 2, 3, 4, 5, 6, 7] rfl (by decide) rfl rfl hl.1 rfl rfl (Nat.le_of_ble_eq_true rfl) d_Model_writeFraction_7) hP hD hS hA [0, 1, 2, 3, 4, 5, 6, 7] [] [0, 1, 2, 3, 4, 5, 6, 7] rfl rfl (by decide) (by decide) rfl (by decide) (fun H locs hP hD hS => ?_)
  exact w_Model_writeFraction_10 X o7 v1 ls H locs h (lv_sub hl [0, 1] rfl) hP hD hS

set_option maxHeartbeats 4000000 in
set_option maxRecDepth 100000 in
theorem c_Model_writeFraction (l : Launch) (D : va_G) (cC cI : ClassId) (sz : Nat) (a0_0 a0_1 a0_2 a0_3 a0_4 a0_5 a0_6 a0_7 : Nat) (v0 : T_Model) (v1 : Int32) (out : O_Model_writeFraction) (h : f_Model_writeFraction v0 v1 = some out) : Met l y_Model_writeFraction (.code y_Model_writeFraction b_Model_writeFraction 4 none :: BIG) rm_Model_writeFraction (va_Pc [.ref a0_0, .int v1] (xPre D cC cI (wd_Model_writeFraction cC cI a0_0 a0_1 a0_2 a0_3 a0_4 a0_5 a0_6 a0_7 v0) sz)) (q_Model_writeFraction D cC cI a0_0 a0_1 a0_2 a0_3 a0_4 a0_5 a0_6 a0_7 out (va_A (wd_Model_writeFraction cC cI a0_0 a0_1 a0_2 a0_3 a0_4 a0_5 a0_6 a0_7 v0) sz)) 0 0 (va_A (wd_Model_writeFraction cC cI a0_0 a0_1 a0_2 a0_3 a0_4 a0_5 a0_6 a0_7 v0) sz) := by
  refine Met.ofW (cc := b_Model_writeFraction) (maxL := 4) (ret := none) (by decide) rfl ?_
  intro p e s m args below meth c s₁ B hml hv
  obtain ⟨rfl, rfl, hP, hD0, hG, hZ⟩ := hv
  have hl := lv_entry [.ref a0_0, .int v1] (n := 4) (Nat.le_of_ble_eq_true rfl)
  rw [lg_entry_eq]
  exact w_Model_writeFraction (x_cx B hml hG hZ) v0 v1 h hl hP hD0.self va_S.rf

