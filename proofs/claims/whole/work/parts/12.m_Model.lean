abbrev wd_Model_out (cC cI : ClassId) (a0_0 a0_1 a0_2 a0_3 a0_4 a0_5 a0_6 a0_7 : Nat) (v0 : T_Model) : va_W := [(a0_0, .inr (11, [.ref a0_1, .int v0.2.1, .ref a0_2, .int v0.2.2.2.1, .int v0.2.2.2.2.1, .int v0.2.2.2.2.2.1, .ref a0_3, .ref a0_4, .ref a0_5, .int v0.2.2.2.2.2.2.2.2.2.1, .int v0.2.2.2.2.2.2.2.2.2.2.1, .int v0.2.2.2.2.2.2.2.2.2.2.2.1, .int v0.2.2.2.2.2.2.2.2.2.2.2.2.1, .ref a0_6, .int v0.2.2.2.2.2.2.2.2.2.2.2.2.2.2.1, .int v0.2.2.2.2.2.2.2.2.2.2.2.2.2.2.2.1, .int v0.2.2.2.2.2.2.2.2.2.2.2.2.2.2.2.2.1, .ref a0_7, .long v0.2.2.2.2.2.2.2.2.2.2.2.2.2.2.2.2.2.2.1, .int v0.2.2.2.2.2.2.2.2.2.2.2.2.2.2.2.2.2.2.2.1, .long v0.2.2.2.2.2.2.2.2.2.2.2.2.2.2.2.2.2.2.2.2.1, .int v0.2.2.2.2.2.2.2.2.2.2.2.2.2.2.2.2.2.2.2.2.2.1, .int v0.2.2.2.2.2.2.2.2.2.2.2.2.2.2.2.2.2.2.2.2.2.2])), (a0_1, .inl (cC, 120, .inl v0.1)), (a0_2, .inl (cC, 200, .inl v0.2.2.1)), (a0_3, .inl (cI, 160, .inl v0.2.2.2.2.2.2.1)), (a0_4, .inl (cI, 4, .inl v0.2.2.2.2.2.2.2.1)), (a0_5, .inl (cI, 7, .inl v0.2.2.2.2.2.2.2.2.1)), (a0_6, .inl (cI, 40, .inl v0.2.2.2.2.2.2.2.2.2.2.2.2.2.1)), (a0_7, .inl (cI, 6, .inl v0.2.2.2.2.2.2.2.2.2.2.2.2.2.2.2.2.2.1))]
abbrev O_Model_out : Type := Int32
abbrev q_Model_out (D : va_G) (cC cI : ClassId) (a0_0 a0_1 a0_2 a0_3 a0_4 a0_5 a0_6 a0_7 : Nat) (v0 : T_Model) (out : O_Model_out) (A : Nat → Prop) : Array Value → State → Outcome → State → Prop := va_Qi (fun r (_ : Unit) => r = out) (fun _ t => va_P D classes (wd_Model_out cC cI a0_0 a0_1 a0_2 a0_3 a0_4 a0_5 a0_6 a0_7 v0) t.heap ∧ va_D A (wd_Model_out cC cI a0_0 a0_1 a0_2 a0_3 a0_4 a0_5 a0_6 a0_7 v0)) A
abbrev rm_Model_out : Room := { frames := 0, cells := 0, slots := 0, locals := 0 }
def J_Model_out_12 (p : Program) (l : Launch) (e : Env) (s : State) (m : MethodId) (args : Array Value) (below : List Frame) (meth : Method) (c : Code) (A : Nat → Prop) (D : va_G) (cC cI : ClassId) (a0_0 a0_1 a0_2 a0_3 a0_4 a0_5 a0_6 a0_7 : Nat) (v0 : T_Model) (out : O_Model_out) (k : Option O_Model_out) : Prop := ∀  (ls : Array Slot) (H : Heap) (locs : List Loc), k  = some out → lv_has ls 2 [] → va_P D classes (wd_Model_out cC cI a0_0 a0_1 a0_2 a0_3 a0_4 a0_5 a0_6 a0_7 v0) H → va_D A (wd_Model_out cC cI a0_0 a0_1 a0_2 a0_3 a0_4 a0_5 a0_6 a0_7 v0) → va_S A s.heap H locs → W p l e rm_Model_out s m args below meth c H locs 0 0 (MQ below (q_Model_out D cC cI a0_0 a0_1 a0_2 a0_3 a0_4 a0_5 a0_6 a0_7 v0 out A) args s 0 0 A) (F0 m 12 ls [])
def J_Model_out_22 (p : Program) (l : Launch) (e : Env) (s : State) (m : MethodId) (args : Array Value) (below : List Frame) (meth : Method) (c : Code) (A : Nat → Prop) (D : va_G) (cC cI : ClassId) (a0_0 a0_1 a0_2 a0_3 a0_4 a0_5 a0_6 a0_7 : Nat) (v0 : T_Model) (out : O_Model_out) (k : Int32 → Option O_Model_out) : Prop := ∀ (s0 : Int32) (ls : Array Slot) (H : Heap) (locs : List Loc), k s0 = some out → lv_has ls 2 [] → va_P D classes (wd_Model_out cC cI a0_0 a0_1 a0_2 a0_3 a0_4 a0_5 a0_6 a0_7 v0) H → va_D A (wd_Model_out cC cI a0_0 a0_1 a0_2 a0_3 a0_4 a0_5 a0_6 a0_7 v0) → va_S A s.heap H locs → W p l e rm_Model_out s m args below meth c H locs 0 0 (MQ below (q_Model_out D cC cI a0_0 a0_1 a0_2 a0_3 a0_4 a0_5 a0_6 a0_7 v0 out A) args s 0 0 A) (F0 m 22 ls [.int s0])
def f_Model_out_22 (v0 : T_Model) (s0 : Int32) : Option O_Model_out := some s0
set_option maxHeartbeats 4000000 in
set_option maxRecDepth 100000 in
theorem w_Model_out_22 {p : Program} {l : Launch} {e : Env} {s : State} {m : MethodId} {args : Array Value} {below : List Frame} {meth : Method} {c : Code} {A : Nat → Prop} {D : va_G} {cC cI : ClassId} {a0_0 a0_1 a0_2 a0_3 a0_4 a0_5 a0_6 a0_7 : Nat} {v0 : T_Model} (X : xCX p s m args meth c A D cC cI b_Model_out 2 R_Model (some .int)) {out : O_Model_out}   : J_Model_out_22 p l e s m args below meth c A D cC cI a0_0 a0_1 a0_2 a0_3 a0_4 a0_5 a0_6 a0_7 v0 out (f_Model_out_22 v0 ) := by
  obtain ⟨hx, hb, hml, hown, htB, ⟨hK, hN⟩, hZ, hA, hr, hlocks⟩ := id X
  intro s0 ls H locs h hl hP hD hS
  obtain rfl := Option.some.inj h
  exact W.iret (v := s0) hx hb hr (fun t ht hW => ⟨⟨s0, (), rfl, rfl, by rw [ht]; exact hP, hD⟩, hS.F ht⟩) hS.2.2 d_Model_out_22 hlocks

def f_Model_out_12 (v0 : T_Model) : Option O_Model_out := f_Model_out_22 v0 (-1 : Int32)
set_option maxHeartbeats 4000000 in
set_option maxRecDepth 100000 in
theorem w_Model_out_12 {p : Program} {l : Launch} {e : Env} {s : State} {m : MethodId} {args : Array Value} {below : List Frame} {meth : Method} {c : Code} {A : Nat → Prop} {D : va_G} {cC cI : ClassId} {a0_0 a0_1 a0_2 a0_3 a0_4 a0_5 a0_6 a0_7 : Nat} {v0 : T_Model} (X : xCX p s m args meth c A D cC cI b_Model_out 2 R_Model (some .int)) {out : O_Model_out}   : J_Model_out_12 p l e s m args below meth c A D cC cI a0_0 a0_1 a0_2 a0_3 a0_4 a0_5 a0_6 a0_7 v0 out (f_Model_out_12 v0 ) := by
  obtain ⟨hx, hb, hml, hown, htB, ⟨hK, hN⟩, hZ, hA, hr, hlocks⟩ := id X
  intro  ls H locs h hl hP hD hS
  refine lv_iconst (v := -1) hx hb d_Model_out_12 (by decide) ?_
  refine lv_goto (tgt := 22) hx hb d_Model_out_13 rfl ?_
  exact w_Model_out_22 X (-1 : Int32) ls H locs h (lv_sub hl [] rfl) hP hD hS

def f_Model_out (v0 : T_Model) (v1 : Int32) : Option O_Model_out := (if v1 < 0 then f_Model_out_12 v0 else (if v1 < v0.2.2.2.1 then if ix v1 200 then f_Model_out_22 v0 (v0.2.2.1 v1.toNatClampNeg) else none else f_Model_out_12 v0))
set_option maxHeartbeats 4000000 in
set_option maxRecDepth 100000 in
theorem w_Model_out {p : Program} {l : Launch} {e : Env} {s : State} {m : MethodId} {args : Array Value} {below : List Frame} {meth : Method} {c : Code} {A : Nat → Prop} {D : va_G} {cC cI : ClassId} {a0_0 a0_1 a0_2 a0_3 a0_4 a0_5 a0_6 a0_7 : Nat} {v0 : T_Model} (X : xCX p s m args meth c A D cC cI b_Model_out 2 R_Model (some .int)) {out : O_Model_out} (v1 : Int32) {ls : Array Slot} {H : Heap} {locs : List Loc} (h : f_Model_out v0 v1 = some out) (hl : lv_has ls 2 [(0, .ref a0_0), (1, .int v1)]) (hP : va_P D classes (wd_Model_out cC cI a0_0 a0_1 a0_2 a0_3 a0_4 a0_5 a0_6 a0_7 v0) H) (hD : va_D A (wd_Model_out cC cI a0_0 a0_1 a0_2 a0_3 a0_4 a0_5 a0_6 a0_7 v0)) (hS : va_S A s.heap H locs) : W p l e rm_Model_out s m args below meth c H locs 0 0 (MQ below (q_Model_out D cC cI a0_0 a0_1 a0_2 a0_3 a0_4 a0_5 a0_6 a0_7 v0 out A) args s 0 0 A) (F0 m 0 ls []) := by
  obtain ⟨hx, hb, hml, hown, htB, ⟨hK, hN⟩, hZ, hA, hr, hlocks⟩ := id X
  refine lv_iload_n hx hb d_Model_out_0 rfl (lv_at hl 1 rfl) ?_
  refine lv_if_lt (tgt := 12) hx hb d_Model_out_1 rfl (fun hc => ?_) (fun hc => ?_)
  · have h := (if_pos hc).symm.trans h
    exact w_Model_out_12 X ls H locs h (lv_sub hl [] rfl) hP hD hS
  have h := (if_neg hc).symm.trans h
  refine lv_iload_n hx hb d_Model_out_4 rfl (lv_at hl 1 rfl) ?_
  refine lv_aload_n hx hb d_Model_out_5 rfl (lv_at hl 0 rfl) ?_
  refine va_get (D := D) (ci := 11) (v := .int v0.2.2.2.1) (C := R_Model) (T := F_Model) (N := 23) hx hb htB in_Model hown hK hP 0 rfl rfl 3 (by decide) (htB _ b_311) (fun _ h9 => h9) rfl d_Model_out_6 ?_
  refine lv_icmp_lt (tgt := 16) hx hb d_Model_out_9 rfl (fun hc => ?_) (fun hc => ?_)
  · have h := (if_pos hc).symm.trans h
    refine lv_aload_n hx hb d_Model_out_16 rfl (lv_at hl 0 rfl) ?_
    refine va_get (D := D) (ci := 11) (v := .ref a0_2) (C := R_Model) (T := F_Model) (N := 23) hx hb htB in_Model hown hK hP 0 rfl rfl 2 (by decide) (htB _ b_312) (fun _ h9 => h9) rfl d_Model_out_17 ?_
    refine lv_iload_n hx hb d_Model_out_20 rfl (lv_at hl 1 rfl) ?_
    obtain ⟨hc, h⟩ := x_chk h
    refine va_cald hx hb hK hP 2 0 rfl rfl hc d_Model_out_21 ?_
    exact w_Model_out_22 X (v0.2.2.1 v1.toNatClampNeg) ls H locs h (lv_sub hl [] rfl) hP hD hS
  have h := (if_neg hc).symm.trans h
  exact w_Model_out_12 X ls H locs h (lv_sub hl [] rfl) hP hD hS

set_option maxHeartbeats 4000000 in
set_option maxRecDepth 100000 in
theorem c_Model_out (l : Launch) (D : va_G) (cC cI : ClassId) (sz : Nat) (a0_0 a0_1 a0_2 a0_3 a0_4 a0_5 a0_6 a0_7 : Nat) (v0 : T_Model) (v1 : Int32) (out : O_Model_out) (h : f_Model_out v0 v1 = some out) : Met l y_Model_out (.code y_Model_out b_Model_out 2 (some .int) :: BIG) rm_Model_out (va_Pc [.ref a0_0, .int v1] (xPre D cC cI (wd_Model_out cC cI a0_0 a0_1 a0_2 a0_3 a0_4 a0_5 a0_6 a0_7 v0) sz)) (q_Model_out D cC cI a0_0 a0_1 a0_2 a0_3 a0_4 a0_5 a0_6 a0_7 v0 out (va_A (wd_Model_out cC cI a0_0 a0_1 a0_2 a0_3 a0_4 a0_5 a0_6 a0_7 v0) sz)) 0 0 (va_A (wd_Model_out cC cI a0_0 a0_1 a0_2 a0_3 a0_4 a0_5 a0_6 a0_7 v0) sz) := by
  refine Met.ofW (cc := b_Model_out) (maxL := 2) (ret := (some .int)) (by decide) rfl ?_
  intro p e s m args below meth c s₁ B hml hv
  obtain ⟨rfl, rfl, hP, hD0, hG, hZ⟩ := hv
  have hl := lv_entry [.ref a0_0, .int v1] (n := 2) (Nat.le_of_ble_eq_true rfl)
  rw [lg_entry_eq]
  exact w_Model_out (x_cx B hml hG hZ) v1 h hl hP hD0.self va_S.rf

abbrev wd_Model_is (cC cI : ClassId) (a0_0 a0_1 a0_2 a0_3 a0_4 a0_5 a0_6 a0_7 : Nat) (v0 : T_Model) : va_W := [(a0_0, .inr (11, [.ref a0_1, .int v0.2.1, .ref a0_2, .int v0.2.2.2.1, .int v0.2.2.2.2.1, .int v0.2.2.2.2.2.1, .ref a0_3, .ref a0_4, .ref a0_5, .int v0.2.2.2.2.2.2.2.2.2.1, .int v0.2.2.2.2.2.2.2.2.2.2.1, .int v0.2.2.2.2.2.2.2.2.2.2.2.1, .int v0.2.2.2.2.2.2.2.2.2.2.2.2.1, .ref a0_6, .int v0.2.2.2.2.2.2.2.2.2.2.2.2.2.2.1, .int v0.2.2.2.2.2.2.2.2.2.2.2.2.2.2.2.1, .int v0.2.2.2.2.2.2.2.2.2.2.2.2.2.2.2.2.1, .ref a0_7, .long v0.2.2.2.2.2.2.2.2.2.2.2.2.2.2.2.2.2.2.1, .int v0.2.2.2.2.2.2.2.2.2.2.2.2.2.2.2.2.2.2.2.1, .long v0.2.2.2.2.2.2.2.2.2.2.2.2.2.2.2.2.2.2.2.2.1, .int v0.2.2.2.2.2.2.2.2.2.2.2.2.2.2.2.2.2.2.2.2.2.1, .int v0.2.2.2.2.2.2.2.2.2.2.2.2.2.2.2.2.2.2.2.2.2.2])), (a0_1, .inl (cC, 120, .inl v0.1)), (a0_2, .inl (cC, 200, .inl v0.2.2.1)), (a0_3, .inl (cI, 160, .inl v0.2.2.2.2.2.2.1)), (a0_4, .inl (cI, 4, .inl v0.2.2.2.2.2.2.2.1)), (a0_5, .inl (cI, 7, .inl v0.2.2.2.2.2.2.2.2.1)), (a0_6, .inl (cI, 40, .inl v0.2.2.2.2.2.2.2.2.2.2.2.2.2.1)), (a0_7, .inl (cI, 6, .inl v0.2.2.2.2.2.2.2.2.2.2.2.2.2.2.2.2.2.1))]
abbrev O_Model_is : Type := Int32
abbrev q_Model_is (D : va_G) (cC cI : ClassId) (a0_0 a0_1 a0_2 a0_3 a0_4 a0_5 a0_6 a0_7 : Nat) (v0 : T_Model) (out : O_Model_is) (A : Nat → Prop) : Array Value → State → Outcome → State → Prop := va_Qi (fun r (_ : Unit) => r = out) (fun _ t => va_P D classes (wd_Model_is cC cI a0_0 a0_1 a0_2 a0_3 a0_4 a0_5 a0_6 a0_7 v0) t.heap ∧ va_D A (wd_Model_is cC cI a0_0 a0_1 a0_2 a0_3 a0_4 a0_5 a0_6 a0_7 v0)) A
abbrev rm_Model_is : Room := { frames := 0, cells := 0, slots := 0, locals := 0 }
def J_Model_is_22 (p : Program) (l : Launch) (e : Env) (s : State) (m : MethodId) (args : Array Value) (below : List Frame) (meth : Method) (c : Code) (A : Nat → Prop) (D : va_G) (cC cI : ClassId) (a0_0 a0_1 a0_2 a0_3 a0_4 a0_5 a0_6 a0_7 : Nat) (v0 : T_Model) (out : O_Model_is) (k : Option O_Model_is) : Prop := ∀  (ls : Array Slot) (H : Heap) (locs : List Loc), k  = some out → lv_has ls 3 [] → va_P D classes (wd_Model_is cC cI a0_0 a0_1 a0_2 a0_3 a0_4 a0_5 a0_6 a0_7 v0) H → va_D A (wd_Model_is cC cI a0_0 a0_1 a0_2 a0_3 a0_4 a0_5 a0_6 a0_7 v0) → va_S A s.heap H locs → W p l e rm_Model_is s m args below meth c H locs 0 0 (MQ below (q_Model_is D cC cI a0_0 a0_1 a0_2 a0_3 a0_4 a0_5 a0_6 a0_7 v0 out A) args s 0 0 A) (F0 m 22 ls [])
def J_Model_is_23 (p : Program) (l : Launch) (e : Env) (s : State) (m : MethodId) (args : Array Value) (below : List Frame) (meth : Method) (c : Code) (A : Nat → Prop) (D : va_G) (cC cI : ClassId) (a0_0 a0_1 a0_2 a0_3 a0_4 a0_5 a0_6 a0_7 : Nat) (v0 : T_Model) (out : O_Model_is) (k : Int32 → Option O_Model_is) : Prop := ∀ (s0 : Int32) (ls : Array Slot) (H : Heap) (locs : List Loc), k s0 = some out → lv_has ls 3 [] → va_P D classes (wd_Model_is cC cI a0_0 a0_1 a0_2 a0_3 a0_4 a0_5 a0_6 a0_7 v0) H → va_D A (wd_Model_is cC cI a0_0 a0_1 a0_2 a0_3 a0_4 a0_5 a0_6 a0_7 v0) → va_S A s.heap H locs → W p l e rm_Model_is s m args below meth c H locs 0 0 (MQ below (q_Model_is D cC cI a0_0 a0_1 a0_2 a0_3 a0_4 a0_5 a0_6 a0_7 v0 out A) args s 0 0 A) (F0 m 23 ls [.int s0])
def f_Model_is_23 (v0 : T_Model) (s0 : Int32) : Option O_Model_is := if (s0 = 0 ∨ s0 = 1) then some s0 else none
set_option maxHeartbeats 4000000 in
set_option maxRecDepth 100000 in
theorem w_Model_is_23 {p : Program} {l : Launch} {e : Env} {s : State} {m : MethodId} {args : Array Value} {below : List Frame} {meth : Method} {c : Code} {A : Nat → Prop} {D : va_G} {cC cI : ClassId} {a0_0 a0_1 a0_2 a0_3 a0_4 a0_5 a0_6 a0_7 : Nat} {v0 : T_Model} (X : xCX p s m args meth c A D cC cI b_Model_is 3 R_Model (some .boolean)) {out : O_Model_is}   : J_Model_is_23 p l e s m args below meth c A D cC cI a0_0 a0_1 a0_2 a0_3 a0_4 a0_5 a0_6 a0_7 v0 out (f_Model_is_23 v0 ) := by
  obtain ⟨hx, hb, hml, hown, htB, ⟨hK, hN⟩, hZ, hA, hr, hlocks⟩ := id X
  intro s0 ls H locs h hl hP hD hS
  obtain ⟨hc, h⟩ := x_chk h
  obtain rfl := Option.some.inj h
  exact W.zret (v := s0) (ty := .boolean) hx hb hr (x_zn hc) (fun t ht hW => ⟨⟨s0, (), rfl, rfl, by rw [ht]; exact hP, hD⟩, hS.F ht⟩) hS.2.2 d_Model_is_23 hlocks

def f_Model_is_22 (v0 : T_Model) : Option O_Model_is := f_Model_is_23 v0 (0 : Int32)
set_option maxHeartbeats 4000000 in
set_option maxRecDepth 100000 in
theorem w_Model_is_22 {p : Program} {l : Launch} {e : Env} {s : State} {m : MethodId} {args : Array Value} {below : List Frame} {meth : Method} {c : Code} {A : Nat → Prop} {D : va_G} {cC cI : ClassId} {a0_0 a0_1 a0_2 a0_3 a0_4 a0_5 a0_6 a0_7 : Nat} {v0 : T_Model} (X : xCX p s m args meth c A D cC cI b_Model_is 3 R_Model (some .boolean)) {out : O_Model_is}   : J_Model_is_22 p l e s m args below meth c A D cC cI a0_0 a0_1 a0_2 a0_3 a0_4 a0_5 a0_6 a0_7 v0 out (f_Model_is_22 v0 ) := by
  obtain ⟨hx, hb, hml, hown, htB, ⟨hK, hN⟩, hZ, hA, hr, hlocks⟩ := id X
  intro  ls H locs h hl hP hD hS
  refine lv_iconst (v := 0) hx hb d_Model_is_22 (by decide) ?_
  exact w_Model_is_23 X (0 : Int32) ls H locs h (lv_sub hl [] rfl) hP hD hS

def f_Model_is (v0 : T_Model) (v1 : Int32) (v2 : Int32) : Option O_Model_is := (if v0.2.1 ≤ v1 then f_Model_is_22 v0 else if ix v1 120 then (if (v0.1 v1.toNatClampNeg) = v2 then f_Model_is_23 v0 (1 : Int32) else f_Model_is_22 v0) else none)
set_option maxHeartbeats 4000000 in
set_option maxRecDepth 100000 in
theorem w_Model_is {p : Program} {l : Launch} {e : Env} {s : State} {m : MethodId} {args : Array Value} {below : List Frame} {meth : Method} {c : Code} {A : Nat → Prop} {D : va_G} {cC cI : ClassId} {a0_0 a0_1 a0_2 a0_3 a0_4 a0_5 a0_6 a0_7 : Nat} {v0 : T_Model} (X : xCX p s m args meth c A D cC cI b_Model_is 3 R_Model (some .boolean)) {out : O_Model_is} (v1 : Int32) (v2 : Int32) {ls : Array Slot} {H : Heap} {locs : List Loc} (h : f_Model_is v0 v1 v2 = some out) (hl : lv_has ls 3 [(0, .ref a0_0), (1, .int v1), (2, .int v2)]) (hP : va_P D classes (wd_Model_is cC cI a0_0 a0_1 a0_2 a0_3 a0_4 a0_5 a0_6 a0_7 v0) H) (hD : va_D A (wd_Model_is cC cI a0_0 a0_1 a0_2 a0_3 a0_4 a0_5 a0_6 a0_7 v0)) (hS : va_S A s.heap H locs) : W p l e rm_Model_is s m args below meth c H locs 0 0 (MQ below (q_Model_is D cC cI a0_0 a0_1 a0_2 a0_3 a0_4 a0_5 a0_6 a0_7 v0 out A) args s 0 0 A) (F0 m 0 ls []) := by
  obtain ⟨hx, hb, hml, hown, htB, ⟨hK, hN⟩, hZ, hA, hr, hlocks⟩ := id X
  refine lv_iload_n hx hb d_Model_is_0 rfl (lv_at hl 1 rfl) ?_
  refine lv_aload_n hx hb d_Model_is_1 rfl (lv_at hl 0 rfl) ?_
  refine va_get (D := D) (ci := 11) (v := .int v0.2.1) (C := R_Model) (T := F_Model) (N := 23) hx hb htB in_Model hown hK hP 0 rfl rfl 1 (by decide) (htB _ b_309) (fun _ h9 => h9) rfl d_Model_is_2 ?_
  refine lv_icmp_ge (tgt := 22) hx hb d_Model_is_5 rfl (fun hc => ?_) (fun hc => ?_)
  · have h := (if_pos hc).symm.trans h
    exact w_Model_is_22 X ls H locs h (lv_sub hl [] rfl) hP hD hS
  have h := (if_neg hc).symm.trans h
  refine lv_aload_n hx hb d_Model_is_8 rfl (lv_at hl 0 rfl) ?_
  refine va_get (D := D) (ci := 11) (v := .ref a0_1) (C := R_Model) (T := F_Model) (N := 23) hx hb htB in_Model hown hK hP 0 rfl rfl 0 (by decide) (htB _ b_310) (fun _ h9 => h9) rfl d_Model_is_9 ?_
  refine lv_iload_n hx hb d_Model_is_12 rfl (lv_at hl 1 rfl) ?_
  obtain ⟨hc, h⟩ := x_chk h
  refine va_cald hx hb hK hP 1 0 rfl rfl hc d_Model_is_13 ?_
  refine lv_iload_n hx hb d_Model_is_14 rfl (lv_at hl 2 rfl) ?_
  refine lv_icmp_ne (tgt := 22) hx hb d_Model_is_15 rfl (fun hc => ?_) (fun hc => ?_)
  · have h := (if_neg hc).symm.trans h
    exact w_Model_is_22 X ls H locs h (lv_sub hl [] rfl) hP hD hS
  have h := (if_pos hc).symm.trans h
  refine lv_iconst (v := 1) hx hb d_Model_is_18 (by decide) ?_
  refine lv_goto (tgt := 23) hx hb d_Model_is_19 rfl ?_
  exact w_Model_is_23 X (1 : Int32) ls H locs h (lv_sub hl [] rfl) hP hD hS

set_option maxHeartbeats 4000000 in
set_option maxRecDepth 100000 in
theorem c_Model_is (l : Launch) (D : va_G) (cC cI : ClassId) (sz : Nat) (a0_0 a0_1 a0_2 a0_3 a0_4 a0_5 a0_6 a0_7 : Nat) (v0 : T_Model) (v1 : Int32) (v2 : Int32) (out : O_Model_is) (h : f_Model_is v0 v1 v2 = some out) : Met l y_Model_is (.code y_Model_is b_Model_is 3 (some .boolean) :: BIG) rm_Model_is (va_Pc [.ref a0_0, .int v1, .int v2] (xPre D cC cI (wd_Model_is cC cI a0_0 a0_1 a0_2 a0_3 a0_4 a0_5 a0_6 a0_7 v0) sz)) (q_Model_is D cC cI a0_0 a0_1 a0_2 a0_3 a0_4 a0_5 a0_6 a0_7 v0 out (va_A (wd_Model_is cC cI a0_0 a0_1 a0_2 a0_3 a0_4 a0_5 a0_6 a0_7 v0) sz)) 0 0 (va_A (wd_Model_is cC cI a0_0 a0_1 a0_2 a0_3 a0_4 a0_5 a0_6 a0_7 v0) sz) := by
  refine Met.ofW (cc := b_Model_is) (maxL := 3) (ret := (some .boolean)) (by decide) rfl ?_
  intro p e s m args below meth c s₁ B hml hv
  obtain ⟨rfl, rfl, hP, hD0, hG, hZ⟩ := hv
  have hl := lv_entry [.ref a0_0, .int v1, .int v2] (n := 3) (Nat.le_of_ble_eq_true rfl)
  rw [lg_entry_eq]
  exact w_Model_is (x_cx B hml hG hZ) v1 v2 h hl hP hD0.self va_S.rf

abbrev wd_Model_special (cC cI : ClassId)  : va_W := []
abbrev O_Model_special : Type := Int32
abbrev q_Model_special (D : va_G) (cC cI : ClassId)  (out : O_Model_special) (A : Nat → Prop) : Array Value → State → Outcome → State → Prop := va_Qi (fun r (_ : Unit) => r = out) (fun _ t => va_P D classes (wd_Model_special cC cI ) t.heap ∧ va_D A (wd_Model_special cC cI )) A
abbrev rm_Model_special : Room := { frames := 0, cells := 0, slots := 0, locals := 0 }
def J_Model_special_36 (p : Program) (l : Launch) (e : Env) (s : State) (m : MethodId) (args : Array Value) (below : List Frame) (meth : Method) (c : Code) (A : Nat → Prop) (D : va_G) (cC cI : ClassId) (out : O_Model_special) (k : Option O_Model_special) : Prop := ∀  (ls : Array Slot) (H : Heap) (locs : List Loc), k  = some out → lv_has ls 1 [] → va_P D classes (wd_Model_special cC cI) H → va_D A (wd_Model_special cC cI) → va_S A s.heap H locs → W p l e rm_Model_special s m args below meth c H locs 0 0 (MQ below (q_Model_special D cC cI  out A) args s 0 0 A) (F0 m 36 ls [])
def J_Model_special_41 (p : Program) (l : Launch) (e : Env) (s : State) (m : MethodId) (args : Array Value) (below : List Frame) (meth : Method) (c : Code) (A : Nat → Prop) (D : va_G) (cC cI : ClassId) (out : O_Model_special) (k : Int32 → Option O_Model_special) : Prop := ∀ (s0 : Int32) (ls : Array Slot) (H : Heap) (locs : List Loc), k s0 = some out → lv_has ls 1 [] → va_P D classes (wd_Model_special cC cI) H → va_D A (wd_Model_special cC cI) → va_S A s.heap H locs → W p l e rm_Model_special s m args below meth c H locs 0 0 (MQ below (q_Model_special D cC cI  out A) args s 0 0 A) (F0 m 41 ls [.int s0])
def f_Model_special_41 (s0 : Int32) : Option O_Model_special := if (s0 = 0 ∨ s0 = 1) then some s0 else none
set_option maxHeartbeats 4000000 in
set_option maxRecDepth 100000 in
theorem w_Model_special_41 {p : Program} {l : Launch} {e : Env} {s : State} {m : MethodId} {args : Array Value} {below : List Frame} {meth : Method} {c : Code} {A : Nat → Prop} {D : va_G} {cC cI : ClassId} (X : xCX p s m args meth c A D cC cI b_Model_special 1 R_Model (some .boolean)) {out : O_Model_special}   : J_Model_special_41 p l e s m args below meth c A D cC cI  out (f_Model_special_41  ) := by
  obtain ⟨hx, hb, hml, hown, htB, ⟨hK, hN⟩, hZ, hA, hr, hlocks⟩ := id X
  intro s0 ls H locs h hl hP hD hS
  obtain ⟨hc, h⟩ := x_chk h
  obtain rfl := Option.some.inj h
  exact W.zret (v := s0) (ty := .boolean) hx hb hr (x_zn hc) (fun t ht hW => ⟨⟨s0, (), rfl, rfl, by rw [ht]; exact hP, hD⟩, hS.F ht⟩) hS.2.2 d_Model_special_41 hlocks

def f_Model_special_36 : Option O_Model_special := f_Model_special_41 (1 : Int32)
set_option maxHeartbeats 4000000 in
set_option maxRecDepth 100000 in
theorem w_Model_special_36 {p : Program} {l : Launch} {e : Env} {s : State} {m : MethodId} {args : Array Value} {below : List Frame} {meth : Method} {c : Code} {A : Nat → Prop} {D : va_G} {cC cI : ClassId} (X : xCX p s m args meth c A D cC cI b_Model_special 1 R_Model (some .boolean)) {out : O_Model_special}   : J_Model_special_36 p l e s m args below meth c A D cC cI  out (f_Model_special_36  ) := by
  obtain ⟨hx, hb, hml, hown, htB, ⟨hK, hN⟩, hZ, hA, hr, hlocks⟩ := id X
  intro  ls H locs h hl hP hD hS
  refine lv_iconst (v := 1) hx hb d_Model_special_36 (by decide) ?_
  refine lv_goto (tgt := 41) hx hb d_Model_special_37 rfl ?_
  exact w_Model_special_41 X (1 : Int32) ls H locs h (lv_sub hl [] rfl) hP hD hS

def f_Model_special (v0 : Int32) : Option O_Model_special := (if v0 = (35 : Int32) then f_Model_special_36 else (if v0 = (48 : Int32) then f_Model_special_36 else (if v0 = (44 : Int32) then f_Model_special_36 else (if v0 = (46 : Int32) then f_Model_special_36 else (if v0 = (59 : Int32) then f_Model_special_36 else (if v0 = (69 : Int32) then f_Model_special_36 else f_Model_special_41 (0 : Int32)))))))
set_option maxHeartbeats 4000000 in
set_option maxRecDepth 100000 in
theorem w_Model_special {p : Program} {l : Launch} {e : Env} {s : State} {m : MethodId} {args : Array Value} {below : List Frame} {meth : Method} {c : Code} {A : Nat → Prop} {D : va_G} {cC cI : ClassId} (X : xCX p s m args meth c A D cC cI b_Model_special 1 R_Model (some .boolean)) {out : O_Model_special} (v0 : Int32) {ls : Array Slot} {H : Heap} {locs : List Loc} (h : f_Model_special v0 = some out) (hl : lv_has ls 1 [(0, .int v0)]) (hP : va_P D classes (wd_Model_special cC cI) H) (hD : va_D A (wd_Model_special cC cI)) (hS : va_S A s.heap H locs) : W p l e rm_Model_special s m args below meth c H locs 0 0 (MQ below (q_Model_special D cC cI  out A) args s 0 0 A) (F0 m 0 ls []) := by
  obtain ⟨hx, hb, hml, hown, htB, ⟨hK, hN⟩, hZ, hA, hr, hlocks⟩ := id X
  refine lv_iload_n hx hb d_Model_special_0 rfl (lv_at hl 0 rfl) ?_
  refine lv_bipush (v := 35) hx hb d_Model_special_1 (by decide) ?_
  refine lv_icmp_eq (tgt := 36) hx hb d_Model_special_3 rfl (fun hc => ?_) (fun hc => ?_)
  · have h := (if_pos hc).symm.trans h
    exact w_Model_special_36 X ls H locs h (lv_sub hl [] rfl) hP hD hS
  have h := (if_neg hc).symm.trans h
  refine lv_iload_n hx hb d_Model_special_6 rfl (lv_at hl 0 rfl) ?_
  refine lv_bipush (v := 48) hx hb d_Model_special_7 (by decide) ?_
  refine lv_icmp_eq (tgt := 36) hx hb d_Model_special_9 rfl (fun hc => ?_) (fun hc => ?_)
  · have h := (if_pos hc).symm.trans h
    exact w_Model_special_36 X ls H locs h (lv_sub hl [] rfl) hP hD hS
  have h := (if_neg hc).symm.trans h
  refine lv_iload_n hx hb d_Model_special_12 rfl (lv_at hl 0 rfl) ?_
  refine lv_bipush (v := 44) hx hb d_Model_special_13 (by decide) ?_
  refine lv_icmp_eq (tgt := 36) hx hb d_Model_special_15 rfl (fun hc => ?_) (fun hc => ?_)
  · have h := (if_pos hc).symm.trans h
    exact w_Model_special_36 X ls H locs h (lv_sub hl [] rfl) hP hD hS
  have h := (if_neg hc).symm.trans h
  refine lv_iload_n hx hb d_Model_special_18 rfl (lv_at hl 0 rfl) ?_
  refine lv_bipush (v := 46) hx hb d_Model_special_19 (by decide) ?_
  refine lv_icmp_eq (tgt := 36) hx hb d_Model_special_21 rfl (fun hc => ?_) (fun hc => ?_)
  · have h := (if_pos hc).symm.trans h
    exact w_Model_special_36 X ls H locs h (lv_sub hl [] rfl) hP hD hS
  have h := (if_neg hc).symm.trans h
  refine lv_iload_n hx hb d_Model_special_24 rfl (lv_at hl 0 rfl) ?_
  refine lv_bipush (v := 59) hx hb d_Model_special_25 (by decide) ?_
  refine lv_icmp_eq (tgt := 36) hx hb d_Model_special_27 rfl (fun hc => ?_) (fun hc => ?_)
  · have h := (if_pos hc).symm.trans h
    exact w_Model_special_36 X ls H locs h (lv_sub hl [] rfl) hP hD hS
  have h := (if_neg hc).symm.trans h
  refine lv_iload_n hx hb d_Model_special_30 rfl (lv_at hl 0 rfl) ?_
  refine lv_bipush (v := 69) hx hb d_Model_special_31 (by decide) ?_
  refine lv_icmp_ne (tgt := 40) hx hb d_Model_special_33 rfl (fun hc => ?_) (fun hc => ?_)
  · have h := (if_neg hc).symm.trans h
    refine lv_iconst (v := 0) hx hb d_Model_special_40 (by decide) ?_
    exact w_Model_special_41 X (0 : Int32) ls H locs h (lv_sub hl [] rfl) hP hD hS
  have h := (if_pos hc).symm.trans h
  exact w_Model_special_36 X ls H locs h (lv_sub hl [] rfl) hP hD hS

set_option maxHeartbeats 4000000 in
set_option maxRecDepth 100000 in
theorem c_Model_special (l : Launch) (D : va_G) (cC cI : ClassId) (sz : Nat) (v0 : Int32) (out : O_Model_special) (h : f_Model_special v0 = some out) : Met l y_Model_special (.code y_Model_special b_Model_special 1 (some .boolean) :: BIG) rm_Model_special (va_Pc [.int v0] (xPre D cC cI (wd_Model_special cC cI) sz)) (q_Model_special D cC cI  out (va_A (wd_Model_special cC cI) sz)) 0 0 (va_A (wd_Model_special cC cI) sz) := by
  refine Met.ofW (cc := b_Model_special) (maxL := 1) (ret := (some .boolean)) (by decide) rfl ?_
  intro p e s m args below meth c s₁ B hml hv
  obtain ⟨rfl, rfl, hP, hD0, hG, hZ⟩ := hv
  have hl := lv_entry [.int v0] (n := 1) (Nat.le_of_ble_eq_true rfl)
  rw [lg_entry_eq]
  exact w_Model_special (x_cx B hml hG hZ) v0 h hl hP hD0.self va_S.rf

abbrev wd_Model_keep (cC cI : ClassId) (a0_0 a0_1 a0_2 a0_3 a0_4 a0_5 a0_6 a0_7 : Nat) (v0 : T_Model) : va_W := [(a0_0, .inr (11, [.ref a0_1, .int v0.2.1, .ref a0_2, .int v0.2.2.2.1, .int v0.2.2.2.2.1, .int v0.2.2.2.2.2.1, .ref a0_3, .ref a0_4, .ref a0_5, .int v0.2.2.2.2.2.2.2.2.2.1, .int v0.2.2.2.2.2.2.2.2.2.2.1, .int v0.2.2.2.2.2.2.2.2.2.2.2.1, .int v0.2.2.2.2.2.2.2.2.2.2.2.2.1, .ref a0_6, .int v0.2.2.2.2.2.2.2.2.2.2.2.2.2.2.1, .int v0.2.2.2.2.2.2.2.2.2.2.2.2.2.2.2.1, .int v0.2.2.2.2.2.2.2.2.2.2.2.2.2.2.2.2.1, .ref a0_7, .long v0.2.2.2.2.2.2.2.2.2.2.2.2.2.2.2.2.2.2.1, .int v0.2.2.2.2.2.2.2.2.2.2.2.2.2.2.2.2.2.2.2.1, .long v0.2.2.2.2.2.2.2.2.2.2.2.2.2.2.2.2.2.2.2.2.1, .int v0.2.2.2.2.2.2.2.2.2.2.2.2.2.2.2.2.2.2.2.2.2.1, .int v0.2.2.2.2.2.2.2.2.2.2.2.2.2.2.2.2.2.2.2.2.2.2])), (a0_1, .inl (cC, 120, .inl v0.1)), (a0_2, .inl (cC, 200, .inl v0.2.2.1)), (a0_3, .inl (cI, 160, .inl v0.2.2.2.2.2.2.1)), (a0_4, .inl (cI, 4, .inl v0.2.2.2.2.2.2.2.1)), (a0_5, .inl (cI, 7, .inl v0.2.2.2.2.2.2.2.2.1)), (a0_6, .inl (cI, 40, .inl v0.2.2.2.2.2.2.2.2.2.2.2.2.2.1)), (a0_7, .inl (cI, 6, .inl v0.2.2.2.2.2.2.2.2.2.2.2.2.2.2.2.2.2.1))]
abbrev O_Model_keep : Type := T_Model
abbrev q_Model_keep (D : va_G) (cC cI : ClassId) (a0_0 a0_1 a0_2 a0_3 a0_4 a0_5 a0_6 a0_7 : Nat)  (out : O_Model_keep) (A : Nat → Prop) : Array Value → State → Outcome → State → Prop := va_Qv (fun _ : Unit => True) (fun _ t => va_P D classes (wd_Model_keep cC cI a0_0 a0_1 a0_2 a0_3 a0_4 a0_5 a0_6 a0_7 out) t.heap ∧ va_D A (wd_Model_keep cC cI a0_0 a0_1 a0_2 a0_3 a0_4 a0_5 a0_6 a0_7 out)) A
abbrev rm_Model_keep : Room := { frames := 0, cells := 0, slots := 0, locals := 0 }
def J_Model_keep_38 (p : Program) (l : Launch) (e : Env) (s : State) (m : MethodId) (args : Array Value) (below : List Frame) (meth : Method) (c : Code) (A : Nat → Prop) (D : va_G) (cC cI : ClassId) (a0_0 a0_1 a0_2 a0_3 a0_4 a0_5 a0_6 a0_7 : Nat) (out : O_Model_keep) (k : T_Model → Option O_Model_keep) : Prop := ∀ (v0 : T_Model) (ls : Array Slot) (H : Heap) (locs : List Loc), k v0 = some out → lv_has ls 3 [] → va_P D classes (wd_Model_keep cC cI a0_0 a0_1 a0_2 a0_3 a0_4 a0_5 a0_6 a0_7 v0) H → va_D A (wd_Model_keep cC cI a0_0 a0_1 a0_2 a0_3 a0_4 a0_5 a0_6 a0_7 v0) → va_S A s.heap H locs → W p l e rm_Model_keep s m args below meth c H locs 0 0 (MQ below (q_Model_keep D cC cI a0_0 a0_1 a0_2 a0_3 a0_4 a0_5 a0_6 a0_7 out A) args s 0 0 A) (F0 m 38 ls [])
def f_Model_keep_38 (v0 : T_Model) : Option O_Model_keep := some v0
set_option maxHeartbeats 4000000 in
set_option maxRecDepth 100000 in
theorem w_Model_keep_38 {p : Program} {l : Launch} {e : Env} {s : State} {m : MethodId} {args : Array Value} {below : List Frame} {meth : Method} {c : Code} {A : Nat → Prop} {D : va_G} {cC cI : ClassId} {a0_0 a0_1 a0_2 a0_3 a0_4 a0_5 a0_6 a0_7 : Nat} (X : xCX p s m args meth c A D cC cI b_Model_keep 3 R_Model none) {out : O_Model_keep}   : J_Model_keep_38 p l e s m args below meth c A D cC cI a0_0 a0_1 a0_2 a0_3 a0_4 a0_5 a0_6 a0_7 out (f_Model_keep_38  ) := by
  obtain ⟨hx, hb, hml, hown, htB, ⟨hK, hN⟩, hZ, hA, hr, hlocks⟩ := id X
  intro v0 ls H locs h hl hP hD hS
  obtain rfl := Option.some.inj h
  exact W.vret hx hb hr (fun t ht hW => ⟨⟨(), rfl, trivial, by rw [ht]; exact hP, hD⟩, hS.F ht⟩) hS.2.2 d_Model_keep_38 hlocks

def f_Model_keep (v0 : T_Model) (v1 : Int32) (v2 : Int32) : Option O_Model_keep := (if v0.2.2.2.2.2.2.2.2.2.2.2.2.1 = 0 then f_Model_keep_38 v0 else if ix v1 4 then if ix (((40 : Int32) * v1) + (v0.2.2.2.2.2.2.2.1 v1.toNatClampNeg)) 160 then if ix v1 4 then if ix v1 4 then f_Model_keep_38 (v0.1, v0.2.1, v0.2.2.1, v0.2.2.2.1, v0.2.2.2.2.1, v0.2.2.2.2.2.1, (upd v0.2.2.2.2.2.2.1 (((40 : Int32) * v1) + (v0.2.2.2.2.2.2.2.1 v1.toNatClampNeg)).toNatClampNeg v2), (upd v0.2.2.2.2.2.2.2.1 v1.toNatClampNeg ((v0.2.2.2.2.2.2.2.1 v1.toNatClampNeg) + (1 : Int32))), v0.2.2.2.2.2.2.2.2.1, v0.2.2.2.2.2.2.2.2.2.1, v0.2.2.2.2.2.2.2.2.2.2.1, v0.2.2.2.2.2.2.2.2.2.2.2.1, v0.2.2.2.2.2.2.2.2.2.2.2.2.1, v0.2.2.2.2.2.2.2.2.2.2.2.2.2.1, v0.2.2.2.2.2.2.2.2.2.2.2.2.2.2.1, v0.2.2.2.2.2.2.2.2.2.2.2.2.2.2.2.1, v0.2.2.2.2.2.2.2.2.2.2.2.2.2.2.2.2.1, v0.2.2.2.2.2.2.2.2.2.2.2.2.2.2.2.2.2.1, v0.2.2.2.2.2.2.2.2.2.2.2.2.2.2.2.2.2.2.1, v0.2.2.2.2.2.2.2.2.2.2.2.2.2.2.2.2.2.2.2.1, v0.2.2.2.2.2.2.2.2.2.2.2.2.2.2.2.2.2.2.2.2.1, v0.2.2.2.2.2.2.2.2.2.2.2.2.2.2.2.2.2.2.2.2.2.1, v0.2.2.2.2.2.2.2.2.2.2.2.2.2.2.2.2.2.2.2.2.2.2) else none else none else none else none)
set_option maxHeartbeats 4000000 in
set_option maxRecDepth 100000 in
theorem w_Model_keep {p : Program} {l : Launch} {e : Env} {s : State} {m : MethodId} {args : Array Value} {below : List Frame} {meth : Method} {c : Code} {A : Nat → Prop} {D : va_G} {cC cI : ClassId} {a0_0 a0_1 a0_2 a0_3 a0_4 a0_5 a0_6 a0_7 : Nat} (X : xCX p s m args meth c A D cC cI b_Model_keep 3 R_Model none) {out : O_Model_keep} (v0 : T_Model) (v1 : Int32) (v2 : Int32) {ls : Array Slot} {H : Heap} {locs : List Loc} (h : f_Model_keep v0 v1 v2 = some out) (hl : lv_has ls 3 [(0, .ref a0_0), (1, .int v1), (2, .int v2)]) (hP : va_P D classes (wd_Model_keep cC cI a0_0 a0_1 a0_2 a0_3 a0_4 a0_5 a0_6 a0_7 v0) H) (hD : va_D A (wd_Model_keep cC cI a0_0 a0_1 a0_2 a0_3 a0_4 a0_5 a0_6 a0_7 v0)) (hS : va_S A s.heap H locs) : W p l e rm_Model_keep s m args below meth c H locs 0 0 (MQ below (q_Model_keep D cC cI a0_0 a0_1 a0_2 a0_3 a0_4 a0_5 a0_6 a0_7 out A) args s 0 0 A) (F0 m 0 ls []) := by
  obtain ⟨hx, hb, hml, hown, htB, ⟨hK, hN⟩, hZ, hA, hr, hlocks⟩ := id X
  refine lv_aload_n hx hb d_Model_keep_0 rfl (lv_at hl 0 rfl) ?_
  refine va_get (D := D) (ci := 11) (v := .int v0.2.2.2.2.2.2.2.2.2.2.2.2.1) (C := R_Model) (T := F_Model) (N := 23) hx hb htB in_Model hown hK hP 0 rfl rfl 12 (by decide) (htB _ b_313) (fun _ h9 => h9) rfl d_Model_keep_1 ?_
  refine lv_if_eq (tgt := 38) hx hb d_Model_keep_4 rfl (fun hc => ?_) (fun hc => ?_)
  · have h := (if_pos hc).symm.trans h
    exact w_Model_keep_38 X v0 ls H locs h (lv_sub hl [] rfl) hP hD hS
  have h := (if_neg hc).symm.trans h
  refine lv_aload_n hx hb d_Model_keep_7 rfl (lv_at hl 0 rfl) ?_
  refine va_get (D := D) (ci := 11) (v := .ref a0_3) (C := R_Model) (T := F_Model) (N := 23) hx hb htB in_Model hown hK hP 0 rfl rfl 6 (by decide) (htB _ b_314) (fun _ h9 => h9) rfl d_Model_keep_8 ?_
  refine lv_bipush (v := 40) hx hb d_Model_keep_11 (by decide) ?_
  refine lv_iload_n hx hb d_Model_keep_13 rfl (lv_at hl 1 rfl) ?_
  refine lv_imul hx hb d_Model_keep_14 ?_
  refine lv_aload_n hx hb d_Model_keep_15 rfl (lv_at hl 0 rfl) ?_
  refine va_get (D := D) (ci := 11) (v := .ref a0_4) (C := R_Model) (T := F_Model) (N := 23) hx hb htB in_Model hown hK hP 0 rfl rfl 7 (by decide) (htB _ b_315) (fun _ h9 => h9) rfl d_Model_keep_16 ?_
  refine lv_iload_n hx hb d_Model_keep_19 rfl (lv_at hl 1 rfl) ?_
  obtain ⟨hc, h⟩ := x_chk h
  refine va_iald hx hb hK hP 4 1 rfl rfl hc d_Model_keep_20 ?_
  refine lv_iadd hx hb d_Model_keep_21 ?_
  refine lv_iload_n hx hb d_Model_keep_22 rfl (lv_at hl 2 rfl) ?_
  obtain ⟨hc, h⟩ := x_chk h
  refine va_iast hx hb hK hP hD hS 3 1 rfl rfl hc d_Model_keep_23 (fun H locs hP hD hS => ?_)
  have hP : va_P D classes (wd_Model_keep cC cI a0_0 a0_1 a0_2 a0_3 a0_4 a0_5 a0_6 a0_7 (v0.1, v0.2.1, v0.2.2.1, v0.2.2.2.1, v0.2.2.2.2.1, v0.2.2.2.2.2.1, (upd v0.2.2.2.2.2.2.1 (((40 : Int32) * v1) + (v0.2.2.2.2.2.2.2.1 v1.toNatClampNeg)).toNatClampNeg v2), v0.2.2.2.2.2.2.2.1, v0.2.2.2.2.2.2.2.2.1, v0.2.2.2.2.2.2.2.2.2.1, v0.2.2.2.2.2.2.2.2.2.2.1, v0.2.2.2.2.2.2.2.2.2.2.2.1, v0.2.2.2.2.2.2.2.2.2.2.2.2.1, v0.2.2.2.2.2.2.2.2.2.2.2.2.2.1, v0.2.2.2.2.2.2.2.2.2.2.2.2.2.2.1, v0.2.2.2.2.2.2.2.2.2.2.2.2.2.2.2.1, v0.2.2.2.2.2.2.2.2.2.2.2.2.2.2.2.2.1, v0.2.2.2.2.2.2.2.2.2.2.2.2.2.2.2.2.2.1, v0.2.2.2.2.2.2.2.2.2.2.2.2.2.2.2.2.2.2.1, v0.2.2.2.2.2.2.2.2.2.2.2.2.2.2.2.2.2.2.2.1, v0.2.2.2.2.2.2.2.2.2.2.2.2.2.2.2.2.2.2.2.2.1, v0.2.2.2.2.2.2.2.2.2.2.2.2.2.2.2.2.2.2.2.2.2.1, v0.2.2.2.2.2.2.2.2.2.2.2.2.2.2.2.2.2.2.2.2.2.2)) H := hP
  have hD : va_D A (wd_Model_keep cC cI a0_0 a0_1 a0_2 a0_3 a0_4 a0_5 a0_6 a0_7 (v0.1, v0.2.1, v0.2.2.1, v0.2.2.2.1, v0.2.2.2.2.1, v0.2.2.2.2.2.1, (upd v0.2.2.2.2.2.2.1 (((40 : Int32) * v1) + (v0.2.2.2.2.2.2.2.1 v1.toNatClampNeg)).toNatClampNeg v2), v0.2.2.2.2.2.2.2.1, v0.2.2.2.2.2.2.2.2.1, v0.2.2.2.2.2.2.2.2.2.1, v0.2.2.2.2.2.2.2.2.2.2.1, v0.2.2.2.2.2.2.2.2.2.2.2.1, v0.2.2.2.2.2.2.2.2.2.2.2.2.1, v0.2.2.2.2.2.2.2.2.2.2.2.2.2.1, v0.2.2.2.2.2.2.2.2.2.2.2.2.2.2.1, v0.2.2.2.2.2.2.2.2.2.2.2.2.2.2.2.1, v0.2.2.2.2.2.2.2.2.2.2.2.2.2.2.2.2.1, v0.2.2.2.2.2.2.2.2.2.2.2.2.2.2.2.2.2.1, v0.2.2.2.2.2.2.2.2.2.2.2.2.2.2.2.2.2.2.1, v0.2.2.2.2.2.2.2.2.2.2.2.2.2.2.2.2.2.2.2.1, v0.2.2.2.2.2.2.2.2.2.2.2.2.2.2.2.2.2.2.2.2.1, v0.2.2.2.2.2.2.2.2.2.2.2.2.2.2.2.2.2.2.2.2.2.1, v0.2.2.2.2.2.2.2.2.2.2.2.2.2.2.2.2.2.2.2.2.2.2)) := hD
  refine lv_aload_n hx hb d_Model_keep_24 rfl (lv_at hl 0 rfl) ?_
  refine va_get (D := D) (ci := 11) (v := .ref a0_4) (C := R_Model) (T := F_Model) (N := 23) hx hb htB in_Model hown hK hP 0 rfl rfl 7 (by decide) (htB _ b_315) (fun _ h9 => h9) rfl d_Model_keep_25 ?_
  refine lv_iload_n hx hb d_Model_keep_28 rfl (lv_at hl 1 rfl) ?_
  refine lv_aload_n hx hb d_Model_keep_29 rfl (lv_at hl 0 rfl) ?_
  refine va_get (D := D) (ci := 11) (v := .ref a0_4) (C := R_Model) (T := F_Model) (N := 23) hx hb htB in_Model hown hK hP 0 rfl rfl 7 (by decide) (htB _ b_315) (fun _ h9 => h9) rfl d_Model_keep_30 ?_
  refine lv_iload_n hx hb d_Model_keep_33 rfl (lv_at hl 1 rfl) ?_
  obtain ⟨hc, h⟩ := x_chk h
  refine va_iald hx hb hK hP 4 1 rfl rfl hc d_Model_keep_34 ?_
  refine lv_iconst (v := 1) hx hb d_Model_keep_35 (by decide) ?_
  refine lv_iadd hx hb d_Model_keep_36 ?_
  obtain ⟨hc, h⟩ := x_chk h
  refine va_iast hx hb hK hP hD hS 4 1 rfl rfl hc d_Model_keep_37 (fun H locs hP hD hS => ?_)
  have hP : va_P D classes (wd_Model_keep cC cI a0_0 a0_1 a0_2 a0_3 a0_4 a0_5 a0_6 a0_7 (v0.1, v0.2.1, v0.2.2.1, v0.2.2.2.1, v0.2.2.2.2.1, v0.2.2.2.2.2.1, (upd v0.2.2.2.2.2.2.1 (((40 : Int32) * v1) + (v0.2.2.2.2.2.2.2.1 v1.toNatClampNeg)).toNatClampNeg v2), (upd v0.2.2.2.2.2.2.2.1 v1.toNatClampNeg ((v0.2.2.2.2.2.2.2.1 v1.toNatClampNeg) + (1 : Int32))), v0.2.2.2.2.2.2.2.2.1, v0.2.2.2.2.2.2.2.2.2.1, v0.2.2.2.2.2.2.2.2.2.2.1, v0.2.2.2.2.2.2.2.2.2.2.2.1, v0.2.2.2.2.2.2.2.2.2.2.2.2.1, v0.2.2.2.2.2.2.2.2.2.2.2.2.2.1, v0.2.2.2.2.2.2.2.2.2.2.2.2.2.2.1, v0.2.2.2.2.2.2.2.2.2.2.2.2.2.2.2.1, v0.2.2.2.2.2.2.2.2.2.2.2.2.2.2.2.2.1, v0.2.2.2.2.2.2.2.2.2.2.2.2.2.2.2.2.2.1, v0.2.2.2.2.2.2.2.2.2.2.2.2.2.2.2.2.2.2.1, v0.2.2.2.2.2.2.2.2.2.2.2.2.2.2.2.2.2.2.2.1, v0.2.2.2.2.2.2.2.2.2.2.2.2.2.2.2.2.2.2.2.2.1, v0.2.2.2.2.2.2.2.2.2.2.2.2.2.2.2.2.2.2.2.2.2.1, v0.2.2.2.2.2.2.2.2.2.2.2.2.2.2.2.2.2.2.2.2.2.2)) H := hP
  have hD : va_D A (wd_Model_keep cC cI a0_0 a0_1 a0_2 a0_3 a0_4 a0_5 a0_6 a0_7 (v0.1, v0.2.1, v0.2.2.1, v0.2.2.2.1, v0.2.2.2.2.1, v0.2.2.2.2.2.1, (upd v0.2.2.2.2.2.2.1 (((40 : Int32) * v1) + (v0.2.2.2.2.2.2.2.1 v1.toNatClampNeg)).toNatClampNeg v2), (upd v0.2.2.2.2.2.2.2.1 v1.toNatClampNeg ((v0.2.2.2.2.2.2.2.1 v1.toNatClampNeg) + (1 : Int32))), v0.2.2.2.2.2.2.2.2.1, v0.2.2.2.2.2.2.2.2.2.1, v0.2.2.2.2.2.2.2.2.2.2.1, v0.2.2.2.2.2.2.2.2.2.2.2.1, v0.2.2.2.2.2.2.2.2.2.2.2.2.1, v0.2.2.2.2.2.2.2.2.2.2.2.2.2.1, v0.2.2.2.2.2.2.2.2.2.2.2.2.2.2.1, v0.2.2.2.2.2.2.2.2.2.2.2.2.2.2.2.1, v0.2.2.2.2.2.2.2.2.2.2.2.2.2.2.2.2.1, v0.2.2.2.2.2.2.2.2.2.2.2.2.2.2.2.2.2.1, v0.2.2.2.2.2.2.2.2.2.2.2.2.2.2.2.2.2.2.1, v0.2.2.2.2.2.2.2.2.2.2.2.2.2.2.2.2.2.2.2.1, v0.2.2.2.2.2.2.2.2.2.2.2.2.2.2.2.2.2.2.2.2.1, v0.2.2.2.2.2.2.2.2.2.2.2.2.2.2.2.2.2.2.2.2.2.1, v0.2.2.2.2.2.2.2.2.2.2.2.2.2.2.2.2.2.2.2.2.2.2)) := hD
  exact w_Model_keep_38 X (v0.1, v0.2.1, v0.2.2.1, v0.2.2.2.1, v0.2.2.2.2.1, v0.2.2.2.2.2.1, (upd v0.2.2.2.2.2.2.1 (((40 : Int32) * v1) + (v0.2.2.2.2.2.2.2.1 v1.toNatClampNeg)).toNatClampNeg v2), (upd v0.2.2.2.2.2.2.2.1 v1.toNatClampNeg ((v0.2.2.2.2.2.2.2.1 v1.toNatClampNeg) + (1 : Int32))), v0.2.2.2.2.2.2.2.2.1, v0.2.2.2.2.2.2.2.2.2.1, v0.2.2.2.2.2.2.2.2.2.2.1, v0.2.2.2.2.2.2.2.2.2.2.2.1, v0.2.2.2.2.2.2.2.2.2.2.2.2.1, v0.2.2.2.2.2.2.2.2.2.2.2.2.2.1, v0.2.2.2.2.2.2.2.2.2.2.2.2.2.2.1, v0.2.2.2.2.2.2.2.2.2.2.2.2.2.2.2.1, v0.2.2.2.2.2.2.2.2.2.2.2.2.2.2.2.2.1, v0.2.2.2.2.2.2.2.2.2.2.2.2.2.2.2.2.2.1, v0.2.2.2.2.2.2.2.2.2.2.2.2.2.2.2.2.2.2.1, v0.2.2.2.2.2.2.2.2.2.2.2.2.2.2.2.2.2.2.2.1, v0.2.2.2.2.2.2.2.2.2.2.2.2.2.2.2.2.2.2.2.2.1, v0.2.2.2.2.2.2.2.2.2.2.2.2.2.2.2.2.2.2.2.2.2.1, v0.2.2.2.2.2.2.2.2.2.2.2.2.2.2.2.2.2.2.2.2.2.2) ls H locs h (lv_sub hl [] rfl) hP hD hS

set_option maxHeartbeats 4000000 in
set_option maxRecDepth 100000 in
theorem c_Model_keep (l : Launch) (D : va_G) (cC cI : ClassId) (sz : Nat) (a0_0 a0_1 a0_2 a0_3 a0_4 a0_5 a0_6 a0_7 : Nat) (v0 : T_Model) (v1 : Int32) (v2 : Int32) (out : O_Model_keep) (h : f_Model_keep v0 v1 v2 = some out) : Met l y_Model_keep (.code y_Model_keep b_Model_keep 3 none :: BIG) rm_Model_keep (va_Pc [.ref a0_0, .int v1, .int v2] (xPre D cC cI (wd_Model_keep cC cI a0_0 a0_1 a0_2 a0_3 a0_4 a0_5 a0_6 a0_7 v0) sz)) (q_Model_keep D cC cI a0_0 a0_1 a0_2 a0_3 a0_4 a0_5 a0_6 a0_7 out (va_A (wd_Model_keep cC cI a0_0 a0_1 a0_2 a0_3 a0_4 a0_5 a0_6 a0_7 v0) sz)) 0 0 (va_A (wd_Model_keep cC cI a0_0 a0_1 a0_2 a0_3 a0_4 a0_5 a0_6 a0_7 v0) sz) := by
  refine Met.ofW (cc := b_Model_keep) (maxL := 3) (ret := none) (by decide) rfl ?_
  intro p e s m args below meth c s₁ B hml hv
  obtain ⟨rfl, rfl, hP, hD0, hG, hZ⟩ := hv
  have hl := lv_entry [.ref a0_0, .int v1, .int v2] (n := 3) (Nat.le_of_ble_eq_true rfl)
  rw [lg_entry_eq]
  exact w_Model_keep (x_cx B hml hG hZ) v0 v1 v2 h hl hP hD0.self va_S.rf

abbrev wd_Model_affix (cC cI : ClassId) (a0_0 a0_1 a0_2 a0_3 a0_4 a0_5 a0_6 a0_7 : Nat) (v0 : T_Model) : va_W := [(a0_0, .inr (11, [.ref a0_1, .int v0.2.1, .ref a0_2, .int v0.2.2.2.1, .int v0.2.2.2.2.1, .int v0.2.2.2.2.2.1, .ref a0_3, .ref a0_4, .ref a0_5, .int v0.2.2.2.2.2.2.2.2.2.1, .int v0.2.2.2.2.2.2.2.2.2.2.1, .int v0.2.2.2.2.2.2.2.2.2.2.2.1, .int v0.2.2.2.2.2.2.2.2.2.2.2.2.1, .ref a0_6, .int v0.2.2.2.2.2.2.2.2.2.2.2.2.2.2.1, .int v0.2.2.2.2.2.2.2.2.2.2.2.2.2.2.2.1, .int v0.2.2.2.2.2.2.2.2.2.2.2.2.2.2.2.2.1, .ref a0_7, .long v0.2.2.2.2.2.2.2.2.2.2.2.2.2.2.2.2.2.2.1, .int v0.2.2.2.2.2.2.2.2.2.2.2.2.2.2.2.2.2.2.2.1, .long v0.2.2.2.2.2.2.2.2.2.2.2.2.2.2.2.2.2.2.2.2.1, .int v0.2.2.2.2.2.2.2.2.2.2.2.2.2.2.2.2.2.2.2.2.2.1, .int v0.2.2.2.2.2.2.2.2.2.2.2.2.2.2.2.2.2.2.2.2.2.2])), (a0_1, .inl (cC, 120, .inl v0.1)), (a0_2, .inl (cC, 200, .inl v0.2.2.1)), (a0_3, .inl (cI, 160, .inl v0.2.2.2.2.2.2.1)), (a0_4, .inl (cI, 4, .inl v0.2.2.2.2.2.2.2.1)), (a0_5, .inl (cI, 7, .inl v0.2.2.2.2.2.2.2.2.1)), (a0_6, .inl (cI, 40, .inl v0.2.2.2.2.2.2.2.2.2.2.2.2.2.1)), (a0_7, .inl (cI, 6, .inl v0.2.2.2.2.2.2.2.2.2.2.2.2.2.2.2.2.2.1))]
abbrev O_Model_affix : Type := T_Model
abbrev q_Model_affix (D : va_G) (cC cI : ClassId) (a0_0 a0_1 a0_2 a0_3 a0_4 a0_5 a0_6 a0_7 : Nat)  (out : O_Model_affix) (A : Nat → Prop) : Array Value → State → Outcome → State → Prop := va_Qv (fun _ : Unit => True) (fun _ t => va_P D classes (wd_Model_affix cC cI a0_0 a0_1 a0_2 a0_3 a0_4 a0_5 a0_6 a0_7 out) t.heap ∧ va_D A (wd_Model_affix cC cI a0_0 a0_1 a0_2 a0_3 a0_4 a0_5 a0_6 a0_7 out)) A
abbrev rm_Model_affix : Room := { frames := 1, cells := 0, slots := 0, locals := 22 }
def J_Model_affix_21 (p : Program) (l : Launch) (e : Env) (s : State) (m : MethodId) (args : Array Value) (below : List Frame) (meth : Method) (c : Code) (A : Nat → Prop) (D : va_G) (cC cI : ClassId) (a0_0 a0_1 a0_2 a0_3 a0_4 a0_5 a0_6 a0_7 : Nat) (out : O_Model_affix) (k : T_Model → Int32 → Int32 → Option O_Model_affix) : Prop := ∀ (v0 : T_Model) (x1 : Int32) (s0 : Int32) (ls : Array Slot) (H : Heap) (locs : List Loc), k v0 x1 s0 = some out → lv_has ls 3 [(0, .ref a0_0), (1, .int x1)] → va_P D classes (wd_Model_affix cC cI a0_0 a0_1 a0_2 a0_3 a0_4 a0_5 a0_6 a0_7 v0) H → va_D A (wd_Model_affix cC cI a0_0 a0_1 a0_2 a0_3 a0_4 a0_5 a0_6 a0_7 v0) → va_S A s.heap H locs → W p l e rm_Model_affix s m args below meth c H locs 0 0 (MQ below (q_Model_affix D cC cI a0_0 a0_1 a0_2 a0_3 a0_4 a0_5 a0_6 a0_7 out A) args s 0 0 A) (F0 m 21 ls [.int s0])
def J_Model_affix_22 (p : Program) (l : Launch) (e : Env) (s : State) (m : MethodId) (args : Array Value) (below : List Frame) (meth : Method) (c : Code) (A : Nat → Prop) (D : va_G) (cC cI : ClassId) (a0_0 a0_1 a0_2 a0_3 a0_4 a0_5 a0_6 a0_7 : Nat) (out : O_Model_affix) (k : T_Model → Int32 → Int32 → Option O_Model_affix) : Prop := ∀ (v0 : T_Model) (x1 : Int32) (x2 : Int32) (ls : Array Slot) (H : Heap) (locs : List Loc), k v0 x1 x2 = some out → lv_has ls 3 [(0, .ref a0_0), (1, .int x1), (2, .int x2)] → va_P D classes (wd_Model_affix cC cI a0_0 a0_1 a0_2 a0_3 a0_4 a0_5 a0_6 a0_7 v0) H → va_D A (wd_Model_affix cC cI a0_0 a0_1 a0_2 a0_3 a0_4 a0_5 a0_6 a0_7 v0) → va_S A s.heap H locs → W p l e rm_Model_affix s m args below meth c H locs 0 0 (MQ below (q_Model_affix D cC cI a0_0 a0_1 a0_2 a0_3 a0_4 a0_5 a0_6 a0_7 out A) args s 0 0 A) (F0 m 22 ls [])
def J_Model_affix_74 (p : Program) (l : Launch) (e : Env) (s : State) (m : MethodId) (args : Array Value) (below : List Frame) (meth : Method) (c : Code) (A : Nat → Prop) (D : va_G) (cC cI : ClassId) (a0_0 a0_1 a0_2 a0_3 a0_4 a0_5 a0_6 a0_7 : Nat) (out : O_Model_affix) (k : T_Model → Int32 → Option O_Model_affix) : Prop := ∀ (v0 : T_Model) (x1 : Int32) (ls : Array Slot) (H : Heap) (locs : List Loc), k v0 x1 = some out → lv_has ls 3 [(0, .ref a0_0), (1, .int x1)] → va_P D classes (wd_Model_affix cC cI a0_0 a0_1 a0_2 a0_3 a0_4 a0_5 a0_6 a0_7 v0) H → va_D A (wd_Model_affix cC cI a0_0 a0_1 a0_2 a0_3 a0_4 a0_5 a0_6 a0_7 v0) → va_S A s.heap H locs → W p l e rm_Model_affix s m args below meth c H locs 0 0 (MQ below (q_Model_affix D cC cI a0_0 a0_1 a0_2 a0_3 a0_4 a0_5 a0_6 a0_7 out A) args s 0 0 A) (F0 m 74 ls [])
def J_Model_affix_139 (p : Program) (l : Launch) (e : Env) (s : State) (m : MethodId) (args : Array Value) (below : List Frame) (meth : Method) (c : Code) (A : Nat → Prop) (D : va_G) (cC cI : ClassId) (a0_0 a0_1 a0_2 a0_3 a0_4 a0_5 a0_6 a0_7 : Nat) (out : O_Model_affix) (k : T_Model → Int32 → Option O_Model_affix) : Prop := ∀ (v0 : T_Model) (x1 : Int32) (ls : Array Slot) (H : Heap) (locs : List Loc), k v0 x1 = some out → lv_has ls 3 [(0, .ref a0_0), (1, .int x1)] → va_P D classes (wd_Model_affix cC cI a0_0 a0_1 a0_2 a0_3 a0_4 a0_5 a0_6 a0_7 v0) H → va_D A (wd_Model_affix cC cI a0_0 a0_1 a0_2 a0_3 a0_4 a0_5 a0_6 a0_7 v0) → va_S A s.heap H locs → W p l e rm_Model_affix s m args below meth c H locs 0 0 (MQ below (q_Model_affix D cC cI a0_0 a0_1 a0_2 a0_3 a0_4 a0_5 a0_6 a0_7 out A) args s 0 0 A) (F0 m 139 ls [])
def J_Model_affix_168 (p : Program) (l : Launch) (e : Env) (s : State) (m : MethodId) (args : Array Value) (below : List Frame) (meth : Method) (c : Code) (A : Nat → Prop) (D : va_G) (cC cI : ClassId) (a0_0 a0_1 a0_2 a0_3 a0_4 a0_5 a0_6 a0_7 : Nat) (out : O_Model_affix) (k : T_Model → Int32 → Int32 → Option O_Model_affix) : Prop := ∀ (v0 : T_Model) (x1 : Int32) (s1 : Int32) (ls : Array Slot) (H : Heap) (locs : List Loc), k v0 x1 s1 = some out → lv_has ls 3 [(0, .ref a0_0), (1, .int x1)] → va_P D classes (wd_Model_affix cC cI a0_0 a0_1 a0_2 a0_3 a0_4 a0_5 a0_6 a0_7 v0) H → va_D A (wd_Model_affix cC cI a0_0 a0_1 a0_2 a0_3 a0_4 a0_5 a0_6 a0_7 v0) → va_S A s.heap H locs → W p l e rm_Model_affix s m args below meth c H locs 0 0 (MQ below (q_Model_affix D cC cI a0_0 a0_1 a0_2 a0_3 a0_4 a0_5 a0_6 a0_7 out A) args s 0 0 A) (F0 m 168 ls [.int s1, .ref a0_0])
def J_Model_affix_177 (p : Program) (l : Launch) (e : Env) (s : State) (m : MethodId) (args : Array Value) (below : List Frame) (meth : Method) (c : Code) (A : Nat → Prop) (D : va_G) (cC cI : ClassId) (a0_0 a0_1 a0_2 a0_3 a0_4 a0_5 a0_6 a0_7 : Nat) (out : O_Model_affix) (k : T_Model → Int32 → Int32 → Int32 → Option O_Model_affix) : Prop := ∀ (v0 : T_Model) (x1 : Int32) (s1 : Int32) (s2 : Int32) (ls : Array Slot) (H : Heap) (locs : List Loc), k v0 x1 s1 s2 = some out → lv_has ls 3 [(0, .ref a0_0), (1, .int x1)] → va_P D classes (wd_Model_affix cC cI a0_0 a0_1 a0_2 a0_3 a0_4 a0_5 a0_6 a0_7 v0) H → va_D A (wd_Model_affix cC cI a0_0 a0_1 a0_2 a0_3 a0_4 a0_5 a0_6 a0_7 v0) → va_S A s.heap H locs → W p l e rm_Model_affix s m args below meth c H locs 0 0 (MQ below (q_Model_affix D cC cI a0_0 a0_1 a0_2 a0_3 a0_4 a0_5 a0_6 a0_7 out A) args s 0 0 A) (F0 m 177 ls [.int s2, .int s1, .ref a0_0])
def J_Model_affix_190 (p : Program) (l : Launch) (e : Env) (s : State) (m : MethodId) (args : Array Value) (below : List Frame) (meth : Method) (c : Code) (A : Nat → Prop) (D : va_G) (cC cI : ClassId) (a0_0 a0_1 a0_2 a0_3 a0_4 a0_5 a0_6 a0_7 : Nat) (out : O_Model_affix) (k : T_Model → Int32 → Option O_Model_affix) : Prop := ∀ (v0 : T_Model) (x1 : Int32) (ls : Array Slot) (H : Heap) (locs : List Loc), k v0 x1 = some out → lv_has ls 3 [(0, .ref a0_0), (1, .int x1)] → va_P D classes (wd_Model_affix cC cI a0_0 a0_1 a0_2 a0_3 a0_4 a0_5 a0_6 a0_7 v0) H → va_D A (wd_Model_affix cC cI a0_0 a0_1 a0_2 a0_3 a0_4 a0_5 a0_6 a0_7 v0) → va_S A s.heap H locs → W p l e rm_Model_affix s m args below meth c H locs 0 0 (MQ below (q_Model_affix D cC cI a0_0 a0_1 a0_2 a0_3 a0_4 a0_5 a0_6 a0_7 out A) args s 0 0 A) (F0 m 190 ls [])
def J_Model_affix_206 (p : Program) (l : Launch) (e : Env) (s : State) (m : MethodId) (args : Array Value) (below : List Frame) (meth : Method) (c : Code) (A : Nat → Prop) (D : va_G) (cC cI : ClassId) (a0_0 a0_1 a0_2 a0_3 a0_4 a0_5 a0_6 a0_7 : Nat) (out : O_Model_affix) (k : T_Model → Int32 → Int32 → Option O_Model_affix) : Prop := ∀ (v0 : T_Model) (x1 : Int32) (s0 : Int32) (ls : Array Slot) (H : Heap) (locs : List Loc), k v0 x1 s0 = some out → lv_has ls 3 [(0, .ref a0_0), (1, .int x1)] → va_P D classes (wd_Model_affix cC cI a0_0 a0_1 a0_2 a0_3 a0_4 a0_5 a0_6 a0_7 v0) H → va_D A (wd_Model_affix cC cI a0_0 a0_1 a0_2 a0_3 a0_4 a0_5 a0_6 a0_7 v0) → va_S A s.heap H locs → W p l e rm_Model_affix s m args below meth c H locs 0 0 (MQ below (q_Model_affix D cC cI a0_0 a0_1 a0_2 a0_3 a0_4 a0_5 a0_6 a0_7 out A) args s 0 0 A) (F0 m 206 ls [.int s0])
def f_Model_affix_206 (k22 : T_Model → Int32 → Int32 → Option O_Model_affix) (v0 : T_Model) (x1 : Int32) (s0 : Int32) : Option O_Model_affix := k22 v0 x1 s0
set_option maxHeartbeats 4000000 in
set_option maxRecDepth 100000 in
theorem w_Model_affix_206 {p : Program} {l : Launch} {e : Env} {s : State} {m : MethodId} {args : Array Value} {below : List Frame} {meth : Method} {c : Code} {A : Nat → Prop} {D : va_G} {cC cI : ClassId} {a0_0 a0_1 a0_2 a0_3 a0_4 a0_5 a0_6 a0_7 : Nat} (X : xCX p s m args meth c A D cC cI b_Model_affix 3 R_Model none) {out : O_Model_affix} {k22 : T_Model → Int32 → Int32 → Option O_Model_affix} (hk22 : J_Model_affix_22 p l e s m args below meth c A D cC cI a0_0 a0_1 a0_2 a0_3 a0_4 a0_5 a0_6 a0_7 out k22) : J_Model_affix_206 p l e s m args below meth c A D cC cI a0_0 a0_1 a0_2 a0_3 a0_4 a0_5 a0_6 a0_7 out (f_Model_affix_206  k22) := by
  obtain ⟨hx, hb, hml, hown, htB, ⟨hK, hN⟩, hZ, hA, hr, hlocks⟩ := id X
  intro v0 x1 s0 ls H locs h hl hP hD hS
  refine lv_istore_n (lv' := [(2, .int s0), (0, .ref a0_0), (1, .int x1)]) hx hb d_Model_affix_206 rfl hl (by decide) rfl (fun ls hl => ?_)
  refine lv_goto (tgt := 22) hx hb d_Model_affix_207 rfl ?_
  exact hk22 v0 x1 s0 ls H locs h (lv_sub hl [1, 2, 0] rfl) hP hD hS

def f_Model_affix_190 (k22 : T_Model → Int32 → Int32 → Option O_Model_affix) (v0 : T_Model) (x1 : Int32) : Option O_Model_affix := (if v0.2.1 ≤ v0.2.2.2.2.2.2.2.2.2.1 then f_Model_affix_206 k22 v0 x1 (0 : Int32) else f_Model_affix_206 k22 v0 x1 (1 : Int32))
set_option maxHeartbeats 4000000 in
set_option maxRecDepth 100000 in
theorem w_Model_affix_190 {p : Program} {l : Launch} {e : Env} {s : State} {m : MethodId} {args : Array Value} {below : List Frame} {meth : Method} {c : Code} {A : Nat → Prop} {D : va_G} {cC cI : ClassId} {a0_0 a0_1 a0_2 a0_3 a0_4 a0_5 a0_6 a0_7 : Nat} (X : xCX p s m args meth c A D cC cI b_Model_affix 3 R_Model none) {out : O_Model_affix} {k22 : T_Model → Int32 → Int32 → Option O_Model_affix} (hk22 : J_Model_affix_22 p l e s m args below meth c A D cC cI a0_0 a0_1 a0_2 a0_3 a0_4 a0_5 a0_6 a0_7 out k22) : J_Model_affix_190 p l e s m args below meth c A D cC cI a0_0 a0_1 a0_2 a0_3 a0_4 a0_5 a0_6 a0_7 out (f_Model_affix_190  k22) := by
  obtain ⟨hx, hb, hml, hown, htB, ⟨hK, hN⟩, hZ, hA, hr, hlocks⟩ := id X
  intro v0 x1 ls H locs h hl hP hD hS
  refine lv_aload_n hx hb d_Model_affix_190 rfl (lv_at hl 0 rfl) ?_
  refine va_get (D := D) (ci := 11) (v := .int v0.2.2.2.2.2.2.2.2.2.1) (C := R_Model) (T := F_Model) (N := 23) hx hb htB in_Model hown hK hP 0 rfl rfl 9 (by decide) (htB _ b_317) (fun _ h9 => h9) rfl d_Model_affix_191 ?_
  refine lv_aload_n hx hb d_Model_affix_194 rfl (lv_at hl 0 rfl) ?_
  refine va_get (D := D) (ci := 11) (v := .int v0.2.1) (C := R_Model) (T := F_Model) (N := 23) hx hb htB in_Model hown hK hP 0 rfl rfl 1 (by decide) (htB _ b_309) (fun _ h9 => h9) rfl d_Model_affix_195 ?_
  refine lv_icmp_ge (tgt := 205) hx hb d_Model_affix_198 rfl (fun hc => ?_) (fun hc => ?_)
  · have h := (if_pos hc).symm.trans h
    refine lv_iconst (v := 0) hx hb d_Model_affix_205 (by decide) ?_
    exact w_Model_affix_206 X hk22 v0 x1 (0 : Int32) ls H locs h (lv_sub hl [0, 1] rfl) hP hD hS
  have h := (if_neg hc).symm.trans h
  refine lv_iconst (v := 1) hx hb d_Model_affix_201 (by decide) ?_
  refine lv_goto (tgt := 206) hx hb d_Model_affix_202 rfl ?_
  exact w_Model_affix_206 X hk22 v0 x1 (1 : Int32) ls H locs h (lv_sub hl [0, 1] rfl) hP hD hS

def f_Model_affix_177 (k22 : T_Model → Int32 → Int32 → Option O_Model_affix) (v0 : T_Model) (x1 : Int32) (s1 : Int32) (s2 : Int32) : Option O_Model_affix := (f_Model_keep v0 s1 s2).bind (fun o177 => f_Model_affix_190 k22 (o177.1, o177.2.1, o177.2.2.1, o177.2.2.2.1, o177.2.2.2.2.1, o177.2.2.2.2.2.1, o177.2.2.2.2.2.2.1, o177.2.2.2.2.2.2.2.1, o177.2.2.2.2.2.2.2.2.1, (o177.2.2.2.2.2.2.2.2.2.1 + (1 : Int32)), o177.2.2.2.2.2.2.2.2.2.2.1, o177.2.2.2.2.2.2.2.2.2.2.2.1, o177.2.2.2.2.2.2.2.2.2.2.2.2.1, o177.2.2.2.2.2.2.2.2.2.2.2.2.2.1, o177.2.2.2.2.2.2.2.2.2.2.2.2.2.2.1, o177.2.2.2.2.2.2.2.2.2.2.2.2.2.2.2.1, o177.2.2.2.2.2.2.2.2.2.2.2.2.2.2.2.2.1, o177.2.2.2.2.2.2.2.2.2.2.2.2.2.2.2.2.2.1, o177.2.2.2.2.2.2.2.2.2.2.2.2.2.2.2.2.2.2.1, o177.2.2.2.2.2.2.2.2.2.2.2.2.2.2.2.2.2.2.2.1, o177.2.2.2.2.2.2.2.2.2.2.2.2.2.2.2.2.2.2.2.2.1, o177.2.2.2.2.2.2.2.2.2.2.2.2.2.2.2.2.2.2.2.2.2.1, o177.2.2.2.2.2.2.2.2.2.2.2.2.2.2.2.2.2.2.2.2.2.2) x1)
set_option maxHeartbeats 4000000 in
set_option maxRecDepth 100000 in
theorem w_Model_affix_177 {p : Program} {l : Launch} {e : Env} {s : State} {m : MethodId} {args : Array Value} {below : List Frame} {meth : Method} {c : Code} {A : Nat → Prop} {D : va_G} {cC cI : ClassId} {a0_0 a0_1 a0_2 a0_3 a0_4 a0_5 a0_6 a0_7 : Nat} (X : xCX p s m args meth c A D cC cI b_Model_affix 3 R_Model none) {out : O_Model_affix} {k22 : T_Model → Int32 → Int32 → Option O_Model_affix} (hk22 : J_Model_affix_22 p l e s m args below meth c A D cC cI a0_0 a0_1 a0_2 a0_3 a0_4 a0_5 a0_6 a0_7 out k22) : J_Model_affix_177 p l e s m args below meth c A D cC cI a0_0 a0_1 a0_2 a0_3 a0_4 a0_5 a0_6 a0_7 out (f_Model_affix_177  k22) := by
  obtain ⟨hx, hb, hml, hown, htB, ⟨hK, hN⟩, hZ, hA, hr, hlocks⟩ := id X
  intro v0 x1 s1 s2 ls H locs h hl hP hD hS
  obtain ⟨o177, ho177, h⟩ := x_bnd h
  refine x_callv (ws2 := (wd_Model_affix cC cI a0_0 a0_1 a0_2 a0_3 a0_4 a0_5 a0_6 a0_7 o177)) (x_runV (As := [.int s1, .int s2]) (rest := []) X (c_Model_keep l D cC cI H.size a0_0 a0_1 a0_2 a0_3 a0_4 a0_5 a0_6 a0_7 v0 s1 s2 o177 ho177) b_323 2 (htB _ b_326) (htB _ b_324) (htB _ b_325) (htB _ b_319) ⟨by decide, by decide, by decide +kernel⟩ ⟨(Nat.le_of_ble_eq_true rfl), (Nat.le_of_ble_eq_true rfl)⟩ 0 rfl rfl hP hD hS [0, 1, 2, 3, 4, 5, 6, 7] rfl (by decide) rfl rfl hl.1 rfl rfl (Nat.le_of_ble_eq_true rfl) d_Model_affix_177) hP hD hS hA [0, 1, 2, 3, 4, 5, 6, 7] [] [0, 1, 2, 3, 4, 5, 6, 7] rfl rfl (by decide) (by decide) rfl (by decide) (fun H locs hP hD hS => ?_)
  refine lv_aload_n hx hb d_Model_affix_180 rfl (lv_at hl 0 rfl) ?_
  refine lv_aload_n hx hb d_Model_affix_181 rfl (lv_at hl 0 rfl) ?_
  refine va_get (D := D) (ci := 11) (v := .int o177.2.2.2.2.2.2.2.2.2.1) (C := R_Model) (T := F_Model) (N := 23) hx hb htB in_Model hown hK hP 0 rfl rfl 9 (by decide) (htB _ b_317) (fun _ h9 => h9) rfl d_Model_affix_182 ?_
  refine lv_iconst (v := 1) hx hb d_Model_affix_185 (by decide) ?_
  refine lv_iadd hx hb d_Model_affix_186 ?_
  refine va_put (D := D) (ci := 11) (v := .int (o177.2.2.2.2.2.2.2.2.2.1 + (1 : Int32))) (ty := .int) (C := R_Model) (T := F_Model) (N := 23) hx hb htB in_Model t_Model t_Model_ok n_Model hown hK hP hD hS 0 rfl rfl 9 (by decide) (htB _ b_317) (fun _ h9 => h9) rfl (by decide +kernel) rfl rfl (Nat.le_of_ble_eq_true rfl) d_Model_affix_187 (fun H locs hP hD hS => ?_)
  have hP : va_P D classes (wd_Model_affix cC cI a0_0 a0_1 a0_2 a0_3 a0_4 a0_5 a0_6 a0_7 (o177.1, o177.2.1, o177.2.2.1, o177.2.2.2.1, o177.2.2.2.2.1, o177.2.2.2.2.2.1, o177.2.2.2.2.2.2.1, o177.2.2.2.2.2.2.2.1, o177.2.2.2.2.2.2.2.2.1, (o177.2.2.2.2.2.2.2.2.2.1 + (1 : Int32)), o177.2.2.2.2.2.2.2.2.2.2.1, o177.2.2.2.2.2.2.2.2.2.2.2.1, o177.2.2.2.2.2.2.2.2.2.2.2.2.1, o177.2.2.2.2.2.2.2.2.2.2.2.2.2.1, o177.2.2.2.2.2.2.2.2.2.2.2.2.2.2.1, o177.2.2.2.2.2.2.2.2.2.2.2.2.2.2.2.1, o177.2.2.2.2.2.2.2.2.2.2.2.2.2.2.2.2.1, o177.2.2.2.2.2.2.2.2.2.2.2.2.2.2.2.2.2.1, o177.2.2.2.2.2.2.2.2.2.2.2.2.2.2.2.2.2.2.1, o177.2.2.2.2.2.2.2.2.2.2.2.2.2.2.2.2.2.2.2.1, o177.2.2.2.2.2.2.2.2.2.2.2.2.2.2.2.2.2.2.2.2.1, o177.2.2.2.2.2.2.2.2.2.2.2.2.2.2.2.2.2.2.2.2.2.1, o177.2.2.2.2.2.2.2.2.2.2.2.2.2.2.2.2.2.2.2.2.2.2)) H := hP
  have hD : va_D A (wd_Model_affix cC cI a0_0 a0_1 a0_2 a0_3 a0_4 a0_5 a0_6 a0_7 (o177.1, o177.2.1, o177.2.2.1, o177.2.2.2.1, o177.2.2.2.2.1, o177.2.2.2.2.2.1, o177.2.2.2.2.2.2.1, o177.2.2.2.2.2.2.2.1, o177.2.2.2.2.2.2.2.2.1, (o177.2.2.2.2.2.2.2.2.2.1 + (1 : Int32)), o177.2.2.2.2.2.2.2.2.2.2.1, o177.2.2.2.2.2.2.2.2.2.2.2.1, o177.2.2.2.2.2.2.2.2.2.2.2.2.1, o177.2.2.2.2.2.2.2.2.2.2.2.2.2.1, o177.2.2.2.2.2.2.2.2.2.2.2.2.2.2.1, o177.2.2.2.2.2.2.2.2.2.2.2.2.2.2.2.1, o177.2.2.2.2.2.2.2.2.2.2.2.2.2.2.2.2.1, o177.2.2.2.2.2.2.2.2.2.2.2.2.2.2.2.2.2.1, o177.2.2.2.2.2.2.2.2.2.2.2.2.2.2.2.2.2.2.1, o177.2.2.2.2.2.2.2.2.2.2.2.2.2.2.2.2.2.2.2.1, o177.2.2.2.2.2.2.2.2.2.2.2.2.2.2.2.2.2.2.2.2.1, o177.2.2.2.2.2.2.2.2.2.2.2.2.2.2.2.2.2.2.2.2.2.1, o177.2.2.2.2.2.2.2.2.2.2.2.2.2.2.2.2.2.2.2.2.2.2)) := hD
  exact w_Model_affix_190 X hk22 (o177.1, o177.2.1, o177.2.2.1, o177.2.2.2.1, o177.2.2.2.2.1, o177.2.2.2.2.2.1, o177.2.2.2.2.2.2.1, o177.2.2.2.2.2.2.2.1, o177.2.2.2.2.2.2.2.2.1, (o177.2.2.2.2.2.2.2.2.2.1 + (1 : Int32)), o177.2.2.2.2.2.2.2.2.2.2.1, o177.2.2.2.2.2.2.2.2.2.2.2.1, o177.2.2.2.2.2.2.2.2.2.2.2.2.1, o177.2.2.2.2.2.2.2.2.2.2.2.2.2.1, o177.2.2.2.2.2.2.2.2.2.2.2.2.2.2.1, o177.2.2.2.2.2.2.2.2.2.2.2.2.2.2.2.1, o177.2.2.2.2.2.2.2.2.2.2.2.2.2.2.2.2.1, o177.2.2.2.2.2.2.2.2.2.2.2.2.2.2.2.2.2.1, o177.2.2.2.2.2.2.2.2.2.2.2.2.2.2.2.2.2.2.1, o177.2.2.2.2.2.2.2.2.2.2.2.2.2.2.2.2.2.2.2.1, o177.2.2.2.2.2.2.2.2.2.2.2.2.2.2.2.2.2.2.2.2.1, o177.2.2.2.2.2.2.2.2.2.2.2.2.2.2.2.2.2.2.2.2.2.1, o177.2.2.2.2.2.2.2.2.2.2.2.2.2.2.2.2.2.2.2.2.2.2) x1 ls H locs h (lv_sub hl [0, 1] rfl) hP hD hS

def f_Model_affix_168 (k22 : T_Model → Int32 → Int32 → Option O_Model_affix) (v0 : T_Model) (x1 : Int32) (s1 : Int32) : Option O_Model_affix := if ix v0.2.2.2.2.2.2.2.2.2.1 120 then f_Model_affix_177 k22 v0 x1 s1 (v0.1 v0.2.2.2.2.2.2.2.2.2.1.toNatClampNeg) else none
set_option maxHeartbeats 4000000 in
set_option maxRecDepth 100000 in
theorem w_Model_affix_168 {p : Program} {l : Launch} {e : Env} {s : State} {m : MethodId} {args : Array Value} {below : List Frame} {meth : Method} {c : Code} {A : Nat → Prop} {D : va_G} {cC cI : ClassId} {a0_0 a0_1 a0_2 a0_3 a0_4 a0_5 a0_6 a0_7 : Nat} (X : xCX p s m args meth c A D cC cI b_Model_affix 3 R_Model none) {out : O_Model_affix} {k22 : T_Model → Int32 → Int32 → Option O_Model_affix} (hk22 : J_Model_affix_22 p l e s m args below meth c A D cC cI a0_0 a0_1 a0_2 a0_3 a0_4 a0_5 a0_6 a0_7 out k22) : J_Model_affix_168 p l e s m args below meth c A D cC cI a0_0 a0_1 a0_2 a0_3 a0_4 a0_5 a0_6 a0_7 out (f_Model_affix_168  k22) := by
  obtain ⟨hx, hb, hml, hown, htB, ⟨hK, hN⟩, hZ, hA, hr, hlocks⟩ := id X
  intro v0 x1 s1 ls H locs h hl hP hD hS
  refine lv_aload_n hx hb d_Model_affix_168 rfl (lv_at hl 0 rfl) ?_
  refine va_get (D := D) (ci := 11) (v := .ref a0_1) (C := R_Model) (T := F_Model) (N := 23) hx hb htB in_Model hown hK hP 0 rfl rfl 0 (by decide) (htB _ b_310) (fun _ h9 => h9) rfl d_Model_affix_169 ?_
  refine lv_aload_n hx hb d_Model_affix_172 rfl (lv_at hl 0 rfl) ?_
  refine va_get (D := D) (ci := 11) (v := .int v0.2.2.2.2.2.2.2.2.2.1) (C := R_Model) (T := F_Model) (N := 23) hx hb htB in_Model hown hK hP 0 rfl rfl 9 (by decide) (htB _ b_317) (fun _ h9 => h9) rfl d_Model_affix_173 ?_
  obtain ⟨hc, h⟩ := x_chk h
  refine va_cald hx hb hK hP 1 0 rfl rfl hc d_Model_affix_176 ?_
  exact w_Model_affix_177 X hk22 v0 x1 s1 (v0.1 v0.2.2.2.2.2.2.2.2.2.1.toNatClampNeg) ls H locs h (lv_sub hl [0, 1] rfl) hP hD hS

def f_Model_affix_139 (k22 : T_Model → Int32 → Int32 → Option O_Model_affix) (v0 : T_Model) (x1 : Int32) : Option O_Model_affix := (if v0.2.2.2.2.2.2.2.2.2.2.2.1 = 0 then if ix v0.2.2.2.2.2.2.2.2.2.1 120 then (if (v0.1 v0.2.2.2.2.2.2.2.2.2.1.toNatClampNeg) = (37 : Int32) then f_Model_affix_177 k22 v0 x1 x1 (200 : Int32) else f_Model_affix_168 k22 v0 x1 x1) else none else f_Model_affix_168 k22 v0 x1 x1)
set_option maxHeartbeats 4000000 in
set_option maxRecDepth 100000 in
theorem w_Model_affix_139 {p : Program} {l : Launch} {e : Env} {s : State} {m : MethodId} {args : Array Value} {below : List Frame} {meth : Method} {c : Code} {A : Nat → Prop} {D : va_G} {cC cI : ClassId} {a0_0 a0_1 a0_2 a0_3 a0_4 a0_5 a0_6 a0_7 : Nat} (X : xCX p s m args meth c A D cC cI b_Model_affix 3 R_Model none) {out : O_Model_affix} {k22 : T_Model → Int32 → Int32 → Option O_Model_affix} (hk22 : J_Model_affix_22 p l e s m args below meth c A D cC cI a0_0 a0_1 a0_2 a0_3 a0_4 a0_5 a0_6 a0_7 out k22) : J_Model_affix_139 p l e s m args below meth c A D cC cI a0_0 a0_1 a0_2 a0_3 a0_4 a0_5 a0_6 a0_7 out (f_Model_affix_139  k22) := by
  obtain ⟨hx, hb, hml, hown, htB, ⟨hK, hN⟩, hZ, hA, hr, hlocks⟩ := id X
  intro v0 x1 ls H locs h hl hP hD hS
  refine lv_aload_n hx hb d_Model_affix_139 rfl (lv_at hl 0 rfl) ?_
  refine lv_iload_n hx hb d_Model_affix_140 rfl (lv_at hl 1 rfl) ?_
  refine lv_aload_n hx hb d_Model_affix_141 rfl (lv_at hl 0 rfl) ?_
  refine va_get (D := D) (ci := 11) (v := .int v0.2.2.2.2.2.2.2.2.2.2.2.1) (C := R_Model) (T := F_Model) (N := 23) hx hb htB in_Model hown hK hP 0 rfl rfl 11 (by decide) (htB _ b_316) (fun _ h9 => h9) rfl d_Model_affix_142 ?_
  refine lv_if_ne (tgt := 168) hx hb d_Model_affix_145 rfl (fun hc => ?_) (fun hc => ?_)
  · have h := (if_neg hc).symm.trans h
    exact w_Model_affix_168 X hk22 v0 x1 x1 ls H locs h (lv_sub hl [0, 1] rfl) hP hD hS
  have h := (if_pos hc).symm.trans h
  refine lv_aload_n hx hb d_Model_affix_148 rfl (lv_at hl 0 rfl) ?_
  refine va_get (D := D) (ci := 11) (v := .ref a0_1) (C := R_Model) (T := F_Model) (N := 23) hx hb htB in_Model hown hK hP 0 rfl rfl 0 (by decide) (htB _ b_310) (fun _ h9 => h9) rfl d_Model_affix_149 ?_
  refine lv_aload_n hx hb d_Model_affix_152 rfl (lv_at hl 0 rfl) ?_
  refine va_get (D := D) (ci := 11) (v := .int v0.2.2.2.2.2.2.2.2.2.1) (C := R_Model) (T := F_Model) (N := 23) hx hb htB in_Model hown hK hP 0 rfl rfl 9 (by decide) (htB _ b_317) (fun _ h9 => h9) rfl d_Model_affix_153 ?_
  obtain ⟨hc, h⟩ := x_chk h
  refine va_cald hx hb hK hP 1 0 rfl rfl hc d_Model_affix_156 ?_
  refine lv_bipush (v := 37) hx hb d_Model_affix_157 (by decide) ?_
  refine lv_icmp_ne (tgt := 168) hx hb d_Model_affix_159 rfl (fun hc => ?_) (fun hc => ?_)
  · have h := (if_neg hc).symm.trans h
    exact w_Model_affix_168 X hk22 v0 x1 x1 ls H locs h (lv_sub hl [0, 1] rfl) hP hD hS
  have h := (if_pos hc).symm.trans h
  refine lv_sipush (v := 200) hx hb d_Model_affix_162 (by decide) ?_
  refine lv_goto (tgt := 177) hx hb d_Model_affix_165 rfl ?_
  exact w_Model_affix_177 X hk22 v0 x1 x1 (200 : Int32) ls H locs h (lv_sub hl [0, 1] rfl) hP hD hS

def J_Model_affix_100 (p : Program) (l : Launch) (e : Env) (s : State) (m : MethodId) (args : Array Value) (below : List Frame) (meth : Method) (c : Code) (A : Nat → Prop) (D : va_G) (cC cI : ClassId) (a0_0 a0_1 a0_2 a0_3 a0_4 a0_5 a0_6 a0_7 : Nat) (out : O_Model_affix) (k : T_Model → Int32 → Int32 → Option O_Model_affix) : Prop := ∀ (v0 : T_Model) (x1 : Int32) (s1 : Int32) (ls : Array Slot) (H : Heap) (locs : List Loc), k v0 x1 s1 = some out → lv_has ls 3 [(0, .ref a0_0), (1, .int x1)] → va_P D classes (wd_Model_affix cC cI a0_0 a0_1 a0_2 a0_3 a0_4 a0_5 a0_6 a0_7 v0) H → va_D A (wd_Model_affix cC cI a0_0 a0_1 a0_2 a0_3 a0_4 a0_5 a0_6 a0_7 v0) → va_S A s.heap H locs → W p l e rm_Model_affix s m args below meth c H locs 0 0 (MQ below (q_Model_affix D cC cI a0_0 a0_1 a0_2 a0_3 a0_4 a0_5 a0_6 a0_7 out A) args s 0 0 A) (F0 m 100 ls [.int s1, .ref a0_0])
def f_Model_affix_100 (k22 : T_Model → Int32 → Int32 → Option O_Model_affix) (v0 : T_Model) (x1 : Int32) (s1 : Int32) : Option O_Model_affix := if (s1 = 0 ∨ s1 = 1) then f_Model_affix_190 k22 (v0.1, v0.2.1, v0.2.2.1, v0.2.2.2.1, v0.2.2.2.2.1, v0.2.2.2.2.2.1, v0.2.2.2.2.2.2.1, v0.2.2.2.2.2.2.2.1, v0.2.2.2.2.2.2.2.2.1, (v0.2.2.2.2.2.2.2.2.2.1 + (1 : Int32)), v0.2.2.2.2.2.2.2.2.2.2.1, s1, v0.2.2.2.2.2.2.2.2.2.2.2.2.1, v0.2.2.2.2.2.2.2.2.2.2.2.2.2.1, v0.2.2.2.2.2.2.2.2.2.2.2.2.2.2.1, v0.2.2.2.2.2.2.2.2.2.2.2.2.2.2.2.1, v0.2.2.2.2.2.2.2.2.2.2.2.2.2.2.2.2.1, v0.2.2.2.2.2.2.2.2.2.2.2.2.2.2.2.2.2.1, v0.2.2.2.2.2.2.2.2.2.2.2.2.2.2.2.2.2.2.1, v0.2.2.2.2.2.2.2.2.2.2.2.2.2.2.2.2.2.2.2.1, v0.2.2.2.2.2.2.2.2.2.2.2.2.2.2.2.2.2.2.2.2.1, v0.2.2.2.2.2.2.2.2.2.2.2.2.2.2.2.2.2.2.2.2.2.1, v0.2.2.2.2.2.2.2.2.2.2.2.2.2.2.2.2.2.2.2.2.2.2) x1 else none
set_option maxHeartbeats 4000000 in
set_option maxRecDepth 100000 in
theorem w_Model_affix_100 {p : Program} {l : Launch} {e : Env} {s : State} {m : MethodId} {args : Array Value} {below : List Frame} {meth : Method} {c : Code} {A : Nat → Prop} {D : va_G} {cC cI : ClassId} {a0_0 a0_1 a0_2 a0_3 a0_4 a0_5 a0_6 a0_7 : Nat} (X : xCX p s m args meth c A D cC cI b_Model_affix 3 R_Model none) {out : O_Model_affix} {k22 : T_Model → Int32 → Int32 → Option O_Model_affix} (hk22 : J_Model_affix_22 p l e s m args below meth c A D cC cI a0_0 a0_1 a0_2 a0_3 a0_4 a0_5 a0_6 a0_7 out k22) : J_Model_affix_100 p l e s m args below meth c A D cC cI a0_0 a0_1 a0_2 a0_3 a0_4 a0_5 a0_6 a0_7 out (f_Model_affix_100  k22) := by
  obtain ⟨hx, hb, hml, hown, htB, ⟨hK, hN⟩, hZ, hA, hr, hlocks⟩ := id X
  intro v0 x1 s1 ls H locs h hl hP hD hS
  obtain ⟨hc, h⟩ := x_chk h
  refine va_put (D := D) (ci := 11) (v := .int s1) (ty := .boolean) (C := R_Model) (T := F_Model) (N := 23) hx hb htB in_Model t_Model t_Model_ok n_Model hown hK hP hD hS 0 rfl rfl 11 (by decide) (htB _ b_316) (fun _ h9 => h9) rfl (by decide +kernel) (x_zn hc) (x_zf hc) (Nat.le_of_ble_eq_true rfl) d_Model_affix_100 (fun H locs hP hD hS => ?_)
  have hP : va_P D classes (wd_Model_affix cC cI a0_0 a0_1 a0_2 a0_3 a0_4 a0_5 a0_6 a0_7 (v0.1, v0.2.1, v0.2.2.1, v0.2.2.2.1, v0.2.2.2.2.1, v0.2.2.2.2.2.1, v0.2.2.2.2.2.2.1, v0.2.2.2.2.2.2.2.1, v0.2.2.2.2.2.2.2.2.1, v0.2.2.2.2.2.2.2.2.2.1, v0.2.2.2.2.2.2.2.2.2.2.1, s1, v0.2.2.2.2.2.2.2.2.2.2.2.2.1, v0.2.2.2.2.2.2.2.2.2.2.2.2.2.1, v0.2.2.2.2.2.2.2.2.2.2.2.2.2.2.1, v0.2.2.2.2.2.2.2.2.2.2.2.2.2.2.2.1, v0.2.2.2.2.2.2.2.2.2.2.2.2.2.2.2.2.1, v0.2.2.2.2.2.2.2.2.2.2.2.2.2.2.2.2.2.1, v0.2.2.2.2.2.2.2.2.2.2.2.2.2.2.2.2.2.2.1, v0.2.2.2.2.2.2.2.2.2.2.2.2.2.2.2.2.2.2.2.1, v0.2.2.2.2.2.2.2.2.2.2.2.2.2.2.2.2.2.2.2.2.1, v0.2.2.2.2.2.2.2.2.2.2.2.2.2.2.2.2.2.2.2.2.2.1, v0.2.2.2.2.2.2.2.2.2.2.2.2.2.2.2.2.2.2.2.2.2.2)) H := hP
  have hD : va_D A (wd_Model_affix cC cI a0_0 a0_1 a0_2 a0_3 a0_4 a0_5 a0_6 a0_7 (v0.1, v0.2.1, v0.2.2.1, v0.2.2.2.1, v0.2.2.2.2.1, v0.2.2.2.2.2.1, v0.2.2.2.2.2.2.1, v0.2.2.2.2.2.2.2.1, v0.2.2.2.2.2.2.2.2.1, v0.2.2.2.2.2.2.2.2.2.1, v0.2.2.2.2.2.2.2.2.2.2.1, s1, v0.2.2.2.2.2.2.2.2.2.2.2.2.1, v0.2.2.2.2.2.2.2.2.2.2.2.2.2.1, v0.2.2.2.2.2.2.2.2.2.2.2.2.2.2.1, v0.2.2.2.2.2.2.2.2.2.2.2.2.2.2.2.1, v0.2.2.2.2.2.2.2.2.2.2.2.2.2.2.2.2.1, v0.2.2.2.2.2.2.2.2.2.2.2.2.2.2.2.2.2.1, v0.2.2.2.2.2.2.2.2.2.2.2.2.2.2.2.2.2.2.1, v0.2.2.2.2.2.2.2.2.2.2.2.2.2.2.2.2.2.2.2.1, v0.2.2.2.2.2.2.2.2.2.2.2.2.2.2.2.2.2.2.2.2.1, v0.2.2.2.2.2.2.2.2.2.2.2.2.2.2.2.2.2.2.2.2.2.1, v0.2.2.2.2.2.2.2.2.2.2.2.2.2.2.2.2.2.2.2.2.2.2)) := hD
  refine lv_aload_n hx hb d_Model_affix_103 rfl (lv_at hl 0 rfl) ?_
  refine lv_aload_n hx hb d_Model_affix_104 rfl (lv_at hl 0 rfl) ?_
  refine va_get (D := D) (ci := 11) (v := .int v0.2.2.2.2.2.2.2.2.2.1) (C := R_Model) (T := F_Model) (N := 23) hx hb htB in_Model hown hK hP 0 rfl rfl 9 (by decide) (htB _ b_317) (fun _ h9 => h9) rfl d_Model_affix_105 ?_
  refine lv_iconst (v := 1) hx hb d_Model_affix_108 (by decide) ?_
  refine lv_iadd hx hb d_Model_affix_109 ?_
  refine va_put (D := D) (ci := 11) (v := .int (v0.2.2.2.2.2.2.2.2.2.1 + (1 : Int32))) (ty := .int) (C := R_Model) (T := F_Model) (N := 23) hx hb htB in_Model t_Model t_Model_ok n_Model hown hK hP hD hS 0 rfl rfl 9 (by decide) (htB _ b_317) (fun _ h9 => h9) rfl (by decide +kernel) rfl rfl (Nat.le_of_ble_eq_true rfl) d_Model_affix_110 (fun H locs hP hD hS => ?_)
  have hP : va_P D classes (wd_Model_affix cC cI a0_0 a0_1 a0_2 a0_3 a0_4 a0_5 a0_6 a0_7 (v0.1, v0.2.1, v0.2.2.1, v0.2.2.2.1, v0.2.2.2.2.1, v0.2.2.2.2.2.1, v0.2.2.2.2.2.2.1, v0.2.2.2.2.2.2.2.1, v0.2.2.2.2.2.2.2.2.1, (v0.2.2.2.2.2.2.2.2.2.1 + (1 : Int32)), v0.2.2.2.2.2.2.2.2.2.2.1, s1, v0.2.2.2.2.2.2.2.2.2.2.2.2.1, v0.2.2.2.2.2.2.2.2.2.2.2.2.2.1, v0.2.2.2.2.2.2.2.2.2.2.2.2.2.2.1, v0.2.2.2.2.2.2.2.2.2.2.2.2.2.2.2.1, v0.2.2.2.2.2.2.2.2.2.2.2.2.2.2.2.2.1, v0.2.2.2.2.2.2.2.2.2.2.2.2.2.2.2.2.2.1, v0.2.2.2.2.2.2.2.2.2.2.2.2.2.2.2.2.2.2.1, v0.2.2.2.2.2.2.2.2.2.2.2.2.2.2.2.2.2.2.2.1, v0.2.2.2.2.2.2.2.2.2.2.2.2.2.2.2.2.2.2.2.2.1, v0.2.2.2.2.2.2.2.2.2.2.2.2.2.2.2.2.2.2.2.2.2.1, v0.2.2.2.2.2.2.2.2.2.2.2.2.2.2.2.2.2.2.2.2.2.2)) H := hP
  have hD : va_D A (wd_Model_affix cC cI a0_0 a0_1 a0_2 a0_3 a0_4 a0_5 a0_6 a0_7 (v0.1, v0.2.1, v0.2.2.1, v0.2.2.2.1, v0.2.2.2.2.1, v0.2.2.2.2.2.1, v0.2.2.2.2.2.2.1, v0.2.2.2.2.2.2.2.1, v0.2.2.2.2.2.2.2.2.1, (v0.2.2.2.2.2.2.2.2.2.1 + (1 : Int32)), v0.2.2.2.2.2.2.2.2.2.2.1, s1, v0.2.2.2.2.2.2.2.2.2.2.2.2.1, v0.2.2.2.2.2.2.2.2.2.2.2.2.2.1, v0.2.2.2.2.2.2.2.2.2.2.2.2.2.2.1, v0.2.2.2.2.2.2.2.2.2.2.2.2.2.2.2.1, v0.2.2.2.2.2.2.2.2.2.2.2.2.2.2.2.2.1, v0.2.2.2.2.2.2.2.2.2.2.2.2.2.2.2.2.2.1, v0.2.2.2.2.2.2.2.2.2.2.2.2.2.2.2.2.2.2.1, v0.2.2.2.2.2.2.2.2.2.2.2.2.2.2.2.2.2.2.2.1, v0.2.2.2.2.2.2.2.2.2.2.2.2.2.2.2.2.2.2.2.2.1, v0.2.2.2.2.2.2.2.2.2.2.2.2.2.2.2.2.2.2.2.2.2.1, v0.2.2.2.2.2.2.2.2.2.2.2.2.2.2.2.2.2.2.2.2.2.2)) := hD
  refine lv_goto (tgt := 190) hx hb d_Model_affix_113 rfl ?_
  exact w_Model_affix_190 X hk22 (v0.1, v0.2.1, v0.2.2.1, v0.2.2.2.1, v0.2.2.2.2.1, v0.2.2.2.2.2.1, v0.2.2.2.2.2.2.1, v0.2.2.2.2.2.2.2.1, v0.2.2.2.2.2.2.2.2.1, (v0.2.2.2.2.2.2.2.2.2.1 + (1 : Int32)), v0.2.2.2.2.2.2.2.2.2.2.1, s1, v0.2.2.2.2.2.2.2.2.2.2.2.2.1, v0.2.2.2.2.2.2.2.2.2.2.2.2.2.1, v0.2.2.2.2.2.2.2.2.2.2.2.2.2.2.1, v0.2.2.2.2.2.2.2.2.2.2.2.2.2.2.2.1, v0.2.2.2.2.2.2.2.2.2.2.2.2.2.2.2.2.1, v0.2.2.2.2.2.2.2.2.2.2.2.2.2.2.2.2.2.1, v0.2.2.2.2.2.2.2.2.2.2.2.2.2.2.2.2.2.2.1, v0.2.2.2.2.2.2.2.2.2.2.2.2.2.2.2.2.2.2.2.1, v0.2.2.2.2.2.2.2.2.2.2.2.2.2.2.2.2.2.2.2.2.1, v0.2.2.2.2.2.2.2.2.2.2.2.2.2.2.2.2.2.2.2.2.2.1, v0.2.2.2.2.2.2.2.2.2.2.2.2.2.2.2.2.2.2.2.2.2.2) x1 ls H locs h (lv_sub hl [0, 1] rfl) hP hD hS

def f_Model_affix_74 (k22 : T_Model → Int32 → Int32 → Option O_Model_affix) (v0 : T_Model) (x1 : Int32) : Option O_Model_affix := (f_Model_is v0 v0.2.2.2.2.2.2.2.2.2.1 (39 : Int32)).bind (fun o81 => (if o81 = 0 then (if v0.2.2.2.2.2.2.2.2.2.2.2.1 = 0 then if ix v0.2.2.2.2.2.2.2.2.2.1 120 then (f_Model_special (v0.1 v0.2.2.2.2.2.2.2.2.2.1.toNatClampNeg)).bind (fun o132 => (if o132 = 0 then f_Model_affix_139 k22 v0 x1 else some v0)) else none else f_Model_affix_139 k22 v0 x1) else (if v0.2.2.2.2.2.2.2.2.2.2.2.1 = 0 then f_Model_affix_100 k22 v0 x1 (1 : Int32) else f_Model_affix_100 k22 v0 x1 (0 : Int32))))
set_option maxHeartbeats 4000000 in
set_option maxRecDepth 100000 in
theorem w_Model_affix_74 {p : Program} {l : Launch} {e : Env} {s : State} {m : MethodId} {args : Array Value} {below : List Frame} {meth : Method} {c : Code} {A : Nat → Prop} {D : va_G} {cC cI : ClassId} {a0_0 a0_1 a0_2 a0_3 a0_4 a0_5 a0_6 a0_7 : Nat} (X : xCX p s m args meth c A D cC cI b_Model_affix 3 R_Model none) {out : O_Model_affix} {k22 : T_Model → Int32 → Int32 → Option O_Model_affix} (hk22 : J_Model_affix_22 p l e s m args below meth c A D cC cI a0_0 a0_1 a0_2 a0_3 a0_4 a0_5 a0_6 a0_7 out k22) : J_Model_affix_74 p l e s m args below meth c A D cC cI a0_0 a0_1 a0_2 a0_3 a0_4 a0_5 a0_6 a0_7 out (f_Model_affix_74  k22) := by
  obtain ⟨hx, hb, hml, hown, htB, ⟨hK, hN⟩, hZ, hA, hr, hlocks⟩ := id X
  intro v0 x1 ls H locs h hl hP hD hS
  refine lv_aload_n hx hb d_Model_affix_74 rfl (lv_at hl 0 rfl) ?_
  refine lv_aload_n hx hb d_Model_affix_75 rfl (lv_at hl 0 rfl) ?_
  refine va_get (D := D) (ci := 11) (v := .int v0.2.2.2.2.2.2.2.2.2.1) (C := R_Model) (T := F_Model) (N := 23) hx hb htB in_Model hown hK hP 0 rfl rfl 9 (by decide) (htB _ b_317) (fun _ h9 => h9) rfl d_Model_affix_76 ?_
  refine lv_bipush (v := 39) hx hb d_Model_affix_79 (by decide) ?_
  obtain ⟨o81, ho81, h⟩ := x_bnd h
  refine x_calli (r0 := o81) (ws2 := (wd_Model_affix cC cI a0_0 a0_1 a0_2 a0_3 a0_4 a0_5 a0_6 a0_7 v0)) (x_runV (As := [.int v0.2.2.2.2.2.2.2.2.2.1, .int (39 : Int32)]) (rest := []) X (c_Model_is l D cC cI H.size a0_0 a0_1 a0_2 a0_3 a0_4 a0_5 a0_6 a0_7 v0 v0.2.2.2.2.2.2.2.2.2.1 (39 : Int32) o81 ho81) b_318 2 (htB _ b_322) (htB _ b_320) (htB _ b_321) (htB _ b_319) ⟨by decide, by decide, by decide +kernel⟩ ⟨(Nat.le_of_ble_eq_true rfl), (Nat.le_of_ble_eq_true rfl)⟩ 0 rfl rfl hP hD hS [0, 1, 2, 3, 4, 5, 6, 7] rfl (by decide) rfl rfl hl.1 rfl rfl (Nat.le_of_ble_eq_true rfl) d_Model_affix_81) hP hD hS hA [0, 1, 2, 3, 4, 5, 6, 7] [] [0, 1, 2, 3, 4, 5, 6, 7] rfl rfl (by decide) (by decide) rfl (by decide) (fun H locs hP hD hS => ?_)
  refine lv_if_eq (tgt := 116) hx hb d_Model_affix_84 rfl (fun hc => ?_) (fun hc => ?_)
  · have h := (if_pos hc).symm.trans h
    refine lv_aload_n hx hb d_Model_affix_116 rfl (lv_at hl 0 rfl) ?_
    refine va_get (D := D) (ci := 11) (v := .int v0.2.2.2.2.2.2.2.2.2.2.2.1) (C := R_Model) (T := F_Model) (N := 23) hx hb htB in_Model hown hK hP 0 rfl rfl 11 (by decide) (htB _ b_316) (fun _ h9 => h9) rfl d_Model_affix_117 ?_
    refine lv_if_ne (tgt := 139) hx hb d_Model_affix_120 rfl (fun hc => ?_) (fun hc => ?_)
    · have h := (if_neg hc).symm.trans h
      exact w_Model_affix_139 X hk22 v0 x1 ls H locs h (lv_sub hl [0, 1] rfl) hP hD hS
    have h := (if_pos hc).symm.trans h
    refine lv_aload_n hx hb d_Model_affix_123 rfl (lv_at hl 0 rfl) ?_
    refine va_get (D := D) (ci := 11) (v := .ref a0_1) (C := R_Model) (T := F_Model) (N := 23) hx hb htB in_Model hown hK hP 0 rfl rfl 0 (by decide) (htB _ b_310) (fun _ h9 => h9) rfl d_Model_affix_124 ?_
    refine lv_aload_n hx hb d_Model_affix_127 rfl (lv_at hl 0 rfl) ?_
    refine va_get (D := D) (ci := 11) (v := .int v0.2.2.2.2.2.2.2.2.2.1) (C := R_Model) (T := F_Model) (N := 23) hx hb htB in_Model hown hK hP 0 rfl rfl 9 (by decide) (htB _ b_317) (fun _ h9 => h9) rfl d_Model_affix_128 ?_
    obtain ⟨hc, h⟩ := x_chk h
    refine va_cald hx hb hK hP 1 0 rfl rfl hc d_Model_affix_131 ?_
    obtain ⟨o132, ho132, h⟩ := x_bnd h
    refine x_calli (r0 := o132) (ws2 := (wd_Model_affix cC cI a0_0 a0_1 a0_2 a0_3 a0_4 a0_5 a0_6 a0_7 v0)) (x_runS (As := [.int (v0.1 v0.2.2.2.2.2.2.2.2.2.1.toNatClampNeg)]) (rest := []) X (c_Model_special l D cC cI H.size (v0.1 v0.2.2.2.2.2.2.2.2.2.1.toNatClampNeg) o132 ho132) b_327 1 (htB _ b_329) (htB _ b_328) (htB _ b_319) ⟨by decide, by decide, by decide +kernel⟩ ⟨(Nat.le_of_ble_eq_true rfl), (Nat.le_of_ble_eq_true rfl)⟩ hP hD hS [] rfl (by decide) rfl rfl hl.1 rfl rfl (Nat.le_of_ble_eq_true rfl) d_Model_affix_132) hP hD hS hA [] [0, 1, 2, 3, 4, 5, 6, 7] [0, 1, 2, 3, 4, 5, 6, 7] rfl rfl (by decide) (by decide) rfl (by decide) (fun H locs hP hD hS => ?_)
    refine lv_if_eq (tgt := 139) hx hb d_Model_affix_135 rfl (fun hc => ?_) (fun hc => ?_)
    · have h := (if_pos hc).symm.trans h
      exact w_Model_affix_139 X hk22 v0 x1 ls H locs h (lv_sub hl [0, 1] rfl) hP hD hS
    have h := (if_neg hc).symm.trans h
    obtain rfl := Option.some.inj h
    exact W.vret hx hb hr (fun t ht hW => ⟨⟨(), rfl, trivial, by rw [ht]; exact hP, hD⟩, hS.F ht⟩) hS.2.2 d_Model_affix_138 hlocks
  have h := (if_neg hc).symm.trans h
  refine lv_aload_n hx hb d_Model_affix_87 rfl (lv_at hl 0 rfl) ?_
  refine lv_aload_n hx hb d_Model_affix_88 rfl (lv_at hl 0 rfl) ?_
  refine va_get (D := D) (ci := 11) (v := .int v0.2.2.2.2.2.2.2.2.2.2.2.1) (C := R_Model) (T := F_Model) (N := 23) hx hb htB in_Model hown hK hP 0 rfl rfl 11 (by decide) (htB _ b_316) (fun _ h9 => h9) rfl d_Model_affix_89 ?_
  refine lv_if_ne (tgt := 99) hx hb d_Model_affix_92 rfl (fun hc => ?_) (fun hc => ?_)
  · have h := (if_neg hc).symm.trans h
    refine lv_iconst (v := 0) hx hb d_Model_affix_99 (by decide) ?_
    exact w_Model_affix_100 X hk22 v0 x1 (0 : Int32) ls H locs h (lv_sub hl [0, 1] rfl) hP hD hS
  have h := (if_pos hc).symm.trans h
  refine lv_iconst (v := 1) hx hb d_Model_affix_95 (by decide) ?_
  refine lv_goto (tgt := 100) hx hb d_Model_affix_96 rfl ?_
  exact w_Model_affix_100 X hk22 v0 x1 (1 : Int32) ls H locs h (lv_sub hl [0, 1] rfl) hP hD hS

def f_Model_affix_22   : Nat → T_Model → Int32 → Int32 → Option O_Model_affix
  | 0, _, _, _ => none
  | n + 1, v0, x1, x2 => (if x2 = 0 then some v0 else (f_Model_is v0 v0.2.2.2.2.2.2.2.2.2.1 (39 : Int32)).bind (fun o33 => (if o33 = 0 then f_Model_affix_74 (f_Model_affix_22  n) v0 x1 else (f_Model_is v0 (v0.2.2.2.2.2.2.2.2.2.1 + (1 : Int32)) (39 : Int32)).bind (fun o48 => (if o48 = 0 then f_Model_affix_74 (f_Model_affix_22  n) v0 x1 else (f_Model_keep v0 x1 (39 : Int32)).bind (fun o58 => f_Model_affix_190 (f_Model_affix_22  n) (o58.1, o58.2.1, o58.2.2.1, o58.2.2.2.1, o58.2.2.2.2.1, o58.2.2.2.2.2.1, o58.2.2.2.2.2.2.1, o58.2.2.2.2.2.2.2.1, o58.2.2.2.2.2.2.2.2.1, (o58.2.2.2.2.2.2.2.2.2.1 + (2 : Int32)), o58.2.2.2.2.2.2.2.2.2.2.1, o58.2.2.2.2.2.2.2.2.2.2.2.1, o58.2.2.2.2.2.2.2.2.2.2.2.2.1, o58.2.2.2.2.2.2.2.2.2.2.2.2.2.1, o58.2.2.2.2.2.2.2.2.2.2.2.2.2.2.1, o58.2.2.2.2.2.2.2.2.2.2.2.2.2.2.2.1, o58.2.2.2.2.2.2.2.2.2.2.2.2.2.2.2.2.1, o58.2.2.2.2.2.2.2.2.2.2.2.2.2.2.2.2.2.1, o58.2.2.2.2.2.2.2.2.2.2.2.2.2.2.2.2.2.2.1, o58.2.2.2.2.2.2.2.2.2.2.2.2.2.2.2.2.2.2.2.1, o58.2.2.2.2.2.2.2.2.2.2.2.2.2.2.2.2.2.2.2.2.1, o58.2.2.2.2.2.2.2.2.2.2.2.2.2.2.2.2.2.2.2.2.2.1, o58.2.2.2.2.2.2.2.2.2.2.2.2.2.2.2.2.2.2.2.2.2.2) x1))))))
set_option maxHeartbeats 4000000 in
set_option maxRecDepth 100000 in
theorem w_Model_affix_22 {p : Program} {l : Launch} {e : Env} {s : State} {m : MethodId} {args : Array Value} {below : List Frame} {meth : Method} {c : Code} {A : Nat → Prop} {D : va_G} {cC cI : ClassId} {a0_0 a0_1 a0_2 a0_3 a0_4 a0_5 a0_6 a0_7 : Nat} (X : xCX p s m args meth c A D cC cI b_Model_affix 3 R_Model none) {out : O_Model_affix}   : ∀ n : Nat, J_Model_affix_22 p l e s m args below meth c A D cC cI a0_0 a0_1 a0_2 a0_3 a0_4 a0_5 a0_6 a0_7 out (f_Model_affix_22   n) := by
  obtain ⟨hx, hb, hml, hown, htB, ⟨hK, hN⟩, hZ, hA, hr, hlocks⟩ := id X
  intro n
  induction n with
  | zero =>
    intro v0 x1 x2 ls H locs h hl hP hD hS
    cases h
  | succ n ih =>
    intro v0 x1 x2 ls H locs h hl hP hD hS
    refine lv_iload_n hx hb d_Model_affix_22 rfl (lv_at hl 2 rfl) ?_
    refine lv_if_eq (tgt := 210) hx hb d_Model_affix_23 rfl (fun hc => ?_) (fun hc => ?_)
    · have h := (if_pos hc).symm.trans h
      obtain rfl := Option.some.inj h
      exact W.vret hx hb hr (fun t ht hW => ⟨⟨(), rfl, trivial, by rw [ht]; exact hP, hD⟩, hS.F ht⟩) hS.2.2 d_Model_affix_210 hlocks
    have h := (if_neg hc).symm.trans h
    refine lv_aload_n hx hb d_Model_affix_26 rfl (lv_at hl 0 rfl) ?_
    refine lv_aload_n hx hb d_Model_affix_27 rfl (lv_at hl 0 rfl) ?_
    refine va_get (D := D) (ci := 11) (v := .int v0.2.2.2.2.2.2.2.2.2.1) (C := R_Model) (T := F_Model) (N := 23) hx hb htB in_Model hown hK hP 0 rfl rfl 9 (by decide) (htB _ b_317) (fun _ h9 => h9) rfl d_Model_affix_28 ?_
    refine lv_bipush (v := 39) hx hb d_Model_affix_31 (by decide) ?_
    obtain ⟨o33, ho33, h⟩ := x_bnd h
    refine x_calli (r0 := o33) (ws2 := (wd_Model_affix cC cI a0_0 a0_1 a0_2 a0_3 a0_4 a0_5 a0_6 a0_7 v0)) (x_runV (As := [.int v0.2.2.2.2.2.2.2.2.2.1, .int (39 : Int32)]) (rest := []) X (c_Model_is l D cC cI H.size a0_0 a0_1 a0_2 a0_3 a0_4 a0_5 a0_6 a0_7 v0 v0.2.2.2.2.2.2.2.2.2.1 (39 : Int32) o33 ho33) b_318 2 (htB _ b_322) (htB _ b_320) (htB _ b_321) (htB _ b_319) ⟨by decide, by decide, by decide +kernel⟩ ⟨(Nat.le_of_ble_eq_true rfl), (Nat.le_of_ble_eq_true rfl)⟩ 0 rfl rfl hP hD hS [0, 1, 2, 3, 4, 5, 6, 7] rfl (by decide) rfl rfl hl.1 rfl rfl (Nat.le_of_ble_eq_true rfl) d_Model_affix_33) hP hD hS hA [0, 1, 2, 3, 4, 5, 6, 7] [] [0, 1, 2, 3, 4, 5, 6, 7] rfl rfl (by decide) (by decide) rfl (by decide) (fun H locs hP hD hS => ?_)
    refine lv_if_eq (tgt := 74) hx hb d_Model_affix_36 rfl (fun hc => ?_) (fun hc => ?_)
    · have h := (if_pos hc).symm.trans h
      exact w_Model_affix_74 X ih v0 x1 ls H locs h (lv_sub hl [0, 1] rfl) hP hD hS
    have h := (if_neg hc).symm.trans h
    refine lv_aload_n hx hb d_Model_affix_39 rfl (lv_at hl 0 rfl) ?_
    refine lv_aload_n hx hb d_Model_affix_40 rfl (lv_at hl 0 rfl) ?_
    refine va_get (D := D) (ci := 11) (v := .int v0.2.2.2.2.2.2.2.2.2.1) (C := R_Model) (T := F_Model) (N := 23) hx hb htB in_Model hown hK hP 0 rfl rfl 9 (by decide) (htB _ b_317) (fun _ h9 => h9) rfl d_Model_affix_41 ?_
    refine lv_iconst (v := 1) hx hb d_Model_affix_44 (by decide) ?_
    refine lv_iadd hx hb d_Model_affix_45 ?_
    refine lv_bipush (v := 39) hx hb d_Model_affix_46 (by decide) ?_
    obtain ⟨o48, ho48, h⟩ := x_bnd h
    refine x_calli (r0 := o48) (ws2 := (wd_Model_affix cC cI a0_0 a0_1 a0_2 a0_3 a0_4 a0_5 a0_6 a0_7 v0)) (x_runV (As := [.int (v0.2.2.2.2.2.2.2.2.2.1 + (1 : Int32)), .int (39 : Int32)]) (rest := []) X (c_Model_is l D cC cI H.size a0_0 a0_1 a0_2 a0_3 a0_4 a0_5 a0_6 a0_7 v0 (v0.2.2.2.2.2.2.2.2.2.1 + (1 : Int32)) (39 : Int32) o48 ho48) b_318 2 (htB _ b_322) (htB _ b_320) (htB _ b_321) (htB _ b_319) ⟨by decide, by decide, by decide +kernel⟩ ⟨(Nat.le_of_ble_eq_true rfl), (Nat.le_of_ble_eq_true rfl)⟩ 0 rfl rfl hP hD hS [0, 1, 2, 3, 4, 5, 6, 7] rfl (by decide) rfl rfl hl.1 rfl rfl (Nat.le_of_ble_eq_true rfl) d_Model_affix_48) hP hD hS hA [0, 1, 2, 3, 4, 5, 6, 7] [] [0, 1, 2, 3, 4, 5, 6, 7] rfl rfl (by decide) (by decide) rfl (by decide) (fun H locs hP hD hS => ?_)
    refine lv_if_eq (tgt := 74) hx hb d_Model_affix_51 rfl (fun hc => ?_) (fun hc => ?_)
    · have h := (if_pos hc).symm.trans h
      exact w_Model_affix_74 X ih v0 x1 ls H locs h (lv_sub hl [0, 1] rfl) hP hD hS
    have h := (if_neg hc).symm.trans h
    refine lv_aload_n hx hb d_Model_affix_54 rfl (lv_at hl 0 rfl) ?_
    refine lv_iload_n hx hb d_Model_affix_55 rfl (lv_at hl 1 rfl) ?_
    refine lv_bipush (v := 39) hx hb d_Model_affix_56 (by decide) ?_
    obtain ⟨o58, ho58, h⟩ := x_bnd h
    refine x_callv (ws2 := (wd_Model_affix cC cI a0_0 a0_1 a0_2 a0_3 a0_4 a0_5 a0_6 a0_7 o58)) (x_runV (As := [.int x1, .int (39 : Int32)]) (rest := []) X (c_Model_keep l D cC cI H.size a0_0 a0_1 a0_2 a0_3 a0_4 a0_5 a0_6 a0_7 v0 x1 (39 : Int32) o58 ho58) b_323 2 (htB _ b_326) (htB _ b_324) (htB _ b_325) (htB _ b_319) ⟨by decide, by decide, by decide +kernel⟩ ⟨(Nat.le_of_ble_eq_true rfl), (Nat.le_of_ble_eq_true rfl)⟩ 0 rfl rfl hP hD hS [0, 1, 2, 3, 4, 5, 6, 7] rfl (by decide) rfl rfl hl.1 rfl rfl (Nat.le_of_ble_eq_true rfl) d_Model_affix_58) hP hD hS hA [0, 1, 2, 3, 4, 5, 6, 7] [] [0, 1, 2, 3, 4, 5, 6, 7] rfl rfl (by decide) (by decide) rfl (by decide) (fun H locs hP hD hS => ?_)
    refine lv_aload_n hx hb d_Model_affix_61 rfl (lv_at hl 0 rfl) ?_
    refine lv_aload_n hx hb d_Model_affix_62 rfl (lv_at hl 0 rfl) ?_
    refine va_get (D := D) (ci := 11) (v := .int o58.2.2.2.2.2.2.2.2.2.1) (C := R_Model) (T := F_Model) (N := 23) hx hb htB in_Model hown hK hP 0 rfl rfl 9 (by decide) (htB _ b_317) (fun _ h9 => h9) rfl d_Model_affix_63 ?_
    refine lv_iconst (v := 2) hx hb d_Model_affix_66 (by decide) ?_
    refine lv_iadd hx hb d_Model_affix_67 ?_
    refine va_put (D := D) (ci := 11) (v := .int (o58.2.2.2.2.2.2.2.2.2.1 + (2 : Int32))) (ty := .int) (C := R_Model) (T := F_Model) (N := 23) hx hb htB in_Model t_Model t_Model_ok n_Model hown hK hP hD hS 0 rfl rfl 9 (by decide) (htB _ b_317) (fun _ h9 => h9) rfl (by decide +kernel) rfl rfl (Nat.le_of_ble_eq_true rfl) d_Model_affix_68 (fun H locs hP hD hS => ?_)
    have hP : va_P D classes (wd_Model_affix cC cI a0_0 a0_1 a0_2 a0_3 a0_4 a0_5 a0_6 a0_7 (o58.1, o58.2.1, o58.2.2.1, o58.2.2.2.1, o58.2.2.2.2.1, o58.2.2.2.2.2.1, o58.2.2.2.2.2.2.1, o58.2.2.2.2.2.2.2.1, o58.2.2.2.2.2.2.2.2.1, (o58.2.2.2.2.2.2.2.2.2.1 + (2 : Int32)), o58.2.2.2.2.2.2.2.2.2.2.1, o58.2.2.2.2.2.2.2.2.2.2.2.1, o58.2.2.2.2.2.2.2.2.2.2.2.2.1, o58.2.2.2.2.2.2.2.2.2.2.2.2.2.1, o58.2.2.2.2.2.2.2.2.2.2.2.2.2.2.1, o58.2.2.2.2.2.2.2.2.2.2.2.2.2.2.2.1, o58.2.2.2.2.2.2.2.2.2.2.2.2.2.2.2.2.1, o58.2.2.2.2.2.2.2.2.2.2.2.2.2.2.2.2.2.1, o58.2.2.2.2.2.2.2.2.2.2.2.2.2.2.2.2.2.2.1, o58.2.2.2.2.2.2.2.2.2.2.2.2.2.2.2.2.2.2.2.1, o58.2.2.2.2.2.2.2.2.2.2.2.2.2.2.2.2.2.2.2.2.1, o58.2.2.2.2.2.2.2.2.2.2.2.2.2.2.2.2.2.2.2.2.2.1, o58.2.2.2.2.2.2.2.2.2.2.2.2.2.2.2.2.2.2.2.2.2.2)) H := hP
    have hD : va_D A (wd_Model_affix cC cI a0_0 a0_1 a0_2 a0_3 a0_4 a0_5 a0_6 a0_7 (o58.1, o58.2.1, o58.2.2.1, o58.2.2.2.1, o58.2.2.2.2.1, o58.2.2.2.2.2.1, o58.2.2.2.2.2.2.1, o58.2.2.2.2.2.2.2.1, o58.2.2.2.2.2.2.2.2.1, (o58.2.2.2.2.2.2.2.2.2.1 + (2 : Int32)), o58.2.2.2.2.2.2.2.2.2.2.1, o58.2.2.2.2.2.2.2.2.2.2.2.1, o58.2.2.2.2.2.2.2.2.2.2.2.2.1, o58.2.2.2.2.2.2.2.2.2.2.2.2.2.1, o58.2.2.2.2.2.2.2.2.2.2.2.2.2.2.1, o58.2.2.2.2.2.2.2.2.2.2.2.2.2.2.2.1, o58.2.2.2.2.2.2.2.2.2.2.2.2.2.2.2.2.1, o58.2.2.2.2.2.2.2.2.2.2.2.2.2.2.2.2.2.1, o58.2.2.2.2.2.2.2.2.2.2.2.2.2.2.2.2.2.2.1, o58.2.2.2.2.2.2.2.2.2.2.2.2.2.2.2.2.2.2.2.1, o58.2.2.2.2.2.2.2.2.2.2.2.2.2.2.2.2.2.2.2.2.1, o58.2.2.2.2.2.2.2.2.2.2.2.2.2.2.2.2.2.2.2.2.2.1, o58.2.2.2.2.2.2.2.2.2.2.2.2.2.2.2.2.2.2.2.2.2.2)) := hD
    refine lv_goto (tgt := 190) hx hb d_Model_affix_71 rfl ?_
    exact w_Model_affix_190 X ih (o58.1, o58.2.1, o58.2.2.1, o58.2.2.2.1, o58.2.2.2.2.1, o58.2.2.2.2.2.1, o58.2.2.2.2.2.2.1, o58.2.2.2.2.2.2.2.1, o58.2.2.2.2.2.2.2.2.1, (o58.2.2.2.2.2.2.2.2.2.1 + (2 : Int32)), o58.2.2.2.2.2.2.2.2.2.2.1, o58.2.2.2.2.2.2.2.2.2.2.2.1, o58.2.2.2.2.2.2.2.2.2.2.2.2.1, o58.2.2.2.2.2.2.2.2.2.2.2.2.2.1, o58.2.2.2.2.2.2.2.2.2.2.2.2.2.2.1, o58.2.2.2.2.2.2.2.2.2.2.2.2.2.2.2.1, o58.2.2.2.2.2.2.2.2.2.2.2.2.2.2.2.2.1, o58.2.2.2.2.2.2.2.2.2.2.2.2.2.2.2.2.2.1, o58.2.2.2.2.2.2.2.2.2.2.2.2.2.2.2.2.2.2.1, o58.2.2.2.2.2.2.2.2.2.2.2.2.2.2.2.2.2.2.2.1, o58.2.2.2.2.2.2.2.2.2.2.2.2.2.2.2.2.2.2.2.2.1, o58.2.2.2.2.2.2.2.2.2.2.2.2.2.2.2.2.2.2.2.2.2.1, o58.2.2.2.2.2.2.2.2.2.2.2.2.2.2.2.2.2.2.2.2.2.2) x1 ls H locs h (lv_sub hl [0, 1] rfl) hP hD hS

def f_Model_affix_21 (v0 : T_Model) (x1 : Int32) (s0 : Int32) : Option O_Model_affix := f_Model_affix_22 FU v0 x1 s0
set_option maxHeartbeats 4000000 in
set_option maxRecDepth 100000 in
theorem w_Model_affix_21 {p : Program} {l : Launch} {e : Env} {s : State} {m : MethodId} {args : Array Value} {below : List Frame} {meth : Method} {c : Code} {A : Nat → Prop} {D : va_G} {cC cI : ClassId} {a0_0 a0_1 a0_2 a0_3 a0_4 a0_5 a0_6 a0_7 : Nat} (X : xCX p s m args meth c A D cC cI b_Model_affix 3 R_Model none) {out : O_Model_affix}   : J_Model_affix_21 p l e s m args below meth c A D cC cI a0_0 a0_1 a0_2 a0_3 a0_4 a0_5 a0_6 a0_7 out (f_Model_affix_21  ) := by
  obtain ⟨hx, hb, hml, hown, htB, ⟨hK, hN⟩, hZ, hA, hr, hlocks⟩ := id X
  intro v0 x1 s0 ls H locs h hl hP hD hS
  refine lv_istore_n (lv' := [(2, .int s0), (0, .ref a0_0), (1, .int x1)]) hx hb d_Model_affix_21 rfl hl (by decide) rfl (fun ls hl => ?_)
  exact w_Model_affix_22 X FU v0 x1 s0 ls H locs h (lv_sub hl [1, 2, 0] rfl) hP hD hS

def f_Model_affix (v0 : T_Model) (v1 : Int32) : Option O_Model_affix := (if v0.2.1 ≤ v0.2.2.2.2.2.2.2.2.2.1 then f_Model_affix_21 (v0.1, v0.2.1, v0.2.2.1, v0.2.2.2.1, v0.2.2.2.2.1, v0.2.2.2.2.2.1, v0.2.2.2.2.2.2.1, v0.2.2.2.2.2.2.2.1, v0.2.2.2.2.2.2.2.2.1, v0.2.2.2.2.2.2.2.2.2.1, v0.2.2.2.2.2.2.2.2.2.2.1, (0 : Int32), v0.2.2.2.2.2.2.2.2.2.2.2.2.1, v0.2.2.2.2.2.2.2.2.2.2.2.2.2.1, v0.2.2.2.2.2.2.2.2.2.2.2.2.2.2.1, v0.2.2.2.2.2.2.2.2.2.2.2.2.2.2.2.1, v0.2.2.2.2.2.2.2.2.2.2.2.2.2.2.2.2.1, v0.2.2.2.2.2.2.2.2.2.2.2.2.2.2.2.2.2.1, v0.2.2.2.2.2.2.2.2.2.2.2.2.2.2.2.2.2.2.1, v0.2.2.2.2.2.2.2.2.2.2.2.2.2.2.2.2.2.2.2.1, v0.2.2.2.2.2.2.2.2.2.2.2.2.2.2.2.2.2.2.2.2.1, v0.2.2.2.2.2.2.2.2.2.2.2.2.2.2.2.2.2.2.2.2.2.1, v0.2.2.2.2.2.2.2.2.2.2.2.2.2.2.2.2.2.2.2.2.2.2) v1 (0 : Int32) else f_Model_affix_21 (v0.1, v0.2.1, v0.2.2.1, v0.2.2.2.1, v0.2.2.2.2.1, v0.2.2.2.2.2.1, v0.2.2.2.2.2.2.1, v0.2.2.2.2.2.2.2.1, v0.2.2.2.2.2.2.2.2.1, v0.2.2.2.2.2.2.2.2.2.1, v0.2.2.2.2.2.2.2.2.2.2.1, (0 : Int32), v0.2.2.2.2.2.2.2.2.2.2.2.2.1, v0.2.2.2.2.2.2.2.2.2.2.2.2.2.1, v0.2.2.2.2.2.2.2.2.2.2.2.2.2.2.1, v0.2.2.2.2.2.2.2.2.2.2.2.2.2.2.2.1, v0.2.2.2.2.2.2.2.2.2.2.2.2.2.2.2.2.1, v0.2.2.2.2.2.2.2.2.2.2.2.2.2.2.2.2.2.1, v0.2.2.2.2.2.2.2.2.2.2.2.2.2.2.2.2.2.2.1, v0.2.2.2.2.2.2.2.2.2.2.2.2.2.2.2.2.2.2.2.1, v0.2.2.2.2.2.2.2.2.2.2.2.2.2.2.2.2.2.2.2.2.1, v0.2.2.2.2.2.2.2.2.2.2.2.2.2.2.2.2.2.2.2.2.2.1, v0.2.2.2.2.2.2.2.2.2.2.2.2.2.2.2.2.2.2.2.2.2.2) v1 (1 : Int32))
set_option maxHeartbeats 4000000 in
set_option maxRecDepth 100000 in
theorem w_Model_affix {p : Program} {l : Launch} {e : Env} {s : State} {m : MethodId} {args : Array Value} {below : List Frame} {meth : Method} {c : Code} {A : Nat → Prop} {D : va_G} {cC cI : ClassId} {a0_0 a0_1 a0_2 a0_3 a0_4 a0_5 a0_6 a0_7 : Nat} (X : xCX p s m args meth c A D cC cI b_Model_affix 3 R_Model none) {out : O_Model_affix} (v0 : T_Model) (v1 : Int32) {ls : Array Slot} {H : Heap} {locs : List Loc} (h : f_Model_affix v0 v1 = some out) (hl : lv_has ls 3 [(0, .ref a0_0), (1, .int v1)]) (hP : va_P D classes (wd_Model_affix cC cI a0_0 a0_1 a0_2 a0_3 a0_4 a0_5 a0_6 a0_7 v0) H) (hD : va_D A (wd_Model_affix cC cI a0_0 a0_1 a0_2 a0_3 a0_4 a0_5 a0_6 a0_7 v0)) (hS : va_S A s.heap H locs) : W p l e rm_Model_affix s m args below meth c H locs 0 0 (MQ below (q_Model_affix D cC cI a0_0 a0_1 a0_2 a0_3 a0_4 a0_5 a0_6 a0_7 out A) args s 0 0 A) (F0 m 0 ls []) := by
  obtain ⟨hx, hb, hml, hown, htB, ⟨hK, hN⟩, hZ, hA, hr, hlocks⟩ := id X
  refine lv_aload_n hx hb d_Model_affix_0 rfl (lv_at hl 0 rfl) ?_
  refine lv_iconst (v := 0) hx hb d_Model_affix_1 (by decide) ?_
  refine va_put (D := D) (ci := 11) (v := .int (0 : Int32)) (ty := .boolean) (C := R_Model) (T := F_Model) (N := 23) hx hb htB in_Model t_Model t_Model_ok n_Model hown hK hP hD hS 0 rfl rfl 11 (by decide) (htB _ b_316) (fun _ h9 => h9) rfl (by decide +kernel) rfl rfl (Nat.le_of_ble_eq_true rfl) d_Model_affix_2 (fun H locs hP hD hS => ?_)
  have hP : va_P D classes (wd_Model_affix cC cI a0_0 a0_1 a0_2 a0_3 a0_4 a0_5 a0_6 a0_7 (v0.1, v0.2.1, v0.2.2.1, v0.2.2.2.1, v0.2.2.2.2.1, v0.2.2.2.2.2.1, v0.2.2.2.2.2.2.1, v0.2.2.2.2.2.2.2.1, v0.2.2.2.2.2.2.2.2.1, v0.2.2.2.2.2.2.2.2.2.1, v0.2.2.2.2.2.2.2.2.2.2.1, (0 : Int32), v0.2.2.2.2.2.2.2.2.2.2.2.2.1, v0.2.2.2.2.2.2.2.2.2.2.2.2.2.1, v0.2.2.2.2.2.2.2.2.2.2.2.2.2.2.1, v0.2.2.2.2.2.2.2.2.2.2.2.2.2.2.2.1, v0.2.2.2.2.2.2.2.2.2.2.2.2.2.2.2.2.1, v0.2.2.2.2.2.2.2.2.2.2.2.2.2.2.2.2.2.1, v0.2.2.2.2.2.2.2.2.2.2.2.2.2.2.2.2.2.2.1, v0.2.2.2.2.2.2.2.2.2.2.2.2.2.2.2.2.2.2.2.1, v0.2.2.2.2.2.2.2.2.2.2.2.2.2.2.2.2.2.2.2.2.1, v0.2.2.2.2.2.2.2.2.2.2.2.2.2.2.2.2.2.2.2.2.2.1, v0.2.2.2.2.2.2.2.2.2.2.2.2.2.2.2.2.2.2.2.2.2.2)) H := hP
  have hD : va_D A (wd_Model_affix cC cI a0_0 a0_1 a0_2 a0_3 a0_4 a0_5 a0_6 a0_7 (v0.1, v0.2.1, v0.2.2.1, v0.2.2.2.1, v0.2.2.2.2.1, v0.2.2.2.2.2.1, v0.2.2.2.2.2.2.1, v0.2.2.2.2.2.2.2.1, v0.2.2.2.2.2.2.2.2.1, v0.2.2.2.2.2.2.2.2.2.1, v0.2.2.2.2.2.2.2.2.2.2.1, (0 : Int32), v0.2.2.2.2.2.2.2.2.2.2.2.2.1, v0.2.2.2.2.2.2.2.2.2.2.2.2.2.1, v0.2.2.2.2.2.2.2.2.2.2.2.2.2.2.1, v0.2.2.2.2.2.2.2.2.2.2.2.2.2.2.2.1, v0.2.2.2.2.2.2.2.2.2.2.2.2.2.2.2.2.1, v0.2.2.2.2.2.2.2.2.2.2.2.2.2.2.2.2.2.1, v0.2.2.2.2.2.2.2.2.2.2.2.2.2.2.2.2.2.2.1, v0.2.2.2.2.2.2.2.2.2.2.2.2.2.2.2.2.2.2.2.1, v0.2.2.2.2.2.2.2.2.2.2.2.2.2.2.2.2.2.2.2.2.1, v0.2.2.2.2.2.2.2.2.2.2.2.2.2.2.2.2.2.2.2.2.2.1, v0.2.2.2.2.2.2.2.2.2.2.2.2.2.2.2.2.2.2.2.2.2.2)) := hD
  refine lv_aload_n hx hb d_Model_affix_5 rfl (lv_at hl 0 rfl) ?_
  refine va_get (D := D) (ci := 11) (v := .int v0.2.2.2.2.2.2.2.2.2.1) (C := R_Model) (T := F_Model) (N := 23) hx hb htB in_Model hown hK hP 0 rfl rfl 9 (by decide) (htB _ b_317) (fun _ h9 => h9) rfl d_Model_affix_6 ?_
  refine lv_aload_n hx hb d_Model_affix_9 rfl (lv_at hl 0 rfl) ?_
  refine va_get (D := D) (ci := 11) (v := .int v0.2.1) (C := R_Model) (T := F_Model) (N := 23) hx hb htB in_Model hown hK hP 0 rfl rfl 1 (by decide) (htB _ b_309) (fun _ h9 => h9) rfl d_Model_affix_10 ?_
  refine lv_icmp_ge (tgt := 20) hx hb d_Model_affix_13 rfl (fun hc => ?_) (fun hc => ?_)
  · have h := (if_pos hc).symm.trans h
    refine lv_iconst (v := 0) hx hb d_Model_affix_20 (by decide) ?_
    exact w_Model_affix_21 X (v0.1, v0.2.1, v0.2.2.1, v0.2.2.2.1, v0.2.2.2.2.1, v0.2.2.2.2.2.1, v0.2.2.2.2.2.2.1, v0.2.2.2.2.2.2.2.1, v0.2.2.2.2.2.2.2.2.1, v0.2.2.2.2.2.2.2.2.2.1, v0.2.2.2.2.2.2.2.2.2.2.1, (0 : Int32), v0.2.2.2.2.2.2.2.2.2.2.2.2.1, v0.2.2.2.2.2.2.2.2.2.2.2.2.2.1, v0.2.2.2.2.2.2.2.2.2.2.2.2.2.2.1, v0.2.2.2.2.2.2.2.2.2.2.2.2.2.2.2.1, v0.2.2.2.2.2.2.2.2.2.2.2.2.2.2.2.2.1, v0.2.2.2.2.2.2.2.2.2.2.2.2.2.2.2.2.2.1, v0.2.2.2.2.2.2.2.2.2.2.2.2.2.2.2.2.2.2.1, v0.2.2.2.2.2.2.2.2.2.2.2.2.2.2.2.2.2.2.2.1, v0.2.2.2.2.2.2.2.2.2.2.2.2.2.2.2.2.2.2.2.2.1, v0.2.2.2.2.2.2.2.2.2.2.2.2.2.2.2.2.2.2.2.2.2.1, v0.2.2.2.2.2.2.2.2.2.2.2.2.2.2.2.2.2.2.2.2.2.2) v1 (0 : Int32) ls H locs h (lv_sub hl [0, 1] rfl) hP hD hS
  have h := (if_neg hc).symm.trans h
  refine lv_iconst (v := 1) hx hb d_Model_affix_16 (by decide) ?_
  refine lv_goto (tgt := 21) hx hb d_Model_affix_17 rfl ?_
  exact w_Model_affix_21 X (v0.1, v0.2.1, v0.2.2.1, v0.2.2.2.1, v0.2.2.2.2.1, v0.2.2.2.2.2.1, v0.2.2.2.2.2.2.1, v0.2.2.2.2.2.2.2.1, v0.2.2.2.2.2.2.2.2.1, v0.2.2.2.2.2.2.2.2.2.1, v0.2.2.2.2.2.2.2.2.2.2.1, (0 : Int32), v0.2.2.2.2.2.2.2.2.2.2.2.2.1, v0.2.2.2.2.2.2.2.2.2.2.2.2.2.1, v0.2.2.2.2.2.2.2.2.2.2.2.2.2.2.1, v0.2.2.2.2.2.2.2.2.2.2.2.2.2.2.2.1, v0.2.2.2.2.2.2.2.2.2.2.2.2.2.2.2.2.1, v0.2.2.2.2.2.2.2.2.2.2.2.2.2.2.2.2.2.1, v0.2.2.2.2.2.2.2.2.2.2.2.2.2.2.2.2.2.2.1, v0.2.2.2.2.2.2.2.2.2.2.2.2.2.2.2.2.2.2.2.1, v0.2.2.2.2.2.2.2.2.2.2.2.2.2.2.2.2.2.2.2.2.1, v0.2.2.2.2.2.2.2.2.2.2.2.2.2.2.2.2.2.2.2.2.2.1, v0.2.2.2.2.2.2.2.2.2.2.2.2.2.2.2.2.2.2.2.2.2.2) v1 (1 : Int32) ls H locs h (lv_sub hl [0, 1] rfl) hP hD hS

set_option maxHeartbeats 4000000 in
set_option maxRecDepth 100000 in
theorem c_Model_affix (l : Launch) (D : va_G) (cC cI : ClassId) (sz : Nat) (a0_0 a0_1 a0_2 a0_3 a0_4 a0_5 a0_6 a0_7 : Nat) (v0 : T_Model) (v1 : Int32) (out : O_Model_affix) (h : f_Model_affix v0 v1 = some out) : Met l y_Model_affix (.code y_Model_affix b_Model_affix 3 none :: BIG) rm_Model_affix (va_Pc [.ref a0_0, .int v1] (xPre D cC cI (wd_Model_affix cC cI a0_0 a0_1 a0_2 a0_3 a0_4 a0_5 a0_6 a0_7 v0) sz)) (q_Model_affix D cC cI a0_0 a0_1 a0_2 a0_3 a0_4 a0_5 a0_6 a0_7 out (va_A (wd_Model_affix cC cI a0_0 a0_1 a0_2 a0_3 a0_4 a0_5 a0_6 a0_7 v0) sz)) 0 0 (va_A (wd_Model_affix cC cI a0_0 a0_1 a0_2 a0_3 a0_4 a0_5 a0_6 a0_7 v0) sz) := by
  refine Met.ofW (cc := b_Model_affix) (maxL := 3) (ret := none) (by decide) rfl ?_
  intro p e s m args below meth c s₁ B hml hv
  obtain ⟨rfl, rfl, hP, hD0, hG, hZ⟩ := hv
  have hl := lv_entry [.ref a0_0, .int v1] (n := 3) (Nat.le_of_ble_eq_true rfl)
  rw [lg_entry_eq]
  exact w_Model_affix (x_cx B hml hG hZ) v0 v1 h hl hP hD0.self va_S.rf

abbrev wd_Model_whole (cC cI : ClassId) (a0_0 a0_1 a0_2 a0_3 a0_4 a0_5 a0_6 a0_7 : Nat) (v0 : T_Model) : va_W := [(a0_0, .inr (11, [.ref a0_1, .int v0.2.1, .ref a0_2, .int v0.2.2.2.1, .int v0.2.2.2.2.1, .int v0.2.2.2.2.2.1, .ref a0_3, .ref a0_4, .ref a0_5, .int v0.2.2.2.2.2.2.2.2.2.1, .int v0.2.2.2.2.2.2.2.2.2.2.1, .int v0.2.2.2.2.2.2.2.2.2.2.2.1, .int v0.2.2.2.2.2.2.2.2.2.2.2.2.1, .ref a0_6, .int v0.2.2.2.2.2.2.2.2.2.2.2.2.2.2.1, .int v0.2.2.2.2.2.2.2.2.2.2.2.2.2.2.2.1, .int v0.2.2.2.2.2.2.2.2.2.2.2.2.2.2.2.2.1, .ref a0_7, .long v0.2.2.2.2.2.2.2.2.2.2.2.2.2.2.2.2.2.2.1, .int v0.2.2.2.2.2.2.2.2.2.2.2.2.2.2.2.2.2.2.2.1, .long v0.2.2.2.2.2.2.2.2.2.2.2.2.2.2.2.2.2.2.2.2.1, .int v0.2.2.2.2.2.2.2.2.2.2.2.2.2.2.2.2.2.2.2.2.2.1, .int v0.2.2.2.2.2.2.2.2.2.2.2.2.2.2.2.2.2.2.2.2.2.2])), (a0_1, .inl (cC, 120, .inl v0.1)), (a0_2, .inl (cC, 200, .inl v0.2.2.1)), (a0_3, .inl (cI, 160, .inl v0.2.2.2.2.2.2.1)), (a0_4, .inl (cI, 4, .inl v0.2.2.2.2.2.2.2.1)), (a0_5, .inl (cI, 7, .inl v0.2.2.2.2.2.2.2.2.1)), (a0_6, .inl (cI, 40, .inl v0.2.2.2.2.2.2.2.2.2.2.2.2.2.1)), (a0_7, .inl (cI, 6, .inl v0.2.2.2.2.2.2.2.2.2.2.2.2.2.2.2.2.2.1))]
abbrev O_Model_whole : Type := Int32 × T_Model
abbrev q_Model_whole (D : va_G) (cC cI : ClassId) (a0_0 a0_1 a0_2 a0_3 a0_4 a0_5 a0_6 a0_7 : Nat)  (out : O_Model_whole) (A : Nat → Prop) : Array Value → State → Outcome → State → Prop := va_Qi (fun r (_ : Unit) => r = out.1) (fun _ t => va_P D classes (wd_Model_whole cC cI a0_0 a0_1 a0_2 a0_3 a0_4 a0_5 a0_6 a0_7 out.2) t.heap ∧ va_D A (wd_Model_whole cC cI a0_0 a0_1 a0_2 a0_3 a0_4 a0_5 a0_6 a0_7 out.2)) A
abbrev rm_Model_whole : Room := { frames := 1, cells := 0, slots := 0, locals := 22 }
def J_Model_whole_13 (p : Program) (l : Launch) (e : Env) (s : State) (m : MethodId) (args : Array Value) (below : List Frame) (meth : Method) (c : Code) (A : Nat → Prop) (D : va_G) (cC cI : ClassId) (a0_0 a0_1 a0_2 a0_3 a0_4 a0_5 a0_6 a0_7 : Nat) (out : O_Model_whole) (k : T_Model → Int32 → Int32 → Int32 → Int32 → Int32 → Int32 → Option O_Model_whole) : Prop := ∀ (v0 : T_Model) (x1 : Int32) (x2 : Int32) (x3 : Int32) (x4 : Int32) (x5 : Int32) (x6 : Int32) (ls : Array Slot) (H : Heap) (locs : List Loc), k v0 x1 x2 x3 x4 x5 x6 = some out → lv_has ls 7 [(0, .ref a0_0), (1, .int x1), (2, .int x2), (3, .int x3), (4, .int x4), (5, .int x5), (6, .int x6)] → va_P D classes (wd_Model_whole cC cI a0_0 a0_1 a0_2 a0_3 a0_4 a0_5 a0_6 a0_7 v0) H → va_D A (wd_Model_whole cC cI a0_0 a0_1 a0_2 a0_3 a0_4 a0_5 a0_6 a0_7 v0) → va_S A s.heap H locs → W p l e rm_Model_whole s m args below meth c H locs 0 0 (MQ below (q_Model_whole D cC cI a0_0 a0_1 a0_2 a0_3 a0_4 a0_5 a0_6 a0_7 out A) args s 0 0 A) (F0 m 13 ls [])
def J_Model_whole_36 (p : Program) (l : Launch) (e : Env) (s : State) (m : MethodId) (args : Array Value) (below : List Frame) (meth : Method) (c : Code) (A : Nat → Prop) (D : va_G) (cC cI : ClassId) (a0_0 a0_1 a0_2 a0_3 a0_4 a0_5 a0_6 a0_7 : Nat) (out : O_Model_whole) (k : T_Model → Int32 → Int32 → Int32 → Int32 → Int32 → Int32 → Option O_Model_whole) : Prop := ∀ (v0 : T_Model) (x1 : Int32) (x2 : Int32) (x3 : Int32) (x4 : Int32) (x5 : Int32) (x6 : Int32) (ls : Array Slot) (H : Heap) (locs : List Loc), k v0 x1 x2 x3 x4 x5 x6 = some out → lv_has ls 7 [(0, .ref a0_0), (1, .int x1), (2, .int x2), (3, .int x3), (4, .int x4), (5, .int x5), (6, .int x6)] → va_P D classes (wd_Model_whole cC cI a0_0 a0_1 a0_2 a0_3 a0_4 a0_5 a0_6 a0_7 v0) H → va_D A (wd_Model_whole cC cI a0_0 a0_1 a0_2 a0_3 a0_4 a0_5 a0_6 a0_7 v0) → va_S A s.heap H locs → W p l e rm_Model_whole s m args below meth c H locs 0 0 (MQ below (q_Model_whole D cC cI a0_0 a0_1 a0_2 a0_3 a0_4 a0_5 a0_6 a0_7 out A) args s 0 0 A) (F0 m 36 ls [])
def J_Model_whole_55 (p : Program) (l : Launch) (e : Env) (s : State) (m : MethodId) (args : Array Value) (below : List Frame) (meth : Method) (c : Code) (A : Nat → Prop) (D : va_G) (cC cI : ClassId) (a0_0 a0_1 a0_2 a0_3 a0_4 a0_5 a0_6 a0_7 : Nat) (out : O_Model_whole) (k : T_Model → Int32 → Int32 → Int32 → Int32 → Int32 → Int32 → Option O_Model_whole) : Prop := ∀ (v0 : T_Model) (x1 : Int32) (x2 : Int32) (x3 : Int32) (x4 : Int32) (x5 : Int32) (x6 : Int32) (ls : Array Slot) (H : Heap) (locs : List Loc), k v0 x1 x2 x3 x4 x5 x6 = some out → lv_has ls 7 [(0, .ref a0_0), (1, .int x1), (2, .int x2), (3, .int x3), (4, .int x4), (5, .int x5), (6, .int x6)] → va_P D classes (wd_Model_whole cC cI a0_0 a0_1 a0_2 a0_3 a0_4 a0_5 a0_6 a0_7 v0) H → va_D A (wd_Model_whole cC cI a0_0 a0_1 a0_2 a0_3 a0_4 a0_5 a0_6 a0_7 v0) → va_S A s.heap H locs → W p l e rm_Model_whole s m args below meth c H locs 0 0 (MQ below (q_Model_whole D cC cI a0_0 a0_1 a0_2 a0_3 a0_4 a0_5 a0_6 a0_7 out A) args s 0 0 A) (F0 m 55 ls [])
def J_Model_whole_153 (p : Program) (l : Launch) (e : Env) (s : State) (m : MethodId) (args : Array Value) (below : List Frame) (meth : Method) (c : Code) (A : Nat → Prop) (D : va_G) (cC cI : ClassId) (a0_0 a0_1 a0_2 a0_3 a0_4 a0_5 a0_6 a0_7 : Nat) (out : O_Model_whole) (k : T_Model → Int32 → Int32 → Int32 → Int32 → Int32 → Int32 → Option O_Model_whole) : Prop := ∀ (v0 : T_Model) (x1 : Int32) (x2 : Int32) (x3 : Int32) (x4 : Int32) (x5 : Int32) (x6 : Int32) (ls : Array Slot) (H : Heap) (locs : List Loc), k v0 x1 x2 x3 x4 x5 x6 = some out → lv_has ls 7 [(0, .ref a0_0), (1, .int x1), (2, .int x2), (3, .int x3), (4, .int x4), (5, .int x5), (6, .int x6)] → va_P D classes (wd_Model_whole cC cI a0_0 a0_1 a0_2 a0_3 a0_4 a0_5 a0_6 a0_7 v0) H → va_D A (wd_Model_whole cC cI a0_0 a0_1 a0_2 a0_3 a0_4 a0_5 a0_6 a0_7 v0) → va_S A s.heap H locs → W p l e rm_Model_whole s m args below meth c H locs 0 0 (MQ below (q_Model_whole D cC cI a0_0 a0_1 a0_2 a0_3 a0_4 a0_5 a0_6 a0_7 out A) args s 0 0 A) (F0 m 153 ls [])
def J_Model_whole_166 (p : Program) (l : Launch) (e : Env) (s : State) (m : MethodId) (args : Array Value) (below : List Frame) (meth : Method) (c : Code) (A : Nat → Prop) (D : va_G) (cC cI : ClassId) (a0_0 a0_1 a0_2 a0_3 a0_4 a0_5 a0_6 a0_7 : Nat) (out : O_Model_whole) (k : T_Model → Int32 → Int32 → Int32 → Int32 → Int32 → Option O_Model_whole) : Prop := ∀ (v0 : T_Model) (x1 : Int32) (x2 : Int32) (x3 : Int32) (x4 : Int32) (x5 : Int32) (ls : Array Slot) (H : Heap) (locs : List Loc), k v0 x1 x2 x3 x4 x5 = some out → lv_has ls 7 [(0, .ref a0_0), (1, .int x1), (2, .int x2), (3, .int x3), (4, .int x4), (5, .int x5)] → va_P D classes (wd_Model_whole cC cI a0_0 a0_1 a0_2 a0_3 a0_4 a0_5 a0_6 a0_7 v0) H → va_D A (wd_Model_whole cC cI a0_0 a0_1 a0_2 a0_3 a0_4 a0_5 a0_6 a0_7 v0) → va_S A s.heap H locs → W p l e rm_Model_whole s m args below meth c H locs 0 0 (MQ below (q_Model_whole D cC cI a0_0 a0_1 a0_2 a0_3 a0_4 a0_5 a0_6 a0_7 out A) args s 0 0 A) (F0 m 166 ls [])
def J_Model_whole_201 (p : Program) (l : Launch) (e : Env) (s : State) (m : MethodId) (args : Array Value) (below : List Frame) (meth : Method) (c : Code) (A : Nat → Prop) (D : va_G) (cC cI : ClassId) (a0_0 a0_1 a0_2 a0_3 a0_4 a0_5 a0_6 a0_7 : Nat) (out : O_Model_whole) (k : T_Model → Int32 → Int32 → Int32 → Option O_Model_whole) : Prop := ∀ (v0 : T_Model) (x2 : Int32) (x3 : Int32) (x5 : Int32) (ls : Array Slot) (H : Heap) (locs : List Loc), k v0 x2 x3 x5 = some out → lv_has ls 7 [(2, .int x2), (3, .int x3), (5, .int x5)] → va_P D classes (wd_Model_whole cC cI a0_0 a0_1 a0_2 a0_3 a0_4 a0_5 a0_6 a0_7 v0) H → va_D A (wd_Model_whole cC cI a0_0 a0_1 a0_2 a0_3 a0_4 a0_5 a0_6 a0_7 v0) → va_S A s.heap H locs → W p l e rm_Model_whole s m args below meth c H locs 0 0 (MQ below (q_Model_whole D cC cI a0_0 a0_1 a0_2 a0_3 a0_4 a0_5 a0_6 a0_7 out A) args s 0 0 A) (F0 m 201 ls [])
def J_Model_whole_211 (p : Program) (l : Launch) (e : Env) (s : State) (m : MethodId) (args : Array Value) (below : List Frame) (meth : Method) (c : Code) (A : Nat → Prop) (D : va_G) (cC cI : ClassId) (a0_0 a0_1 a0_2 a0_3 a0_4 a0_5 a0_6 a0_7 : Nat) (out : O_Model_whole) (k : T_Model → Option O_Model_whole) : Prop := ∀ (v0 : T_Model) (ls : Array Slot) (H : Heap) (locs : List Loc), k v0 = some out → lv_has ls 7 [] → va_P D classes (wd_Model_whole cC cI a0_0 a0_1 a0_2 a0_3 a0_4 a0_5 a0_6 a0_7 v0) H → va_D A (wd_Model_whole cC cI a0_0 a0_1 a0_2 a0_3 a0_4 a0_5 a0_6 a0_7 v0) → va_S A s.heap H locs → W p l e rm_Model_whole s m args below meth c H locs 0 0 (MQ below (q_Model_whole D cC cI a0_0 a0_1 a0_2 a0_3 a0_4 a0_5 a0_6 a0_7 out A) args s 0 0 A) (F0 m 211 ls [])
def J_Model_whole_216 (p : Program) (l : Launch) (e : Env) (s : State) (m : MethodId) (args : Array Value) (below : List Frame) (meth : Method) (c : Code) (A : Nat → Prop) (D : va_G) (cC cI : ClassId) (a0_0 a0_1 a0_2 a0_3 a0_4 a0_5 a0_6 a0_7 : Nat) (out : O_Model_whole) (k : T_Model → Int32 → Option O_Model_whole) : Prop := ∀ (v0 : T_Model) (s0 : Int32) (ls : Array Slot) (H : Heap) (locs : List Loc), k v0 s0 = some out → lv_has ls 7 [] → va_P D classes (wd_Model_whole cC cI a0_0 a0_1 a0_2 a0_3 a0_4 a0_5 a0_6 a0_7 v0) H → va_D A (wd_Model_whole cC cI a0_0 a0_1 a0_2 a0_3 a0_4 a0_5 a0_6 a0_7 v0) → va_S A s.heap H locs → W p l e rm_Model_whole s m args below meth c H locs 0 0 (MQ below (q_Model_whole D cC cI a0_0 a0_1 a0_2 a0_3 a0_4 a0_5 a0_6 a0_7 out A) args s 0 0 A) (F0 m 216 ls [.int s0])
def f_Model_whole_216 (v0 : T_Model) (s0 : Int32) : Option O_Model_whole := some (s0, v0)
set_option maxHeartbeats 4000000 in
set_option maxRecDepth 100000 in
theorem w_Model_whole_216 {p : Program} {l : Launch} {e : Env} {s : State} {m : MethodId} {args : Array Value} {below : List Frame} {meth : Method} {c : Code} {A : Nat → Prop} {D : va_G} {cC cI : ClassId} {a0_0 a0_1 a0_2 a0_3 a0_4 a0_5 a0_6 a0_7 : Nat} (X : xCX p s m args meth c A D cC cI b_Model_whole 7 R_Model (some .int)) {out : O_Model_whole}   : J_Model_whole_216 p l e s m args below meth c A D cC cI a0_0 a0_1 a0_2 a0_3 a0_4 a0_5 a0_6 a0_7 out (f_Model_whole_216  ) := by
  obtain ⟨hx, hb, hml, hown, htB, ⟨hK, hN⟩, hZ, hA, hr, hlocks⟩ := id X
  intro v0 s0 ls H locs h hl hP hD hS
  obtain rfl := Option.some.inj h
  exact W.iret (v := s0) hx hb hr (fun t ht hW => ⟨⟨s0, (), rfl, rfl, by rw [ht]; exact hP, hD⟩, hS.F ht⟩) hS.2.2 d_Model_whole_216 hlocks

def f_Model_whole_211 (v0 : T_Model) : Option O_Model_whole := f_Model_whole_216 v0 (0 : Int32)
set_option maxHeartbeats 4000000 in
set_option maxRecDepth 100000 in
theorem w_Model_whole_211 {p : Program} {l : Launch} {e : Env} {s : State} {m : MethodId} {args : Array Value} {below : List Frame} {meth : Method} {c : Code} {A : Nat → Prop} {D : va_G} {cC cI : ClassId} {a0_0 a0_1 a0_2 a0_3 a0_4 a0_5 a0_6 a0_7 : Nat} (X : xCX p s m args meth c A D cC cI b_Model_whole 7 R_Model (some .int)) {out : O_Model_whole}   : J_Model_whole_211 p l e s m args below meth c A D cC cI a0_0 a0_1 a0_2 a0_3 a0_4 a0_5 a0_6 a0_7 out (f_Model_whole_211  ) := by
  obtain ⟨hx, hb, hml, hown, htB, ⟨hK, hN⟩, hZ, hA, hr, hlocks⟩ := id X
  intro v0 ls H locs h hl hP hD hS
  refine lv_iconst (v := 0) hx hb d_Model_whole_211 (by decide) ?_
  refine lv_goto (tgt := 216) hx hb d_Model_whole_212 rfl ?_
  exact w_Model_whole_216 X v0 (0 : Int32) ls H locs h (lv_sub hl [] rfl) hP hD hS

def f_Model_whole_201 (v0 : T_Model) (x2 : Int32) (x3 : Int32) (x5 : Int32) : Option O_Model_whole := (if x5 = 0 then (if x2 ≤ x3 then f_Model_whole_216 v0 x2 else f_Model_whole_211 v0) else f_Model_whole_211 v0)
set_option maxHeartbeats 4000000 in
set_option maxRecDepth 100000 in
theorem w_Model_whole_201 {p : Program} {l : Launch} {e : Env} {s : State} {m : MethodId} {args : Array Value} {below : List Frame} {meth : Method} {c : Code} {A : Nat → Prop} {D : va_G} {cC cI : ClassId} {a0_0 a0_1 a0_2 a0_3 a0_4 a0_5 a0_6 a0_7 : Nat} (X : xCX p s m args meth c A D cC cI b_Model_whole 7 R_Model (some .int)) {out : O_Model_whole}   : J_Model_whole_201 p l e s m args below meth c A D cC cI a0_0 a0_1 a0_2 a0_3 a0_4 a0_5 a0_6 a0_7 out (f_Model_whole_201  ) := by
  obtain ⟨hx, hb, hml, hown, htB, ⟨hK, hN⟩, hZ, hA, hr, hlocks⟩ := id X
  intro v0 x2 x3 x5 ls H locs h hl hP hD hS
  refine lv_iload hx hb d_Model_whole_201 (lv_at hl 2 rfl) ?_
  refine lv_if_ne (tgt := 211) hx hb d_Model_whole_203 rfl (fun hc => ?_) (fun hc => ?_)
  · have h := (if_neg hc).symm.trans h
    exact w_Model_whole_211 X v0 ls H locs h (lv_sub hl [] rfl) hP hD hS
  have h := (if_pos hc).symm.trans h
  refine lv_iload_n hx hb d_Model_whole_206 rfl (lv_at hl 0 rfl) ?_
  refine lv_iload_n hx hb d_Model_whole_207 rfl (lv_at hl 1 rfl) ?_
  refine lv_icmp_le (tgt := 215) hx hb d_Model_whole_208 rfl (fun hc => ?_) (fun hc => ?_)
  · have h := (if_pos hc).symm.trans h
    refine lv_iload_n hx hb d_Model_whole_215 rfl (lv_at hl 0 rfl) ?_
    exact w_Model_whole_216 X v0 x2 ls H locs h (lv_sub hl [] rfl) hP hD hS
  have h := (if_neg hc).symm.trans h
  exact w_Model_whole_211 X v0 ls H locs h (lv_sub hl [] rfl) hP hD hS

def J_Model_whole_200 (p : Program) (l : Launch) (e : Env) (s : State) (m : MethodId) (args : Array Value) (below : List Frame) (meth : Method) (c : Code) (A : Nat → Prop) (D : va_G) (cC cI : ClassId) (a0_0 a0_1 a0_2 a0_3 a0_4 a0_5 a0_6 a0_7 : Nat) (out : O_Model_whole) (k : T_Model → Int32 → Int32 → Int32 → Int32 → Int32 → Option O_Model_whole) : Prop := ∀ (v0 : T_Model) (x2 : Int32) (x3 : Int32) (x5 : Int32) (s1 : Int32) (s2 : Int32) (ls : Array Slot) (H : Heap) (locs : List Loc), k v0 x2 x3 x5 s1 s2 = some out → lv_has ls 7 [(2, .int x2), (3, .int x3), (5, .int x5)] → va_P D classes (wd_Model_whole cC cI a0_0 a0_1 a0_2 a0_3 a0_4 a0_5 a0_6 a0_7 v0) H → va_D A (wd_Model_whole cC cI a0_0 a0_1 a0_2 a0_3 a0_4 a0_5 a0_6 a0_7 v0) → va_S A s.heap H locs → W p l e rm_Model_whole s m args below meth c H locs 0 0 (MQ below (q_Model_whole D cC cI a0_0 a0_1 a0_2 a0_3 a0_4 a0_5 a0_6 a0_7 out A) args s 0 0 A) (F0 m 200 ls [.int s2, .int s1, .ref a0_5])
def f_Model_whole_200 (v0 : T_Model) (x2 : Int32) (x3 : Int32) (x5 : Int32) (s1 : Int32) (s2 : Int32) : Option O_Model_whole := if ix s1 7 then f_Model_whole_201 (v0.1, v0.2.1, v0.2.2.1, v0.2.2.2.1, v0.2.2.2.2.1, v0.2.2.2.2.2.1, v0.2.2.2.2.2.2.1, v0.2.2.2.2.2.2.2.1, (upd v0.2.2.2.2.2.2.2.2.1 s1.toNatClampNeg s2), v0.2.2.2.2.2.2.2.2.2.1, v0.2.2.2.2.2.2.2.2.2.2.1, v0.2.2.2.2.2.2.2.2.2.2.2.1, v0.2.2.2.2.2.2.2.2.2.2.2.2.1, v0.2.2.2.2.2.2.2.2.2.2.2.2.2.1, v0.2.2.2.2.2.2.2.2.2.2.2.2.2.2.1, v0.2.2.2.2.2.2.2.2.2.2.2.2.2.2.2.1, v0.2.2.2.2.2.2.2.2.2.2.2.2.2.2.2.2.1, v0.2.2.2.2.2.2.2.2.2.2.2.2.2.2.2.2.2.1, v0.2.2.2.2.2.2.2.2.2.2.2.2.2.2.2.2.2.2.1, v0.2.2.2.2.2.2.2.2.2.2.2.2.2.2.2.2.2.2.2.1, v0.2.2.2.2.2.2.2.2.2.2.2.2.2.2.2.2.2.2.2.2.1, v0.2.2.2.2.2.2.2.2.2.2.2.2.2.2.2.2.2.2.2.2.2.1, v0.2.2.2.2.2.2.2.2.2.2.2.2.2.2.2.2.2.2.2.2.2.2) x2 x3 x5 else none
set_option maxHeartbeats 4000000 in
set_option maxRecDepth 100000 in
theorem w_Model_whole_200 {p : Program} {l : Launch} {e : Env} {s : State} {m : MethodId} {args : Array Value} {below : List Frame} {meth : Method} {c : Code} {A : Nat → Prop} {D : va_G} {cC cI : ClassId} {a0_0 a0_1 a0_2 a0_3 a0_4 a0_5 a0_6 a0_7 : Nat} (X : xCX p s m args meth c A D cC cI b_Model_whole 7 R_Model (some .int)) {out : O_Model_whole}   : J_Model_whole_200 p l e s m args below meth c A D cC cI a0_0 a0_1 a0_2 a0_3 a0_4 a0_5 a0_6 a0_7 out (f_Model_whole_200  ) := by
  obtain ⟨hx, hb, hml, hown, htB, ⟨hK, hN⟩, hZ, hA, hr, hlocks⟩ := id X
  intro v0 x2 x3 x5 s1 s2 ls H locs h hl hP hD hS
  obtain ⟨hc, h⟩ := x_chk h
  refine va_iast hx hb hK hP hD hS 5 1 rfl rfl hc d_Model_whole_200 (fun H locs hP hD hS => ?_)
  have hP : va_P D classes (wd_Model_whole cC cI a0_0 a0_1 a0_2 a0_3 a0_4 a0_5 a0_6 a0_7 (v0.1, v0.2.1, v0.2.2.1, v0.2.2.2.1, v0.2.2.2.2.1, v0.2.2.2.2.2.1, v0.2.2.2.2.2.2.1, v0.2.2.2.2.2.2.2.1, (upd v0.2.2.2.2.2.2.2.2.1 s1.toNatClampNeg s2), v0.2.2.2.2.2.2.2.2.2.1, v0.2.2.2.2.2.2.2.2.2.2.1, v0.2.2.2.2.2.2.2.2.2.2.2.1, v0.2.2.2.2.2.2.2.2.2.2.2.2.1, v0.2.2.2.2.2.2.2.2.2.2.2.2.2.1, v0.2.2.2.2.2.2.2.2.2.2.2.2.2.2.1, v0.2.2.2.2.2.2.2.2.2.2.2.2.2.2.2.1, v0.2.2.2.2.2.2.2.2.2.2.2.2.2.2.2.2.1, v0.2.2.2.2.2.2.2.2.2.2.2.2.2.2.2.2.2.1, v0.2.2.2.2.2.2.2.2.2.2.2.2.2.2.2.2.2.2.1, v0.2.2.2.2.2.2.2.2.2.2.2.2.2.2.2.2.2.2.2.1, v0.2.2.2.2.2.2.2.2.2.2.2.2.2.2.2.2.2.2.2.2.1, v0.2.2.2.2.2.2.2.2.2.2.2.2.2.2.2.2.2.2.2.2.2.1, v0.2.2.2.2.2.2.2.2.2.2.2.2.2.2.2.2.2.2.2.2.2.2)) H := hP
  have hD : va_D A (wd_Model_whole cC cI a0_0 a0_1 a0_2 a0_3 a0_4 a0_5 a0_6 a0_7 (v0.1, v0.2.1, v0.2.2.1, v0.2.2.2.1, v0.2.2.2.2.1, v0.2.2.2.2.2.1, v0.2.2.2.2.2.2.1, v0.2.2.2.2.2.2.2.1, (upd v0.2.2.2.2.2.2.2.2.1 s1.toNatClampNeg s2), v0.2.2.2.2.2.2.2.2.2.1, v0.2.2.2.2.2.2.2.2.2.2.1, v0.2.2.2.2.2.2.2.2.2.2.2.1, v0.2.2.2.2.2.2.2.2.2.2.2.2.1, v0.2.2.2.2.2.2.2.2.2.2.2.2.2.1, v0.2.2.2.2.2.2.2.2.2.2.2.2.2.2.1, v0.2.2.2.2.2.2.2.2.2.2.2.2.2.2.2.1, v0.2.2.2.2.2.2.2.2.2.2.2.2.2.2.2.2.1, v0.2.2.2.2.2.2.2.2.2.2.2.2.2.2.2.2.2.1, v0.2.2.2.2.2.2.2.2.2.2.2.2.2.2.2.2.2.2.1, v0.2.2.2.2.2.2.2.2.2.2.2.2.2.2.2.2.2.2.2.1, v0.2.2.2.2.2.2.2.2.2.2.2.2.2.2.2.2.2.2.2.2.1, v0.2.2.2.2.2.2.2.2.2.2.2.2.2.2.2.2.2.2.2.2.2.1, v0.2.2.2.2.2.2.2.2.2.2.2.2.2.2.2.2.2.2.2.2.2.2)) := hD
  exact w_Model_whole_201 X (v0.1, v0.2.1, v0.2.2.1, v0.2.2.2.1, v0.2.2.2.2.1, v0.2.2.2.2.2.1, v0.2.2.2.2.2.2.1, v0.2.2.2.2.2.2.2.1, (upd v0.2.2.2.2.2.2.2.2.1 s1.toNatClampNeg s2), v0.2.2.2.2.2.2.2.2.2.1, v0.2.2.2.2.2.2.2.2.2.2.1, v0.2.2.2.2.2.2.2.2.2.2.2.1, v0.2.2.2.2.2.2.2.2.2.2.2.2.1, v0.2.2.2.2.2.2.2.2.2.2.2.2.2.1, v0.2.2.2.2.2.2.2.2.2.2.2.2.2.2.1, v0.2.2.2.2.2.2.2.2.2.2.2.2.2.2.2.1, v0.2.2.2.2.2.2.2.2.2.2.2.2.2.2.2.2.1, v0.2.2.2.2.2.2.2.2.2.2.2.2.2.2.2.2.2.1, v0.2.2.2.2.2.2.2.2.2.2.2.2.2.2.2.2.2.2.1, v0.2.2.2.2.2.2.2.2.2.2.2.2.2.2.2.2.2.2.2.1, v0.2.2.2.2.2.2.2.2.2.2.2.2.2.2.2.2.2.2.2.2.1, v0.2.2.2.2.2.2.2.2.2.2.2.2.2.2.2.2.2.2.2.2.2.1, v0.2.2.2.2.2.2.2.2.2.2.2.2.2.2.2.2.2.2.2.2.2.2) x2 x3 x5 ls H locs h (lv_sub hl [0, 1, 2] rfl) hP hD hS

def f_Model_whole_166 (v0 : T_Model) (x1 : Int32) (x2 : Int32) (x3 : Int32) (x4 : Int32) (x5 : Int32) : Option O_Model_whole := (if v0.2.2.2.2.2.2.2.2.2.2.2.2.1 = 0 then f_Model_whole_201 v0 x2 x3 x5 else (if x1 = 0 then f_Model_whole_201 v0 x2 x3 x5 else (if x5 = 0 then f_Model_whole_200 (v0.1, v0.2.1, v0.2.2.1, v0.2.2.2.1, v0.2.2.2.2.1, v0.2.2.2.2.2.1, v0.2.2.2.2.2.2.1, v0.2.2.2.2.2.2.2.1, (upd v0.2.2.2.2.2.2.2.2.1 (0 : Int32).toNatClampNeg x3), v0.2.2.2.2.2.2.2.2.2.1, v0.2.2.2.2.2.2.2.2.2.2.1, v0.2.2.2.2.2.2.2.2.2.2.2.1, v0.2.2.2.2.2.2.2.2.2.2.2.2.1, v0.2.2.2.2.2.2.2.2.2.2.2.2.2.1, v0.2.2.2.2.2.2.2.2.2.2.2.2.2.2.1, v0.2.2.2.2.2.2.2.2.2.2.2.2.2.2.2.1, v0.2.2.2.2.2.2.2.2.2.2.2.2.2.2.2.2.1, v0.2.2.2.2.2.2.2.2.2.2.2.2.2.2.2.2.2.1, v0.2.2.2.2.2.2.2.2.2.2.2.2.2.2.2.2.2.2.1, v0.2.2.2.2.2.2.2.2.2.2.2.2.2.2.2.2.2.2.2.1, v0.2.2.2.2.2.2.2.2.2.2.2.2.2.2.2.2.2.2.2.2.1, v0.2.2.2.2.2.2.2.2.2.2.2.2.2.2.2.2.2.2.2.2.2.1, v0.2.2.2.2.2.2.2.2.2.2.2.2.2.2.2.2.2.2.2.2.2.2) x2 x3 x5 (3 : Int32) (0 : Int32) else f_Model_whole_200 (v0.1, v0.2.1, v0.2.2.1, v0.2.2.2.1, v0.2.2.2.2.1, v0.2.2.2.2.2.1, v0.2.2.2.2.2.2.1, v0.2.2.2.2.2.2.2.1, (upd v0.2.2.2.2.2.2.2.2.1 (0 : Int32).toNatClampNeg x3), v0.2.2.2.2.2.2.2.2.2.1, v0.2.2.2.2.2.2.2.2.2.2.1, v0.2.2.2.2.2.2.2.2.2.2.2.1, v0.2.2.2.2.2.2.2.2.2.2.2.2.1, v0.2.2.2.2.2.2.2.2.2.2.2.2.2.1, v0.2.2.2.2.2.2.2.2.2.2.2.2.2.2.1, v0.2.2.2.2.2.2.2.2.2.2.2.2.2.2.2.1, v0.2.2.2.2.2.2.2.2.2.2.2.2.2.2.2.2.1, v0.2.2.2.2.2.2.2.2.2.2.2.2.2.2.2.2.2.1, v0.2.2.2.2.2.2.2.2.2.2.2.2.2.2.2.2.2.2.1, v0.2.2.2.2.2.2.2.2.2.2.2.2.2.2.2.2.2.2.2.1, v0.2.2.2.2.2.2.2.2.2.2.2.2.2.2.2.2.2.2.2.2.1, v0.2.2.2.2.2.2.2.2.2.2.2.2.2.2.2.2.2.2.2.2.2.1, v0.2.2.2.2.2.2.2.2.2.2.2.2.2.2.2.2.2.2.2.2.2.2) x2 x3 x5 (3 : Int32) x4)))
set_option maxHeartbeats 4000000 in
set_option maxRecDepth 100000 in
theorem w_Model_whole_166 {p : Program} {l : Launch} {e : Env} {s : State} {m : MethodId} {args : Array Value} {below : List Frame} {meth : Method} {c : Code} {A : Nat → Prop} {D : va_G} {cC cI : ClassId} {a0_0 a0_1 a0_2 a0_3 a0_4 a0_5 a0_6 a0_7 : Nat} (X : xCX p s m args meth c A D cC cI b_Model_whole 7 R_Model (some .int)) {out : O_Model_whole}   : J_Model_whole_166 p l e s m args below meth c A D cC cI a0_0 a0_1 a0_2 a0_3 a0_4 a0_5 a0_6 a0_7 out (f_Model_whole_166  ) := by
  obtain ⟨hx, hb, hml, hown, htB, ⟨hK, hN⟩, hZ, hA, hr, hlocks⟩ := id X
  intro v0 x1 x2 x3 x4 x5 ls H locs h hl hP hD hS
  refine lv_aload_n hx hb d_Model_whole_166 rfl (lv_at hl 0 rfl) ?_
  refine va_get (D := D) (ci := 11) (v := .int v0.2.2.2.2.2.2.2.2.2.2.2.2.1) (C := R_Model) (T := F_Model) (N := 23) hx hb htB in_Model hown hK hP 0 rfl rfl 12 (by decide) (htB _ b_313) (fun _ h9 => h9) rfl d_Model_whole_167 ?_
  refine lv_if_eq (tgt := 201) hx hb d_Model_whole_170 rfl (fun hc => ?_) (fun hc => ?_)
  · have h := (if_pos hc).symm.trans h
    exact w_Model_whole_201 X v0 x2 x3 x5 ls H locs h (lv_sub hl [2, 3, 5] rfl) hP hD hS
  have h := (if_neg hc).symm.trans h
  refine lv_iload_n hx hb d_Model_whole_173 rfl (lv_at hl 1 rfl) ?_
  refine lv_if_eq (tgt := 201) hx hb d_Model_whole_174 rfl (fun hc => ?_) (fun hc => ?_)
  · have h := (if_pos hc).symm.trans h
    exact w_Model_whole_201 X v0 x2 x3 x5 ls H locs h (lv_sub hl [2, 3, 5] rfl) hP hD hS
  have h := (if_neg hc).symm.trans h
  refine lv_aload_n hx hb d_Model_whole_177 rfl (lv_at hl 0 rfl) ?_
  refine va_get (D := D) (ci := 11) (v := .ref a0_5) (C := R_Model) (T := F_Model) (N := 23) hx hb htB in_Model hown hK hP 0 rfl rfl 8 (by decide) (htB _ b_330) (fun _ h9 => h9) rfl d_Model_whole_178 ?_
  refine lv_iconst (v := 0) hx hb d_Model_whole_181 (by decide) ?_
  refine lv_iload_n hx hb d_Model_whole_182 rfl (lv_at hl 3 rfl) ?_
  refine va_iast hx hb hK hP hD hS 5 1 rfl rfl (show ¬ (((0 : Int32) : Int32) < 0 ∨ 7 ≤ ((0 : Int32) : Int32).toNatClampNeg) by decide) d_Model_whole_183 (fun H locs hP hD hS => ?_)
  have hP : va_P D classes (wd_Model_whole cC cI a0_0 a0_1 a0_2 a0_3 a0_4 a0_5 a0_6 a0_7 (v0.1, v0.2.1, v0.2.2.1, v0.2.2.2.1, v0.2.2.2.2.1, v0.2.2.2.2.2.1, v0.2.2.2.2.2.2.1, v0.2.2.2.2.2.2.2.1, (upd v0.2.2.2.2.2.2.2.2.1 (0 : Int32).toNatClampNeg x3), v0.2.2.2.2.2.2.2.2.2.1, v0.2.2.2.2.2.2.2.2.2.2.1, v0.2.2.2.2.2.2.2.2.2.2.2.1, v0.2.2.2.2.2.2.2.2.2.2.2.2.1, v0.2.2.2.2.2.2.2.2.2.2.2.2.2.1, v0.2.2.2.2.2.2.2.2.2.2.2.2.2.2.1, v0.2.2.2.2.2.2.2.2.2.2.2.2.2.2.2.1, v0.2.2.2.2.2.2.2.2.2.2.2.2.2.2.2.2.1, v0.2.2.2.2.2.2.2.2.2.2.2.2.2.2.2.2.2.1, v0.2.2.2.2.2.2.2.2.2.2.2.2.2.2.2.2.2.2.1, v0.2.2.2.2.2.2.2.2.2.2.2.2.2.2.2.2.2.2.2.1, v0.2.2.2.2.2.2.2.2.2.2.2.2.2.2.2.2.2.2.2.2.1, v0.2.2.2.2.2.2.2.2.2.2.2.2.2.2.2.2.2.2.2.2.2.1, v0.2.2.2.2.2.2.2.2.2.2.2.2.2.2.2.2.2.2.2.2.2.2)) H := hP
  have hD : va_D A (wd_Model_whole cC cI a0_0 a0_1 a0_2 a0_3 a0_4 a0_5 a0_6 a0_7 (v0.1, v0.2.1, v0.2.2.1, v0.2.2.2.1, v0.2.2.2.2.1, v0.2.2.2.2.2.1, v0.2.2.2.2.2.2.1, v0.2.2.2.2.2.2.2.1, (upd v0.2.2.2.2.2.2.2.2.1 (0 : Int32).toNatClampNeg x3), v0.2.2.2.2.2.2.2.2.2.1, v0.2.2.2.2.2.2.2.2.2.2.1, v0.2.2.2.2.2.2.2.2.2.2.2.1, v0.2.2.2.2.2.2.2.2.2.2.2.2.1, v0.2.2.2.2.2.2.2.2.2.2.2.2.2.1, v0.2.2.2.2.2.2.2.2.2.2.2.2.2.2.1, v0.2.2.2.2.2.2.2.2.2.2.2.2.2.2.2.1, v0.2.2.2.2.2.2.2.2.2.2.2.2.2.2.2.2.1, v0.2.2.2.2.2.2.2.2.2.2.2.2.2.2.2.2.2.1, v0.2.2.2.2.2.2.2.2.2.2.2.2.2.2.2.2.2.2.1, v0.2.2.2.2.2.2.2.2.2.2.2.2.2.2.2.2.2.2.2.1, v0.2.2.2.2.2.2.2.2.2.2.2.2.2.2.2.2.2.2.2.2.1, v0.2.2.2.2.2.2.2.2.2.2.2.2.2.2.2.2.2.2.2.2.2.1, v0.2.2.2.2.2.2.2.2.2.2.2.2.2.2.2.2.2.2.2.2.2.2)) := hD
  refine lv_aload_n hx hb d_Model_whole_184 rfl (lv_at hl 0 rfl) ?_
  refine va_get (D := D) (ci := 11) (v := .ref a0_5) (C := R_Model) (T := F_Model) (N := 23) hx hb htB in_Model hown hK hP 0 rfl rfl 8 (by decide) (htB _ b_330) (fun _ h9 => h9) rfl d_Model_whole_185 ?_
  refine lv_iconst (v := 3) hx hb d_Model_whole_188 (by decide) ?_
  refine lv_iload hx hb d_Model_whole_189 (lv_at hl 5 rfl) ?_
  refine lv_if_eq (tgt := 199) hx hb d_Model_whole_191 rfl (fun hc => ?_) (fun hc => ?_)
  · have h := (if_pos hc).symm.trans h
    refine lv_iconst (v := 0) hx hb d_Model_whole_199 (by decide) ?_
    exact w_Model_whole_200 X (v0.1, v0.2.1, v0.2.2.1, v0.2.2.2.1, v0.2.2.2.2.1, v0.2.2.2.2.2.1, v0.2.2.2.2.2.2.1, v0.2.2.2.2.2.2.2.1, (upd v0.2.2.2.2.2.2.2.2.1 (0 : Int32).toNatClampNeg x3), v0.2.2.2.2.2.2.2.2.2.1, v0.2.2.2.2.2.2.2.2.2.2.1, v0.2.2.2.2.2.2.2.2.2.2.2.1, v0.2.2.2.2.2.2.2.2.2.2.2.2.1, v0.2.2.2.2.2.2.2.2.2.2.2.2.2.1, v0.2.2.2.2.2.2.2.2.2.2.2.2.2.2.1, v0.2.2.2.2.2.2.2.2.2.2.2.2.2.2.2.1, v0.2.2.2.2.2.2.2.2.2.2.2.2.2.2.2.2.1, v0.2.2.2.2.2.2.2.2.2.2.2.2.2.2.2.2.2.1, v0.2.2.2.2.2.2.2.2.2.2.2.2.2.2.2.2.2.2.1, v0.2.2.2.2.2.2.2.2.2.2.2.2.2.2.2.2.2.2.2.1, v0.2.2.2.2.2.2.2.2.2.2.2.2.2.2.2.2.2.2.2.2.1, v0.2.2.2.2.2.2.2.2.2.2.2.2.2.2.2.2.2.2.2.2.2.1, v0.2.2.2.2.2.2.2.2.2.2.2.2.2.2.2.2.2.2.2.2.2.2) x2 x3 x5 (3 : Int32) (0 : Int32) ls H locs h (lv_sub hl [2, 3, 5] rfl) hP hD hS
  have h := (if_neg hc).symm.trans h
  refine lv_iload hx hb d_Model_whole_194 (lv_at hl 4 rfl) ?_
  refine lv_goto (tgt := 200) hx hb d_Model_whole_196 rfl ?_
  exact w_Model_whole_200 X (v0.1, v0.2.1, v0.2.2.1, v0.2.2.2.1, v0.2.2.2.2.1, v0.2.2.2.2.2.1, v0.2.2.2.2.2.2.1, v0.2.2.2.2.2.2.2.1, (upd v0.2.2.2.2.2.2.2.2.1 (0 : Int32).toNatClampNeg x3), v0.2.2.2.2.2.2.2.2.2.1, v0.2.2.2.2.2.2.2.2.2.2.1, v0.2.2.2.2.2.2.2.2.2.2.2.1, v0.2.2.2.2.2.2.2.2.2.2.2.2.1, v0.2.2.2.2.2.2.2.2.2.2.2.2.2.1, v0.2.2.2.2.2.2.2.2.2.2.2.2.2.2.1, v0.2.2.2.2.2.2.2.2.2.2.2.2.2.2.2.1, v0.2.2.2.2.2.2.2.2.2.2.2.2.2.2.2.2.1, v0.2.2.2.2.2.2.2.2.2.2.2.2.2.2.2.2.2.1, v0.2.2.2.2.2.2.2.2.2.2.2.2.2.2.2.2.2.2.1, v0.2.2.2.2.2.2.2.2.2.2.2.2.2.2.2.2.2.2.2.1, v0.2.2.2.2.2.2.2.2.2.2.2.2.2.2.2.2.2.2.2.2.1, v0.2.2.2.2.2.2.2.2.2.2.2.2.2.2.2.2.2.2.2.2.2.1, v0.2.2.2.2.2.2.2.2.2.2.2.2.2.2.2.2.2.2.2.2.2.2) x2 x3 x5 (3 : Int32) x4 ls H locs h (lv_sub hl [2, 3, 5] rfl) hP hD hS

def f_Model_whole_153 (v0 : T_Model) (x1 : Int32) (x2 : Int32) (x3 : Int32) (x4 : Int32) (x5 : Int32) (x6 : Int32) : Option O_Model_whole := (if x6 = 0 then f_Model_whole_166 v0 x1 x2 x3 x4 x5 else f_Model_whole_166 (v0.1, v0.2.1, v0.2.2.1, v0.2.2.2.1, v0.2.2.2.2.1, v0.2.2.2.2.2.1, v0.2.2.2.2.2.2.1, v0.2.2.2.2.2.2.2.1, v0.2.2.2.2.2.2.2.2.1, v0.2.2.2.2.2.2.2.2.2.1, v0.2.2.2.2.2.2.2.2.2.1, v0.2.2.2.2.2.2.2.2.2.2.2.1, v0.2.2.2.2.2.2.2.2.2.2.2.2.1, v0.2.2.2.2.2.2.2.2.2.2.2.2.2.1, v0.2.2.2.2.2.2.2.2.2.2.2.2.2.2.1, v0.2.2.2.2.2.2.2.2.2.2.2.2.2.2.2.1, v0.2.2.2.2.2.2.2.2.2.2.2.2.2.2.2.2.1, v0.2.2.2.2.2.2.2.2.2.2.2.2.2.2.2.2.2.1, v0.2.2.2.2.2.2.2.2.2.2.2.2.2.2.2.2.2.2.1, v0.2.2.2.2.2.2.2.2.2.2.2.2.2.2.2.2.2.2.2.1, v0.2.2.2.2.2.2.2.2.2.2.2.2.2.2.2.2.2.2.2.2.1, v0.2.2.2.2.2.2.2.2.2.2.2.2.2.2.2.2.2.2.2.2.2.1, v0.2.2.2.2.2.2.2.2.2.2.2.2.2.2.2.2.2.2.2.2.2.2) x1 x2 x3 x4 x5)
set_option maxHeartbeats 4000000 in
set_option maxRecDepth 100000 in
theorem w_Model_whole_153 {p : Program} {l : Launch} {e : Env} {s : State} {m : MethodId} {args : Array Value} {below : List Frame} {meth : Method} {c : Code} {A : Nat → Prop} {D : va_G} {cC cI : ClassId} {a0_0 a0_1 a0_2 a0_3 a0_4 a0_5 a0_6 a0_7 : Nat} (X : xCX p s m args meth c A D cC cI b_Model_whole 7 R_Model (some .int)) {out : O_Model_whole}   : J_Model_whole_153 p l e s m args below meth c A D cC cI a0_0 a0_1 a0_2 a0_3 a0_4 a0_5 a0_6 a0_7 out (f_Model_whole_153  ) := by
  obtain ⟨hx, hb, hml, hown, htB, ⟨hK, hN⟩, hZ, hA, hr, hlocks⟩ := id X
  intro v0 x1 x2 x3 x4 x5 x6 ls H locs h hl hP hD hS
  refine lv_iload hx hb d_Model_whole_153 (lv_at hl 6 rfl) ?_
  refine lv_if_eq (tgt := 166) hx hb d_Model_whole_155 rfl (fun hc => ?_) (fun hc => ?_)
  · have h := (if_pos hc).symm.trans h
    exact w_Model_whole_166 X v0 x1 x2 x3 x4 x5 ls H locs h (lv_sub hl [0, 1, 2, 3, 4, 5] rfl) hP hD hS
  have h := (if_neg hc).symm.trans h
  refine lv_aload_n hx hb d_Model_whole_158 rfl (lv_at hl 0 rfl) ?_
  refine lv_aload_n hx hb d_Model_whole_159 rfl (lv_at hl 0 rfl) ?_
  refine va_get (D := D) (ci := 11) (v := .int v0.2.2.2.2.2.2.2.2.2.1) (C := R_Model) (T := F_Model) (N := 23) hx hb htB in_Model hown hK hP 0 rfl rfl 9 (by decide) (htB _ b_317) (fun _ h9 => h9) rfl d_Model_whole_160 ?_
  refine va_put (D := D) (ci := 11) (v := .int v0.2.2.2.2.2.2.2.2.2.1) (ty := .int) (C := R_Model) (T := F_Model) (N := 23) hx hb htB in_Model t_Model t_Model_ok n_Model hown hK hP hD hS 0 rfl rfl 10 (by decide) (htB _ b_331) (fun _ h9 => h9) rfl (by decide +kernel) rfl rfl (Nat.le_of_ble_eq_true rfl) d_Model_whole_163 (fun H locs hP hD hS => ?_)
  have hP : va_P D classes (wd_Model_whole cC cI a0_0 a0_1 a0_2 a0_3 a0_4 a0_5 a0_6 a0_7 (v0.1, v0.2.1, v0.2.2.1, v0.2.2.2.1, v0.2.2.2.2.1, v0.2.2.2.2.2.1, v0.2.2.2.2.2.2.1, v0.2.2.2.2.2.2.2.1, v0.2.2.2.2.2.2.2.2.1, v0.2.2.2.2.2.2.2.2.2.1, v0.2.2.2.2.2.2.2.2.2.1, v0.2.2.2.2.2.2.2.2.2.2.2.1, v0.2.2.2.2.2.2.2.2.2.2.2.2.1, v0.2.2.2.2.2.2.2.2.2.2.2.2.2.1, v0.2.2.2.2.2.2.2.2.2.2.2.2.2.2.1, v0.2.2.2.2.2.2.2.2.2.2.2.2.2.2.2.1, v0.2.2.2.2.2.2.2.2.2.2.2.2.2.2.2.2.1, v0.2.2.2.2.2.2.2.2.2.2.2.2.2.2.2.2.2.1, v0.2.2.2.2.2.2.2.2.2.2.2.2.2.2.2.2.2.2.1, v0.2.2.2.2.2.2.2.2.2.2.2.2.2.2.2.2.2.2.2.1, v0.2.2.2.2.2.2.2.2.2.2.2.2.2.2.2.2.2.2.2.2.1, v0.2.2.2.2.2.2.2.2.2.2.2.2.2.2.2.2.2.2.2.2.2.1, v0.2.2.2.2.2.2.2.2.2.2.2.2.2.2.2.2.2.2.2.2.2.2)) H := hP
  have hD : va_D A (wd_Model_whole cC cI a0_0 a0_1 a0_2 a0_3 a0_4 a0_5 a0_6 a0_7 (v0.1, v0.2.1, v0.2.2.1, v0.2.2.2.1, v0.2.2.2.2.1, v0.2.2.2.2.2.1, v0.2.2.2.2.2.2.1, v0.2.2.2.2.2.2.2.1, v0.2.2.2.2.2.2.2.2.1, v0.2.2.2.2.2.2.2.2.2.1, v0.2.2.2.2.2.2.2.2.2.1, v0.2.2.2.2.2.2.2.2.2.2.2.1, v0.2.2.2.2.2.2.2.2.2.2.2.2.1, v0.2.2.2.2.2.2.2.2.2.2.2.2.2.1, v0.2.2.2.2.2.2.2.2.2.2.2.2.2.2.1, v0.2.2.2.2.2.2.2.2.2.2.2.2.2.2.2.1, v0.2.2.2.2.2.2.2.2.2.2.2.2.2.2.2.2.1, v0.2.2.2.2.2.2.2.2.2.2.2.2.2.2.2.2.2.1, v0.2.2.2.2.2.2.2.2.2.2.2.2.2.2.2.2.2.2.1, v0.2.2.2.2.2.2.2.2.2.2.2.2.2.2.2.2.2.2.2.1, v0.2.2.2.2.2.2.2.2.2.2.2.2.2.2.2.2.2.2.2.2.1, v0.2.2.2.2.2.2.2.2.2.2.2.2.2.2.2.2.2.2.2.2.2.1, v0.2.2.2.2.2.2.2.2.2.2.2.2.2.2.2.2.2.2.2.2.2.2)) := hD
  exact w_Model_whole_166 X (v0.1, v0.2.1, v0.2.2.1, v0.2.2.2.1, v0.2.2.2.2.1, v0.2.2.2.2.2.1, v0.2.2.2.2.2.2.1, v0.2.2.2.2.2.2.2.1, v0.2.2.2.2.2.2.2.2.1, v0.2.2.2.2.2.2.2.2.2.1, v0.2.2.2.2.2.2.2.2.2.1, v0.2.2.2.2.2.2.2.2.2.2.2.1, v0.2.2.2.2.2.2.2.2.2.2.2.2.1, v0.2.2.2.2.2.2.2.2.2.2.2.2.2.1, v0.2.2.2.2.2.2.2.2.2.2.2.2.2.2.1, v0.2.2.2.2.2.2.2.2.2.2.2.2.2.2.2.1, v0.2.2.2.2.2.2.2.2.2.2.2.2.2.2.2.2.1, v0.2.2.2.2.2.2.2.2.2.2.2.2.2.2.2.2.2.1, v0.2.2.2.2.2.2.2.2.2.2.2.2.2.2.2.2.2.2.1, v0.2.2.2.2.2.2.2.2.2.2.2.2.2.2.2.2.2.2.2.1, v0.2.2.2.2.2.2.2.2.2.2.2.2.2.2.2.2.2.2.2.2.1, v0.2.2.2.2.2.2.2.2.2.2.2.2.2.2.2.2.2.2.2.2.2.1, v0.2.2.2.2.2.2.2.2.2.2.2.2.2.2.2.2.2.2.2.2.2.2) x1 x2 x3 x4 x5 ls H locs h (lv_sub hl [0, 1, 2, 3, 4, 5] rfl) hP hD hS

def J_Model_whole_79 (p : Program) (l : Launch) (e : Env) (s : State) (m : MethodId) (args : Array Value) (below : List Frame) (meth : Method) (c : Code) (A : Nat → Prop) (D : va_G) (cC cI : ClassId) (a0_0 a0_1 a0_2 a0_3 a0_4 a0_5 a0_6 a0_7 : Nat) (out : O_Model_whole) (k : T_Model → Int32 → Int32 → Int32 → Int32 → Int32 → Option O_Model_whole) : Prop := ∀ (v0 : T_Model) (x1 : Int32) (x2 : Int32) (x3 : Int32) (x4 : Int32) (x5 : Int32) (ls : Array Slot) (H : Heap) (locs : List Loc), k v0 x1 x2 x3 x4 x5 = some out → lv_has ls 7 [(0, .ref a0_0), (1, .int x1), (2, .int x2), (3, .int x3), (4, .int x4), (5, .int x5)] → va_P D classes (wd_Model_whole cC cI a0_0 a0_1 a0_2 a0_3 a0_4 a0_5 a0_6 a0_7 v0) H → va_D A (wd_Model_whole cC cI a0_0 a0_1 a0_2 a0_3 a0_4 a0_5 a0_6 a0_7 v0) → va_S A s.heap H locs → W p l e rm_Model_whole s m args below meth c H locs 0 0 (MQ below (q_Model_whole D cC cI a0_0 a0_1 a0_2 a0_3 a0_4 a0_5 a0_6 a0_7 out A) args s 0 0 A) (F0 m 79 ls [])
def J_Model_whole_126 (p : Program) (l : Launch) (e : Env) (s : State) (m : MethodId) (args : Array Value) (below : List Frame) (meth : Method) (c : Code) (A : Nat → Prop) (D : va_G) (cC cI : ClassId) (a0_0 a0_1 a0_2 a0_3 a0_4 a0_5 a0_6 a0_7 : Nat) (out : O_Model_whole) (k : T_Model → Int32 → Int32 → Int32 → Int32 → Int32 → Option O_Model_whole) : Prop := ∀ (v0 : T_Model) (x1 : Int32) (x2 : Int32) (x4 : Int32) (x5 : Int32) (s0 : Int32) (ls : Array Slot) (H : Heap) (locs : List Loc), k v0 x1 x2 x4 x5 s0 = some out → lv_has ls 7 [(0, .ref a0_0), (1, .int x1), (2, .int x2), (4, .int x4), (5, .int x5)] → va_P D classes (wd_Model_whole cC cI a0_0 a0_1 a0_2 a0_3 a0_4 a0_5 a0_6 a0_7 v0) H → va_D A (wd_Model_whole cC cI a0_0 a0_1 a0_2 a0_3 a0_4 a0_5 a0_6 a0_7 v0) → va_S A s.heap H locs → W p l e rm_Model_whole s m args below meth c H locs 0 0 (MQ below (q_Model_whole D cC cI a0_0 a0_1 a0_2 a0_3 a0_4 a0_5 a0_6 a0_7 out A) args s 0 0 A) (F0 m 126 ls [.int s0])
def J_Model_whole_140 (p : Program) (l : Launch) (e : Env) (s : State) (m : MethodId) (args : Array Value) (below : List Frame) (meth : Method) (c : Code) (A : Nat → Prop) (D : va_G) (cC cI : ClassId) (a0_0 a0_1 a0_2 a0_3 a0_4 a0_5 a0_6 a0_7 : Nat) (out : O_Model_whole) (k : T_Model → Int32 → Int32 → Int32 → Int32 → Int32 → Int32 → Option O_Model_whole) : Prop := ∀ (v0 : T_Model) (x1 : Int32) (x2 : Int32) (x3 : Int32) (x4 : Int32) (x5 : Int32) (x6 : Int32) (ls : Array Slot) (H : Heap) (locs : List Loc), k v0 x1 x2 x3 x4 x5 x6 = some out → lv_has ls 7 [(0, .ref a0_0), (1, .int x1), (2, .int x2), (3, .int x3), (4, .int x4), (5, .int x5), (6, .int x6)] → va_P D classes (wd_Model_whole cC cI a0_0 a0_1 a0_2 a0_3 a0_4 a0_5 a0_6 a0_7 v0) H → va_D A (wd_Model_whole cC cI a0_0 a0_1 a0_2 a0_3 a0_4 a0_5 a0_6 a0_7 v0) → va_S A s.heap H locs → W p l e rm_Model_whole s m args below meth c H locs 0 0 (MQ below (q_Model_whole D cC cI a0_0 a0_1 a0_2 a0_3 a0_4 a0_5 a0_6 a0_7 out A) args s 0 0 A) (F0 m 140 ls [])
def f_Model_whole_140 (k13 : T_Model → Int32 → Int32 → Int32 → Int32 → Int32 → Int32 → Option O_Model_whole) (v0 : T_Model) (x1 : Int32) (x2 : Int32) (x3 : Int32) (x4 : Int32) (x5 : Int32) (x6 : Int32) : Option O_Model_whole := k13 (v0.1, v0.2.1, v0.2.2.1, v0.2.2.2.1, v0.2.2.2.2.1, v0.2.2.2.2.2.1, v0.2.2.2.2.2.2.1, v0.2.2.2.2.2.2.2.1, v0.2.2.2.2.2.2.2.2.1, (v0.2.2.2.2.2.2.2.2.2.1 + (1 : Int32)), v0.2.2.2.2.2.2.2.2.2.2.1, v0.2.2.2.2.2.2.2.2.2.2.2.1, v0.2.2.2.2.2.2.2.2.2.2.2.2.1, v0.2.2.2.2.2.2.2.2.2.2.2.2.2.1, v0.2.2.2.2.2.2.2.2.2.2.2.2.2.2.1, v0.2.2.2.2.2.2.2.2.2.2.2.2.2.2.2.1, v0.2.2.2.2.2.2.2.2.2.2.2.2.2.2.2.2.1, v0.2.2.2.2.2.2.2.2.2.2.2.2.2.2.2.2.2.1, v0.2.2.2.2.2.2.2.2.2.2.2.2.2.2.2.2.2.2.1, v0.2.2.2.2.2.2.2.2.2.2.2.2.2.2.2.2.2.2.2.1, v0.2.2.2.2.2.2.2.2.2.2.2.2.2.2.2.2.2.2.2.2.1, v0.2.2.2.2.2.2.2.2.2.2.2.2.2.2.2.2.2.2.2.2.2.1, v0.2.2.2.2.2.2.2.2.2.2.2.2.2.2.2.2.2.2.2.2.2.2) x1 x2 x3 x4 x5 x6
set_option maxHeartbeats 4000000 in
set_option maxRecDepth 100000 in
theorem w_Model_whole_140 {p : Program} {l : Launch} {e : Env} {s : State} {m : MethodId} {args : Array Value} {below : List Frame} {meth : Method} {c : Code} {A : Nat → Prop} {D : va_G} {cC cI : ClassId} {a0_0 a0_1 a0_2 a0_3 a0_4 a0_5 a0_6 a0_7 : Nat} (X : xCX p s m args meth c A D cC cI b_Model_whole 7 R_Model (some .int)) {out : O_Model_whole} {k13 : T_Model → Int32 → Int32 → Int32 → Int32 → Int32 → Int32 → Option O_Model_whole} (hk13 : J_Model_whole_13 p l e s m args below meth c A D cC cI a0_0 a0_1 a0_2 a0_3 a0_4 a0_5 a0_6 a0_7 out k13) : J_Model_whole_140 p l e s m args below meth c A D cC cI a0_0 a0_1 a0_2 a0_3 a0_4 a0_5 a0_6 a0_7 out (f_Model_whole_140  k13) := by
  obtain ⟨hx, hb, hml, hown, htB, ⟨hK, hN⟩, hZ, hA, hr, hlocks⟩ := id X
  intro v0 x1 x2 x3 x4 x5 x6 ls H locs h hl hP hD hS
  refine lv_aload_n hx hb d_Model_whole_140 rfl (lv_at hl 0 rfl) ?_
  refine lv_aload_n hx hb d_Model_whole_141 rfl (lv_at hl 0 rfl) ?_
  refine va_get (D := D) (ci := 11) (v := .int v0.2.2.2.2.2.2.2.2.2.1) (C := R_Model) (T := F_Model) (N := 23) hx hb htB in_Model hown hK hP 0 rfl rfl 9 (by decide) (htB _ b_317) (fun _ h9 => h9) rfl d_Model_whole_142 ?_
  refine lv_iconst (v := 1) hx hb d_Model_whole_145 (by decide) ?_
  refine lv_iadd hx hb d_Model_whole_146 ?_
  refine va_put (D := D) (ci := 11) (v := .int (v0.2.2.2.2.2.2.2.2.2.1 + (1 : Int32))) (ty := .int) (C := R_Model) (T := F_Model) (N := 23) hx hb htB in_Model t_Model t_Model_ok n_Model hown hK hP hD hS 0 rfl rfl 9 (by decide) (htB _ b_317) (fun _ h9 => h9) rfl (by decide +kernel) rfl rfl (Nat.le_of_ble_eq_true rfl) d_Model_whole_147 (fun H locs hP hD hS => ?_)
  have hP : va_P D classes (wd_Model_whole cC cI a0_0 a0_1 a0_2 a0_3 a0_4 a0_5 a0_6 a0_7 (v0.1, v0.2.1, v0.2.2.1, v0.2.2.2.1, v0.2.2.2.2.1, v0.2.2.2.2.2.1, v0.2.2.2.2.2.2.1, v0.2.2.2.2.2.2.2.1, v0.2.2.2.2.2.2.2.2.1, (v0.2.2.2.2.2.2.2.2.2.1 + (1 : Int32)), v0.2.2.2.2.2.2.2.2.2.2.1, v0.2.2.2.2.2.2.2.2.2.2.2.1, v0.2.2.2.2.2.2.2.2.2.2.2.2.1, v0.2.2.2.2.2.2.2.2.2.2.2.2.2.1, v0.2.2.2.2.2.2.2.2.2.2.2.2.2.2.1, v0.2.2.2.2.2.2.2.2.2.2.2.2.2.2.2.1, v0.2.2.2.2.2.2.2.2.2.2.2.2.2.2.2.2.1, v0.2.2.2.2.2.2.2.2.2.2.2.2.2.2.2.2.2.1, v0.2.2.2.2.2.2.2.2.2.2.2.2.2.2.2.2.2.2.1, v0.2.2.2.2.2.2.2.2.2.2.2.2.2.2.2.2.2.2.2.1, v0.2.2.2.2.2.2.2.2.2.2.2.2.2.2.2.2.2.2.2.2.1, v0.2.2.2.2.2.2.2.2.2.2.2.2.2.2.2.2.2.2.2.2.2.1, v0.2.2.2.2.2.2.2.2.2.2.2.2.2.2.2.2.2.2.2.2.2.2)) H := hP
  have hD : va_D A (wd_Model_whole cC cI a0_0 a0_1 a0_2 a0_3 a0_4 a0_5 a0_6 a0_7 (v0.1, v0.2.1, v0.2.2.1, v0.2.2.2.1, v0.2.2.2.2.1, v0.2.2.2.2.2.1, v0.2.2.2.2.2.2.1, v0.2.2.2.2.2.2.2.1, v0.2.2.2.2.2.2.2.2.1, (v0.2.2.2.2.2.2.2.2.2.1 + (1 : Int32)), v0.2.2.2.2.2.2.2.2.2.2.1, v0.2.2.2.2.2.2.2.2.2.2.2.1, v0.2.2.2.2.2.2.2.2.2.2.2.2.1, v0.2.2.2.2.2.2.2.2.2.2.2.2.2.1, v0.2.2.2.2.2.2.2.2.2.2.2.2.2.2.1, v0.2.2.2.2.2.2.2.2.2.2.2.2.2.2.2.1, v0.2.2.2.2.2.2.2.2.2.2.2.2.2.2.2.2.1, v0.2.2.2.2.2.2.2.2.2.2.2.2.2.2.2.2.2.1, v0.2.2.2.2.2.2.2.2.2.2.2.2.2.2.2.2.2.2.1, v0.2.2.2.2.2.2.2.2.2.2.2.2.2.2.2.2.2.2.2.1, v0.2.2.2.2.2.2.2.2.2.2.2.2.2.2.2.2.2.2.2.2.1, v0.2.2.2.2.2.2.2.2.2.2.2.2.2.2.2.2.2.2.2.2.2.1, v0.2.2.2.2.2.2.2.2.2.2.2.2.2.2.2.2.2.2.2.2.2.2)) := hD
  refine lv_goto (tgt := 13) hx hb d_Model_whole_150 rfl ?_
  exact hk13 (v0.1, v0.2.1, v0.2.2.1, v0.2.2.2.1, v0.2.2.2.2.1, v0.2.2.2.2.2.1, v0.2.2.2.2.2.2.1, v0.2.2.2.2.2.2.2.1, v0.2.2.2.2.2.2.2.2.1, (v0.2.2.2.2.2.2.2.2.2.1 + (1 : Int32)), v0.2.2.2.2.2.2.2.2.2.2.1, v0.2.2.2.2.2.2.2.2.2.2.2.1, v0.2.2.2.2.2.2.2.2.2.2.2.2.1, v0.2.2.2.2.2.2.2.2.2.2.2.2.2.1, v0.2.2.2.2.2.2.2.2.2.2.2.2.2.2.1, v0.2.2.2.2.2.2.2.2.2.2.2.2.2.2.2.1, v0.2.2.2.2.2.2.2.2.2.2.2.2.2.2.2.2.1, v0.2.2.2.2.2.2.2.2.2.2.2.2.2.2.2.2.2.1, v0.2.2.2.2.2.2.2.2.2.2.2.2.2.2.2.2.2.2.1, v0.2.2.2.2.2.2.2.2.2.2.2.2.2.2.2.2.2.2.2.1, v0.2.2.2.2.2.2.2.2.2.2.2.2.2.2.2.2.2.2.2.2.1, v0.2.2.2.2.2.2.2.2.2.2.2.2.2.2.2.2.2.2.2.2.2.1, v0.2.2.2.2.2.2.2.2.2.2.2.2.2.2.2.2.2.2.2.2.2.2) x1 x2 x3 x4 x5 x6 ls H locs h (lv_sub hl [0, 1, 2, 3, 4, 5, 6] rfl) hP hD hS

def f_Model_whole_126 (k13 : T_Model → Int32 → Int32 → Int32 → Int32 → Int32 → Int32 → Option O_Model_whole) (v0 : T_Model) (x1 : Int32) (x2 : Int32) (x4 : Int32) (x5 : Int32) (s0 : Int32) : Option O_Model_whole := f_Model_whole_140 k13 v0 x1 (x2 + (1 : Int32)) s0 (x4 + (1 : Int32)) x5 (0 : Int32)
set_option maxHeartbeats 4000000 in
set_option maxRecDepth 100000 in
theorem w_Model_whole_126 {p : Program} {l : Launch} {e : Env} {s : State} {m : MethodId} {args : Array Value} {below : List Frame} {meth : Method} {c : Code} {A : Nat → Prop} {D : va_G} {cC cI : ClassId} {a0_0 a0_1 a0_2 a0_3 a0_4 a0_5 a0_6 a0_7 : Nat} (X : xCX p s m args meth c A D cC cI b_Model_whole 7 R_Model (some .int)) {out : O_Model_whole} {k13 : T_Model → Int32 → Int32 → Int32 → Int32 → Int32 → Int32 → Option O_Model_whole} (hk13 : J_Model_whole_13 p l e s m args below meth c A D cC cI a0_0 a0_1 a0_2 a0_3 a0_4 a0_5 a0_6 a0_7 out k13) : J_Model_whole_126 p l e s m args below meth c A D cC cI a0_0 a0_1 a0_2 a0_3 a0_4 a0_5 a0_6 a0_7 out (f_Model_whole_126  k13) := by
  obtain ⟨hx, hb, hml, hown, htB, ⟨hK, hN⟩, hZ, hA, hr, hlocks⟩ := id X
  intro v0 x1 x2 x4 x5 s0 ls H locs h hl hP hD hS
  refine lv_istore_n (lv' := [(3, .int s0), (0, .ref a0_0), (1, .int x1), (2, .int x2), (4, .int x4), (5, .int x5)]) hx hb d_Model_whole_126 rfl hl (by decide) rfl (fun ls hl => ?_)
  refine lv_iload_n hx hb d_Model_whole_127 rfl (lv_at hl 3 rfl) ?_
  refine lv_iconst (v := 1) hx hb d_Model_whole_128 (by decide) ?_
  refine lv_iadd hx hb d_Model_whole_129 ?_
  refine lv_istore_n (lv' := [(2, .int (x2 + (1 : Int32))), (3, .int s0), (0, .ref a0_0), (1, .int x1), (4, .int x4), (5, .int x5)]) hx hb d_Model_whole_130 rfl hl (by decide) rfl (fun ls hl => ?_)
  refine lv_iload hx hb d_Model_whole_131 (lv_at hl 4 rfl) ?_
  refine lv_iconst (v := 1) hx hb d_Model_whole_133 (by decide) ?_
  refine lv_iadd hx hb d_Model_whole_134 ?_
  refine lv_istore (lv' := [(4, .int (x4 + (1 : Int32))), (2, .int (x2 + (1 : Int32))), (3, .int s0), (0, .ref a0_0), (1, .int x1), (5, .int x5)]) hx hb d_Model_whole_135 hl (by decide) rfl (fun ls hl => ?_)
  refine lv_iconst (v := 0) hx hb d_Model_whole_137 (by decide) ?_
  refine lv_istore (lv' := [(6, .int (0 : Int32)), (4, .int (x4 + (1 : Int32))), (2, .int (x2 + (1 : Int32))), (3, .int s0), (0, .ref a0_0), (1, .int x1), (5, .int x5)]) hx hb d_Model_whole_138 hl (by decide) rfl (fun ls hl => ?_)
  exact w_Model_whole_140 X hk13 v0 x1 (x2 + (1 : Int32)) s0 (x4 + (1 : Int32)) x5 (0 : Int32) ls H locs h (lv_sub hl [4, 5, 2, 3, 1, 6, 0] rfl) hP hD hS

def f_Model_whole_79 (k13 : T_Model → Int32 → Int32 → Int32 → Int32 → Int32 → Int32 → Option O_Model_whole) (v0 : T_Model) (x1 : Int32) (x2 : Int32) (x3 : Int32) (x4 : Int32) (x5 : Int32) : Option O_Model_whole := if ix v0.2.2.2.2.2.2.2.2.2.1 120 then (if (v0.1 v0.2.2.2.2.2.2.2.2.2.1.toNatClampNeg) = (44 : Int32) then f_Model_whole_140 k13 v0 x1 x2 x3 (0 : Int32) (1 : Int32) (1 : Int32) else if ix v0.2.2.2.2.2.2.2.2.2.1 120 then (if (v0.1 v0.2.2.2.2.2.2.2.2.2.1.toNatClampNeg) = (48 : Int32) then f_Model_whole_126 k13 v0 x1 x2 x4 x5 (x3 + (1 : Int32)) else f_Model_whole_126 k13 v0 x1 x2 x4 x5 x3) else none) else none
set_option maxHeartbeats 4000000 in
set_option maxRecDepth 100000 in
theorem w_Model_whole_79 {p : Program} {l : Launch} {e : Env} {s : State} {m : MethodId} {args : Array Value} {below : List Frame} {meth : Method} {c : Code} {A : Nat → Prop} {D : va_G} {cC cI : ClassId} {a0_0 a0_1 a0_2 a0_3 a0_4 a0_5 a0_6 a0_7 : Nat} (X : xCX p s m args meth c A D cC cI b_Model_whole 7 R_Model (some .int)) {out : O_Model_whole} {k13 : T_Model → Int32 → Int32 → Int32 → Int32 → Int32 → Int32 → Option O_Model_whole} (hk13 : J_Model_whole_13 p l e s m args below meth c A D cC cI a0_0 a0_1 a0_2 a0_3 a0_4 a0_5 a0_6 a0_7 out k13) : J_Model_whole_79 p l e s m args below meth c A D cC cI a0_0 a0_1 a0_2 a0_3 a0_4 a0_5 a0_6 a0_7 out (f_Model_whole_79  k13) := by
  obtain ⟨hx, hb, hml, hown, htB, ⟨hK, hN⟩, hZ, hA, hr, hlocks⟩ := id X
  intro v0 x1 x2 x3 x4 x5 ls H locs h hl hP hD hS
  refine lv_aload_n hx hb d_Model_whole_79 rfl (lv_at hl 0 rfl) ?_
  refine va_get (D := D) (ci := 11) (v := .ref a0_1) (C := R_Model) (T := F_Model) (N := 23) hx hb htB in_Model hown hK hP 0 rfl rfl 0 (by decide) (htB _ b_310) (fun _ h9 => h9) rfl d_Model_whole_80 ?_
  refine lv_aload_n hx hb d_Model_whole_83 rfl (lv_at hl 0 rfl) ?_
  refine va_get (D := D) (ci := 11) (v := .int v0.2.2.2.2.2.2.2.2.2.1) (C := R_Model) (T := F_Model) (N := 23) hx hb htB in_Model hown hK hP 0 rfl rfl 9 (by decide) (htB _ b_317) (fun _ h9 => h9) rfl d_Model_whole_84 ?_
  obtain ⟨hc, h⟩ := x_chk h
  refine va_cald hx hb hK hP 1 0 rfl rfl hc d_Model_whole_87 ?_
  refine lv_bipush (v := 44) hx hb d_Model_whole_88 (by decide) ?_
  refine lv_icmp_ne (tgt := 105) hx hb d_Model_whole_90 rfl (fun hc => ?_) (fun hc => ?_)
  · have h := (if_neg hc).symm.trans h
    refine lv_aload_n hx hb d_Model_whole_105 rfl (lv_at hl 0 rfl) ?_
    refine va_get (D := D) (ci := 11) (v := .ref a0_1) (C := R_Model) (T := F_Model) (N := 23) hx hb htB in_Model hown hK hP 0 rfl rfl 0 (by decide) (htB _ b_310) (fun _ h9 => h9) rfl d_Model_whole_106 ?_
    refine lv_aload_n hx hb d_Model_whole_109 rfl (lv_at hl 0 rfl) ?_
    refine va_get (D := D) (ci := 11) (v := .int v0.2.2.2.2.2.2.2.2.2.1) (C := R_Model) (T := F_Model) (N := 23) hx hb htB in_Model hown hK hP 0 rfl rfl 9 (by decide) (htB _ b_317) (fun _ h9 => h9) rfl d_Model_whole_110 ?_
    obtain ⟨hc, h⟩ := x_chk h
    refine va_cald hx hb hK hP 1 0 rfl rfl hc d_Model_whole_113 ?_
    refine lv_bipush (v := 48) hx hb d_Model_whole_114 (by decide) ?_
    refine lv_icmp_ne (tgt := 125) hx hb d_Model_whole_116 rfl (fun hc => ?_) (fun hc => ?_)
    · have h := (if_neg hc).symm.trans h
      refine lv_iload_n hx hb d_Model_whole_125 rfl (lv_at hl 3 rfl) ?_
      exact w_Model_whole_126 X hk13 v0 x1 x2 x4 x5 x3 ls H locs h (lv_sub hl [0, 1, 2, 4, 5] rfl) hP hD hS
    have h := (if_pos hc).symm.trans h
    refine lv_iload_n hx hb d_Model_whole_119 rfl (lv_at hl 3 rfl) ?_
    refine lv_iconst (v := 1) hx hb d_Model_whole_120 (by decide) ?_
    refine lv_iadd hx hb d_Model_whole_121 ?_
    refine lv_goto (tgt := 126) hx hb d_Model_whole_122 rfl ?_
    exact w_Model_whole_126 X hk13 v0 x1 x2 x4 x5 (x3 + (1 : Int32)) ls H locs h (lv_sub hl [0, 1, 2, 4, 5] rfl) hP hD hS
  have h := (if_pos hc).symm.trans h
  refine lv_iconst (v := 1) hx hb d_Model_whole_93 (by decide) ?_
  refine lv_istore (lv' := [(5, .int (1 : Int32)), (0, .ref a0_0), (1, .int x1), (2, .int x2), (3, .int x3), (4, .int x4)]) hx hb d_Model_whole_94 hl (by decide) rfl (fun ls hl => ?_)
  refine lv_iconst (v := 1) hx hb d_Model_whole_96 (by decide) ?_
  refine lv_istore (lv' := [(6, .int (1 : Int32)), (5, .int (1 : Int32)), (0, .ref a0_0), (1, .int x1), (2, .int x2), (3, .int x3), (4, .int x4)]) hx hb d_Model_whole_97 hl (by decide) rfl (fun ls hl => ?_)
  refine lv_iconst (v := 0) hx hb d_Model_whole_99 (by decide) ?_
  refine lv_istore (lv' := [(4, .int (0 : Int32)), (6, .int (1 : Int32)), (5, .int (1 : Int32)), (0, .ref a0_0), (1, .int x1), (2, .int x2), (3, .int x3)]) hx hb d_Model_whole_100 hl (by decide) rfl (fun ls hl => ?_)
  refine lv_goto (tgt := 140) hx hb d_Model_whole_102 rfl ?_
  exact w_Model_whole_140 X hk13 v0 x1 x2 x3 (0 : Int32) (1 : Int32) (1 : Int32) ls H locs h (lv_sub hl [3, 4, 5, 6, 0, 2, 1] rfl) hP hD hS

def f_Model_whole_55 (k13 : T_Model → Int32 → Int32 → Int32 → Int32 → Int32 → Int32 → Option O_Model_whole) (v0 : T_Model) (x1 : Int32) (x2 : Int32) (x3 : Int32) (x4 : Int32) (x5 : Int32) (x6 : Int32) : Option O_Model_whole := (f_Model_is v0 v0.2.2.2.2.2.2.2.2.2.1 (44 : Int32)).bind (fun o62 => (if o62 = 0 then f_Model_whole_153 v0 x1 x2 x3 x4 x5 x6 else (if x6 = 0 then (if (12 : Int32) ≤ x2 then f_Model_whole_153 v0 x1 x2 x3 x4 x5 x6 else f_Model_whole_79 k13 v0 x1 x2 x3 x4 x5) else f_Model_whole_153 v0 x1 x2 x3 x4 x5 x6)))
set_option maxHeartbeats 4000000 in
set_option maxRecDepth 100000 in
theorem w_Model_whole_55 {p : Program} {l : Launch} {e : Env} {s : State} {m : MethodId} {args : Array Value} {below : List Frame} {meth : Method} {c : Code} {A : Nat → Prop} {D : va_G} {cC cI : ClassId} {a0_0 a0_1 a0_2 a0_3 a0_4 a0_5 a0_6 a0_7 : Nat} (X : xCX p s m args meth c A D cC cI b_Model_whole 7 R_Model (some .int)) {out : O_Model_whole} {k13 : T_Model → Int32 → Int32 → Int32 → Int32 → Int32 → Int32 → Option O_Model_whole} (hk13 : J_Model_whole_13 p l e s m args below meth c A D cC cI a0_0 a0_1 a0_2 a0_3 a0_4 a0_5 a0_6 a0_7 out k13) : J_Model_whole_55 p l e s m args below meth c A D cC cI a0_0 a0_1 a0_2 a0_3 a0_4 a0_5 a0_6 a0_7 out (f_Model_whole_55  k13) := by
  obtain ⟨hx, hb, hml, hown, htB, ⟨hK, hN⟩, hZ, hA, hr, hlocks⟩ := id X
  intro v0 x1 x2 x3 x4 x5 x6 ls H locs h hl hP hD hS
  refine lv_aload_n hx hb d_Model_whole_55 rfl (lv_at hl 0 rfl) ?_
  refine lv_aload_n hx hb d_Model_whole_56 rfl (lv_at hl 0 rfl) ?_
  refine va_get (D := D) (ci := 11) (v := .int v0.2.2.2.2.2.2.2.2.2.1) (C := R_Model) (T := F_Model) (N := 23) hx hb htB in_Model hown hK hP 0 rfl rfl 9 (by decide) (htB _ b_317) (fun _ h9 => h9) rfl d_Model_whole_57 ?_
  refine lv_bipush (v := 44) hx hb d_Model_whole_60 (by decide) ?_
  obtain ⟨o62, ho62, h⟩ := x_bnd h
  refine x_calli (r0 := o62) (ws2 := (wd_Model_whole cC cI a0_0 a0_1 a0_2 a0_3 a0_4 a0_5 a0_6 a0_7 v0)) (x_runV (As := [.int v0.2.2.2.2.2.2.2.2.2.1, .int (44 : Int32)]) (rest := []) X (c_Model_is l D cC cI H.size a0_0 a0_1 a0_2 a0_3 a0_4 a0_5 a0_6 a0_7 v0 v0.2.2.2.2.2.2.2.2.2.1 (44 : Int32) o62 ho62) b_318 2 (htB _ b_322) (htB _ b_320) (htB _ b_321) (htB _ b_319) ⟨by decide, by decide, by decide +kernel⟩ ⟨(Nat.le_of_ble_eq_true rfl), (Nat.le_of_ble_eq_true rfl)⟩ 0 rfl rfl hP hD hS [0, 1, 2, 3, 4, 5, 6, 7] rfl (by decide) rfl rfl hl.1 rfl rfl (Nat.le_of_ble_eq_true rfl) d_Model_whole_62) hP hD hS hA [0, 1, 2, 3, 4, 5, 6, 7] [] [0, 1, 2, 3, 4, 5, 6, 7] rfl rfl (by decide) (by decide) rfl (by decide) (fun H locs hP hD hS => ?_)
  refine lv_if_eq (tgt := 153) hx hb d_Model_whole_65 rfl (fun hc => ?_) (fun hc => ?_)
  · have h := (if_pos hc).symm.trans h
    exact w_Model_whole_153 X v0 x1 x2 x3 x4 x5 x6 ls H locs h (lv_sub hl [0, 1, 2, 3, 4, 5, 6] rfl) hP hD hS
  have h := (if_neg hc).symm.trans h
  refine lv_iload hx hb d_Model_whole_68 (lv_at hl 6 rfl) ?_
  refine lv_if_ne (tgt := 153) hx hb d_Model_whole_70 rfl (fun hc => ?_) (fun hc => ?_)
  · have h := (if_neg hc).symm.trans h
    exact w_Model_whole_153 X v0 x1 x2 x3 x4 x5 x6 ls H locs h (lv_sub hl [0, 1, 2, 3, 4, 5, 6] rfl) hP hD hS
  have h := (if_pos hc).symm.trans h
  refine lv_iload_n hx hb d_Model_whole_73 rfl (lv_at hl 2 rfl) ?_
  refine lv_bipush (v := 12) hx hb d_Model_whole_74 (by decide) ?_
  refine lv_icmp_ge (tgt := 153) hx hb d_Model_whole_76 rfl (fun hc => ?_) (fun hc => ?_)
  · have h := (if_pos hc).symm.trans h
    exact w_Model_whole_153 X v0 x1 x2 x3 x4 x5 x6 ls H locs h (lv_sub hl [0, 1, 2, 3, 4, 5, 6] rfl) hP hD hS
  have h := (if_neg hc).symm.trans h
  exact w_Model_whole_79 X hk13 v0 x1 x2 x3 x4 x5 ls H locs h (lv_sub hl [0, 1, 2, 3, 4, 5] rfl) hP hD hS

def f_Model_whole_36 (k13 : T_Model → Int32 → Int32 → Int32 → Int32 → Int32 → Int32 → Option O_Model_whole) (v0 : T_Model) (x1 : Int32) (x2 : Int32) (x3 : Int32) (x4 : Int32) (x5 : Int32) (x6 : Int32) : Option O_Model_whole := (f_Model_is v0 v0.2.2.2.2.2.2.2.2.2.1 (48 : Int32)).bind (fun o43 => (if o43 = 0 then f_Model_whole_55 k13 v0 x1 x2 x3 x4 x5 x6 else (if x2 < (12 : Int32) then f_Model_whole_79 k13 v0 x1 x2 x3 x4 x5 else f_Model_whole_55 k13 v0 x1 x2 x3 x4 x5 x6)))
set_option maxHeartbeats 4000000 in
set_option maxRecDepth 100000 in
theorem w_Model_whole_36 {p : Program} {l : Launch} {e : Env} {s : State} {m : MethodId} {args : Array Value} {below : List Frame} {meth : Method} {c : Code} {A : Nat → Prop} {D : va_G} {cC cI : ClassId} {a0_0 a0_1 a0_2 a0_3 a0_4 a0_5 a0_6 a0_7 : Nat} (X : xCX p s m args meth c A D cC cI b_Model_whole 7 R_Model (some .int)) {out : O_Model_whole} {k13 : T_Model → Int32 → Int32 → Int32 → Int32 → Int32 → Int32 → Option O_Model_whole} (hk13 : J_Model_whole_13 p l e s m args below meth c A D cC cI a0_0 a0_1 a0_2 a0_3 a0_4 a0_5 a0_6 a0_7 out k13) : J_Model_whole_36 p l e s m args below meth c A D cC cI a0_0 a0_1 a0_2 a0_3 a0_4 a0_5 a0_6 a0_7 out (f_Model_whole_36  k13) := by
  obtain ⟨hx, hb, hml, hown, htB, ⟨hK, hN⟩, hZ, hA, hr, hlocks⟩ := id X
  intro v0 x1 x2 x3 x4 x5 x6 ls H locs h hl hP hD hS
  refine lv_aload_n hx hb d_Model_whole_36 rfl (lv_at hl 0 rfl) ?_
  refine lv_aload_n hx hb d_Model_whole_37 rfl (lv_at hl 0 rfl) ?_
  refine va_get (D := D) (ci := 11) (v := .int v0.2.2.2.2.2.2.2.2.2.1) (C := R_Model) (T := F_Model) (N := 23) hx hb htB in_Model hown hK hP 0 rfl rfl 9 (by decide) (htB _ b_317) (fun _ h9 => h9) rfl d_Model_whole_38 ?_
  refine lv_bipush (v := 48) hx hb d_Model_whole_41 (by decide) ?_
  obtain ⟨o43, ho43, h⟩ := x_bnd h
  refine x_calli (r0 := o43) (ws2 := (wd_Model_whole cC cI a0_0 a0_1 a0_2 a0_3 a0_4 a0_5 a0_6 a0_7 v0)) (x_runV (As := [.int v0.2.2.2.2.2.2.2.2.2.1, .int (48 : Int32)]) (rest := []) X (c_Model_is l D cC cI H.size a0_0 a0_1 a0_2 a0_3 a0_4 a0_5 a0_6 a0_7 v0 v0.2.2.2.2.2.2.2.2.2.1 (48 : Int32) o43 ho43) b_318 2 (htB _ b_322) (htB _ b_320) (htB _ b_321) (htB _ b_319) ⟨by decide, by decide, by decide +kernel⟩ ⟨(Nat.le_of_ble_eq_true rfl), (Nat.le_of_ble_eq_true rfl)⟩ 0 rfl rfl hP hD hS [0, 1, 2, 3, 4, 5, 6, 7] rfl (by decide) rfl rfl hl.1 rfl rfl (Nat.le_of_ble_eq_true rfl) d_Model_whole_43) hP hD hS hA [0, 1, 2, 3, 4, 5, 6, 7] [] [0, 1, 2, 3, 4, 5, 6, 7] rfl rfl (by decide) (by decide) rfl (by decide) (fun H locs hP hD hS => ?_)
  refine lv_if_eq (tgt := 55) hx hb d_Model_whole_46 rfl (fun hc => ?_) (fun hc => ?_)
  · have h := (if_pos hc).symm.trans h
    exact w_Model_whole_55 X hk13 v0 x1 x2 x3 x4 x5 x6 ls H locs h (lv_sub hl [0, 1, 2, 3, 4, 5, 6] rfl) hP hD hS
  have h := (if_neg hc).symm.trans h
  refine lv_iload_n hx hb d_Model_whole_49 rfl (lv_at hl 2 rfl) ?_
  refine lv_bipush (v := 12) hx hb d_Model_whole_50 (by decide) ?_
  refine lv_icmp_lt (tgt := 79) hx hb d_Model_whole_52 rfl (fun hc => ?_) (fun hc => ?_)
  · have h := (if_pos hc).symm.trans h
    exact w_Model_whole_79 X hk13 v0 x1 x2 x3 x4 x5 ls H locs h (lv_sub hl [0, 1, 2, 3, 4, 5] rfl) hP hD hS
  have h := (if_neg hc).symm.trans h
  exact w_Model_whole_55 X hk13 v0 x1 x2 x3 x4 x5 x6 ls H locs h (lv_sub hl [0, 1, 2, 3, 4, 5, 6] rfl) hP hD hS

def f_Model_whole_13   : Nat → T_Model → Int32 → Int32 → Int32 → Int32 → Int32 → Int32 → Option O_Model_whole
  | 0, _, _, _, _, _, _, _ => none
  | n + 1, v0, x1, x2, x3, x4, x5, x6 => (f_Model_is v0 v0.2.2.2.2.2.2.2.2.2.1 (35 : Int32)).bind (fun o20 => (if o20 = 0 then f_Model_whole_36 (f_Model_whole_13  n) v0 x1 x2 x3 x4 x5 x6 else (if x3 = 0 then (if x2 < (12 : Int32) then f_Model_whole_79 (f_Model_whole_13  n) v0 x1 x2 x3 x4 x5 else f_Model_whole_36 (f_Model_whole_13  n) v0 x1 x2 x3 x4 x5 x6) else f_Model_whole_36 (f_Model_whole_13  n) v0 x1 x2 x3 x4 x5 x6)))
set_option maxHeartbeats 4000000 in
set_option maxRecDepth 100000 in
theorem w_Model_whole_13 {p : Program} {l : Launch} {e : Env} {s : State} {m : MethodId} {args : Array Value} {below : List Frame} {meth : Method} {c : Code} {A : Nat → Prop} {D : va_G} {cC cI : ClassId} {a0_0 a0_1 a0_2 a0_3 a0_4 a0_5 a0_6 a0_7 : Nat} (X : xCX p s m args meth c A D cC cI b_Model_whole 7 R_Model (some .int)) {out : O_Model_whole}   : ∀ n : Nat, J_Model_whole_13 p l e s m args below meth c A D cC cI a0_0 a0_1 a0_2 a0_3 a0_4 a0_5 a0_6 a0_7 out (f_Model_whole_13   n) := by
  obtain ⟨hx, hb, hml, hown, htB, ⟨hK, hN⟩, hZ, hA, hr, hlocks⟩ := id X
  intro n
  induction n with
  | zero =>
    intro v0 x1 x2 x3 x4 x5 x6 ls H locs h hl hP hD hS
    cases h
  | succ n ih =>
    intro v0 x1 x2 x3 x4 x5 x6 ls H locs h hl hP hD hS
    refine lv_aload_n hx hb d_Model_whole_13 rfl (lv_at hl 0 rfl) ?_
    refine lv_aload_n hx hb d_Model_whole_14 rfl (lv_at hl 0 rfl) ?_
    refine va_get (D := D) (ci := 11) (v := .int v0.2.2.2.2.2.2.2.2.2.1) (C := R_Model) (T := F_Model) (N := 23) hx hb htB in_Model hown hK hP 0 rfl rfl 9 (by decide) (htB _ b_317) (fun _ h9 => h9) rfl d_Model_whole_15 ?_
    refine lv_bipush (v := 35) hx hb d_Model_whole_18 (by decide) ?_
    obtain ⟨o20, ho20, h⟩ := x_bnd h
    refine x_calli (r0 := o20) (ws2 := (wd_Model_whole cC cI a0_0 a0_1 a0_2 a0_3 a0_4 a0_5 a0_6 a0_7 v0)) (x_runV (As := [.int v0.2.2.2.2.2.2.2.2.2.1, .int (35 : Int32)]) (rest := []) X (c_Model_is l D cC cI H.size a0_0 a0_1 a0_2 a0_3 a0_4 a0_5 a0_6 a0_7 v0 v0.2.2.2.2.2.2.2.2.2.1 (35 : Int32) o20 ho20) b_318 2 (htB _ b_322) (htB _ b_320) (htB _ b_321) (htB _ b_319) ⟨by decide, by decide, by decide +kernel⟩ ⟨(Nat.le_of_ble_eq_true rfl), (Nat.le_of_ble_eq_true rfl)⟩ 0 rfl rfl hP hD hS [0, 1, 2, 3, 4, 5, 6, 7] rfl (by decide) rfl rfl hl.1 rfl rfl (Nat.le_of_ble_eq_true rfl) d_Model_whole_20) hP hD hS hA [0, 1, 2, 3, 4, 5, 6, 7] [] [0, 1, 2, 3, 4, 5, 6, 7] rfl rfl (by decide) (by decide) rfl (by decide) (fun H locs hP hD hS => ?_)
    refine lv_if_eq (tgt := 36) hx hb d_Model_whole_23 rfl (fun hc => ?_) (fun hc => ?_)
    · have h := (if_pos hc).symm.trans h
      exact w_Model_whole_36 X ih v0 x1 x2 x3 x4 x5 x6 ls H locs h (lv_sub hl [0, 1, 2, 3, 4, 5, 6] rfl) hP hD hS
    have h := (if_neg hc).symm.trans h
    refine lv_iload_n hx hb d_Model_whole_26 rfl (lv_at hl 3 rfl) ?_
    refine lv_if_ne (tgt := 36) hx hb d_Model_whole_27 rfl (fun hc => ?_) (fun hc => ?_)
    · have h := (if_neg hc).symm.trans h
      exact w_Model_whole_36 X ih v0 x1 x2 x3 x4 x5 x6 ls H locs h (lv_sub hl [0, 1, 2, 3, 4, 5, 6] rfl) hP hD hS
    have h := (if_pos hc).symm.trans h
    refine lv_iload_n hx hb d_Model_whole_30 rfl (lv_at hl 2 rfl) ?_
    refine lv_bipush (v := 12) hx hb d_Model_whole_31 (by decide) ?_
    refine lv_icmp_lt (tgt := 79) hx hb d_Model_whole_33 rfl (fun hc => ?_) (fun hc => ?_)
    · have h := (if_pos hc).symm.trans h
      exact w_Model_whole_79 X ih v0 x1 x2 x3 x4 x5 ls H locs h (lv_sub hl [0, 1, 2, 3, 4, 5] rfl) hP hD hS
    have h := (if_neg hc).symm.trans h
    exact w_Model_whole_36 X ih v0 x1 x2 x3 x4 x5 x6 ls H locs h (lv_sub hl [0, 1, 2, 3, 4, 5, 6] rfl) hP hD hS

def f_Model_whole (v0 : T_Model) (v1 : Int32) : Option O_Model_whole := f_Model_whole_13 FU v0 v1 (0 : Int32) (0 : Int32) (0 : Int32) (0 : Int32) (1 : Int32)
set_option maxHeartbeats 4000000 in
set_option maxRecDepth 100000 in
theorem w_Model_whole {p : Program} {l : Launch} {e : Env} {s : State} {m : MethodId} {args : Array Value} {below : List Frame} {meth : Method} {c : Code} {A : Nat → Prop} {D : va_G} {cC cI : ClassId} {a0_0 a0_1 a0_2 a0_3 a0_4 a0_5 a0_6 a0_7 : Nat} (X : xCX p s m args meth c A D cC cI b_Model_whole 7 R_Model (some .int)) {out : O_Model_whole} (v0 : T_Model) (v1 : Int32) {ls : Array Slot} {H : Heap} {locs : List Loc} (h : f_Model_whole v0 v1 = some out) (hl : lv_has ls 7 [(0, .ref a0_0), (1, .int v1)]) (hP : va_P D classes (wd_Model_whole cC cI a0_0 a0_1 a0_2 a0_3 a0_4 a0_5 a0_6 a0_7 v0) H) (hD : va_D A (wd_Model_whole cC cI a0_0 a0_1 a0_2 a0_3 a0_4 a0_5 a0_6 a0_7 v0)) (hS : va_S A s.heap H locs) : W p l e rm_Model_whole s m args below meth c H locs 0 0 (MQ below (q_Model_whole D cC cI a0_0 a0_1 a0_2 a0_3 a0_4 a0_5 a0_6 a0_7 out A) args s 0 0 A) (F0 m 0 ls []) := by
  obtain ⟨hx, hb, hml, hown, htB, ⟨hK, hN⟩, hZ, hA, hr, hlocks⟩ := id X
  refine lv_iconst (v := 0) hx hb d_Model_whole_0 (by decide) ?_
  refine lv_istore_n (lv' := [(2, .int (0 : Int32)), (0, .ref a0_0), (1, .int v1)]) hx hb d_Model_whole_1 rfl hl (by decide) rfl (fun ls hl => ?_)
  refine lv_iconst (v := 0) hx hb d_Model_whole_2 (by decide) ?_
  refine lv_istore_n (lv' := [(3, .int (0 : Int32)), (2, .int (0 : Int32)), (0, .ref a0_0), (1, .int v1)]) hx hb d_Model_whole_3 rfl hl (by decide) rfl (fun ls hl => ?_)
  refine lv_iconst (v := 0) hx hb d_Model_whole_4 (by decide) ?_
  refine lv_istore (lv' := [(4, .int (0 : Int32)), (3, .int (0 : Int32)), (2, .int (0 : Int32)), (0, .ref a0_0), (1, .int v1)]) hx hb d_Model_whole_5 hl (by decide) rfl (fun ls hl => ?_)
  refine lv_iconst (v := 0) hx hb d_Model_whole_7 (by decide) ?_
  refine lv_istore (lv' := [(5, .int (0 : Int32)), (4, .int (0 : Int32)), (3, .int (0 : Int32)), (2, .int (0 : Int32)), (0, .ref a0_0), (1, .int v1)]) hx hb d_Model_whole_8 hl (by decide) rfl (fun ls hl => ?_)
  refine lv_iconst (v := 1) hx hb d_Model_whole_10 (by decide) ?_
  refine lv_istore (lv' := [(6, .int (1 : Int32)), (5, .int (0 : Int32)), (4, .int (0 : Int32)), (3, .int (0 : Int32)), (2, .int (0 : Int32)), (0, .ref a0_0), (1, .int v1)]) hx hb d_Model_whole_11 hl (by decide) rfl (fun ls hl => ?_)
  exact w_Model_whole_13 X FU v0 v1 (0 : Int32) (0 : Int32) (0 : Int32) (0 : Int32) (1 : Int32) ls H locs h (lv_sub hl [5, 6, 4, 3, 2, 1, 0] rfl) hP hD hS

set_option maxHeartbeats 4000000 in
set_option maxRecDepth 100000 in
theorem c_Model_whole (l : Launch) (D : va_G) (cC cI : ClassId) (sz : Nat) (a0_0 a0_1 a0_2 a0_3 a0_4 a0_5 a0_6 a0_7 : Nat) (v0 : T_Model) (v1 : Int32) (out : O_Model_whole) (h : f_Model_whole v0 v1 = some out) : Met l y_Model_whole (.code y_Model_whole b_Model_whole 7 (some .int) :: BIG) rm_Model_whole (va_Pc [.ref a0_0, .int v1] (xPre D cC cI (wd_Model_whole cC cI a0_0 a0_1 a0_2 a0_3 a0_4 a0_5 a0_6 a0_7 v0) sz)) (q_Model_whole D cC cI a0_0 a0_1 a0_2 a0_3 a0_4 a0_5 a0_6 a0_7 out (va_A (wd_Model_whole cC cI a0_0 a0_1 a0_2 a0_3 a0_4 a0_5 a0_6 a0_7 v0) sz)) 0 0 (va_A (wd_Model_whole cC cI a0_0 a0_1 a0_2 a0_3 a0_4 a0_5 a0_6 a0_7 v0) sz) := by
  refine Met.ofW (cc := b_Model_whole) (maxL := 7) (ret := (some .int)) (by decide) rfl ?_
  intro p e s m args below meth c s₁ B hml hv
  obtain ⟨rfl, rfl, hP, hD0, hG, hZ⟩ := hv
  have hl := lv_entry [.ref a0_0, .int v1] (n := 7) (Nat.le_of_ble_eq_true rfl)
  rw [lg_entry_eq]
  exact w_Model_whole (x_cx B hml hG hZ) v0 v1 h hl hP hD0.self va_S.rf

