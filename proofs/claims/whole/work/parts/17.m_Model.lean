abbrev wd_Model_printNumber (cC cI : ClassId) (a0_0 a0_1 a0_2 a0_3 a0_4 a0_5 a0_6 a0_7 : Nat) (v0 : T_Model) : va_W := [(a0_0, .inr (11, [.ref a0_1, .int v0.2.1, .ref a0_2, .int v0.2.2.2.1, .int v0.2.2.2.2.1, .int v0.2.2.2.2.2.1, .ref a0_3, .ref a0_4, .ref a0_5, .int v0.2.2.2.2.2.2.2.2.2.1, .int v0.2.2.2.2.2.2.2.2.2.2.1, .int v0.2.2.2.2.2.2.2.2.2.2.2.1, .int v0.2.2.2.2.2.2.2.2.2.2.2.2.1, .ref a0_6, .int v0.2.2.2.2.2.2.2.2.2.2.2.2.2.2.1, .int v0.2.2.2.2.2.2.2.2.2.2.2.2.2.2.2.1, .int v0.2.2.2.2.2.2.2.2.2.2.2.2.2.2.2.2.1, .ref a0_7, .long v0.2.2.2.2.2.2.2.2.2.2.2.2.2.2.2.2.2.2.1, .int v0.2.2.2.2.2.2.2.2.2.2.2.2.2.2.2.2.2.2.2.1, .long v0.2.2.2.2.2.2.2.2.2.2.2.2.2.2.2.2.2.2.2.2.1, .int v0.2.2.2.2.2.2.2.2.2.2.2.2.2.2.2.2.2.2.2.2.2.1, .int v0.2.2.2.2.2.2.2.2.2.2.2.2.2.2.2.2.2.2.2.2.2.2])), (a0_1, .inl (cC, 120, .inl v0.1)), (a0_2, .inl (cC, 200, .inl v0.2.2.1)), (a0_3, .inl (cI, 160, .inl v0.2.2.2.2.2.2.1)), (a0_4, .inl (cI, 4, .inl v0.2.2.2.2.2.2.2.1)), (a0_5, .inl (cI, 7, .inl v0.2.2.2.2.2.2.2.2.1)), (a0_6, .inl (cI, 40, .inl v0.2.2.2.2.2.2.2.2.2.2.2.2.2.1)), (a0_7, .inl (cI, 6, .inl v0.2.2.2.2.2.2.2.2.2.2.2.2.2.2.2.2.2.1))]
abbrev O_Model_printNumber : Type := T_Model
abbrev q_Model_printNumber (D : va_G) (cC cI : ClassId) (a0_0 a0_1 a0_2 a0_3 a0_4 a0_5 a0_6 a0_7 : Nat)  (out : O_Model_printNumber) (A : Nat → Prop) : Array Value → State → Outcome → State → Prop := va_Qv (fun _ : Unit => True) (fun _ t => va_P D classes (wd_Model_printNumber cC cI a0_0 a0_1 a0_2 a0_3 a0_4 a0_5 a0_6 a0_7 out) t.heap ∧ va_D A (wd_Model_printNumber cC cI a0_0 a0_1 a0_2 a0_3 a0_4 a0_5 a0_6 a0_7 out)) A
abbrev rm_Model_printNumber : Room := { frames := 2, cells := 0, slots := 0, locals := 44 }
def J_Model_printNumber_42 (p : Program) (l : Launch) (e : Env) (s : State) (m : MethodId) (args : Array Value) (below : List Frame) (meth : Method) (c : Code) (A : Nat → Prop) (D : va_G) (cC cI : ClassId) (a0_0 a0_1 a0_2 a0_3 a0_4 a0_5 a0_6 a0_7 : Nat) (out : O_Model_printNumber) (k : T_Model → Int32 → Int32 → Int32 → Option O_Model_printNumber) : Prop := ∀ (v0 : T_Model) (x1 : Int32) (x2 : Int32) (s0 : Int32) (ls : Array Slot) (H : Heap) (locs : List Loc), k v0 x1 x2 s0 = some out → lv_has ls 5 [(0, .ref a0_0), (1, .int x1), (2, .int x2)] → va_P D classes (wd_Model_printNumber cC cI a0_0 a0_1 a0_2 a0_3 a0_4 a0_5 a0_6 a0_7 v0) H → va_D A (wd_Model_printNumber cC cI a0_0 a0_1 a0_2 a0_3 a0_4 a0_5 a0_6 a0_7 v0) → va_S A s.heap H locs → W p l e rm_Model_printNumber s m args below meth c H locs 0 0 (MQ below (q_Model_printNumber D cC cI a0_0 a0_1 a0_2 a0_3 a0_4 a0_5 a0_6 a0_7 out A) args s 0 0 A) (F0 m 42 ls [.int s0])
def J_Model_printNumber_46 (p : Program) (l : Launch) (e : Env) (s : State) (m : MethodId) (args : Array Value) (below : List Frame) (meth : Method) (c : Code) (A : Nat → Prop) (D : va_G) (cC cI : ClassId) (a0_0 a0_1 a0_2 a0_3 a0_4 a0_5 a0_6 a0_7 : Nat) (out : O_Model_printNumber) (k : T_Model → Int32 → Int32 → Int32 → Option O_Model_printNumber) : Prop := ∀ (v0 : T_Model) (x1 : Int32) (x2 : Int32) (x4 : Int32) (ls : Array Slot) (H : Heap) (locs : List Loc), k v0 x1 x2 x4 = some out → lv_has ls 5 [(0, .ref a0_0), (1, .int x1), (2, .int x2), (4, .int x4)] → va_P D classes (wd_Model_printNumber cC cI a0_0 a0_1 a0_2 a0_3 a0_4 a0_5 a0_6 a0_7 v0) H → va_D A (wd_Model_printNumber cC cI a0_0 a0_1 a0_2 a0_3 a0_4 a0_5 a0_6 a0_7 v0) → va_S A s.heap H locs → W p l e rm_Model_printNumber s m args below meth c H locs 0 0 (MQ below (q_Model_printNumber D cC cI a0_0 a0_1 a0_2 a0_3 a0_4 a0_5 a0_6 a0_7 out A) args s 0 0 A) (F0 m 46 ls [])
def J_Model_printNumber_136 (p : Program) (l : Launch) (e : Env) (s : State) (m : MethodId) (args : Array Value) (below : List Frame) (meth : Method) (c : Code) (A : Nat → Prop) (D : va_G) (cC cI : ClassId) (a0_0 a0_1 a0_2 a0_3 a0_4 a0_5 a0_6 a0_7 : Nat) (out : O_Model_printNumber) (k : T_Model → Option O_Model_printNumber) : Prop := ∀ (v0 : T_Model) (ls : Array Slot) (H : Heap) (locs : List Loc), k v0 = some out → lv_has ls 5 [(0, .ref a0_0)] → va_P D classes (wd_Model_printNumber cC cI a0_0 a0_1 a0_2 a0_3 a0_4 a0_5 a0_6 a0_7 v0) H → va_D A (wd_Model_printNumber cC cI a0_0 a0_1 a0_2 a0_3 a0_4 a0_5 a0_6 a0_7 v0) → va_S A s.heap H locs → W p l e rm_Model_printNumber s m args below meth c H locs 0 0 (MQ below (q_Model_printNumber D cC cI a0_0 a0_1 a0_2 a0_3 a0_4 a0_5 a0_6 a0_7 out A) args s 0 0 A) (F0 m 136 ls [])
def J_Model_printNumber_163 (p : Program) (l : Launch) (e : Env) (s : State) (m : MethodId) (args : Array Value) (below : List Frame) (meth : Method) (c : Code) (A : Nat → Prop) (D : va_G) (cC cI : ClassId) (a0_0 a0_1 a0_2 a0_3 a0_4 a0_5 a0_6 a0_7 : Nat) (out : O_Model_printNumber) (k : T_Model → Option O_Model_printNumber) : Prop := ∀ (v0 : T_Model) (ls : Array Slot) (H : Heap) (locs : List Loc), k v0 = some out → lv_has ls 5 [] → va_P D classes (wd_Model_printNumber cC cI a0_0 a0_1 a0_2 a0_3 a0_4 a0_5 a0_6 a0_7 v0) H → va_D A (wd_Model_printNumber cC cI a0_0 a0_1 a0_2 a0_3 a0_4 a0_5 a0_6 a0_7 v0) → va_S A s.heap H locs → W p l e rm_Model_printNumber s m args below meth c H locs 0 0 (MQ below (q_Model_printNumber D cC cI a0_0 a0_1 a0_2 a0_3 a0_4 a0_5 a0_6 a0_7 out A) args s 0 0 A) (F0 m 163 ls [])
def f_Model_printNumber_163 (v0 : T_Model) : Option O_Model_printNumber := some v0
set_option maxHeartbeats 4000000 in
set_option maxRecDepth 100000 in
theorem w_Model_printNumber_163 {p : Program} {l : Launch} {e : Env} {s : State} {m : MethodId} {args : Array Value} {below : List Frame} {meth : Method} {c : Code} {A : Nat → Prop} {D : va_G} {cC cI : ClassId} {a0_0 a0_1 a0_2 a0_3 a0_4 a0_5 a0_6 a0_7 : Nat} (X : xCX p s m args meth c A D cC cI b_Model_printNumber 5 R_Model none) {out : O_Model_printNumber}   : J_Model_printNumber_163 p l e s m args below meth c A D cC cI a0_0 a0_1 a0_2 a0_3 a0_4 a0_5 a0_6 a0_7 out (f_Model_printNumber_163  ) := by
  obtain ⟨hx, hb, hml, hown, htB, ⟨hK, hN⟩, hZ, hA, hr, hlocks⟩ := id X
  intro v0 ls H locs h hl hP hD hS
  obtain rfl := Option.some.inj h
  exact W.vret hx hb hr (fun t ht hW => ⟨⟨(), rfl, trivial, by rw [ht]; exact hP, hD⟩, hS.F ht⟩) hS.2.2 d_Model_printNumber_163 hlocks

def f_Model_printNumber_136 (v0 : T_Model) : Option O_Model_printNumber := (if (v0.2.2.2.2.2.2.2.2.1 (4 : Int32).toNatClampNeg) ≤ 0 then f_Model_printNumber_163 v0 else (f_Model_write v0 (69 : Int32)).bind (fun o148 => (f_Model_many o148 (o148.2.2.2.2.2.2.2.2.1 (4 : Int32).toNatClampNeg) (48 : Int32)).bind (fun o160 => f_Model_printNumber_163 o160)))
set_option maxHeartbeats 4000000 in
set_option maxRecDepth 100000 in
theorem w_Model_printNumber_136 {p : Program} {l : Launch} {e : Env} {s : State} {m : MethodId} {args : Array Value} {below : List Frame} {meth : Method} {c : Code} {A : Nat → Prop} {D : va_G} {cC cI : ClassId} {a0_0 a0_1 a0_2 a0_3 a0_4 a0_5 a0_6 a0_7 : Nat} (X : xCX p s m args meth c A D cC cI b_Model_printNumber 5 R_Model none) {out : O_Model_printNumber}   : J_Model_printNumber_136 p l e s m args below meth c A D cC cI a0_0 a0_1 a0_2 a0_3 a0_4 a0_5 a0_6 a0_7 out (f_Model_printNumber_136  ) := by
  obtain ⟨hx, hb, hml, hown, htB, ⟨hK, hN⟩, hZ, hA, hr, hlocks⟩ := id X
  intro v0 ls H locs h hl hP hD hS
  refine lv_aload_n hx hb d_Model_printNumber_136 rfl (lv_at hl 0 rfl) ?_
  refine va_get (D := D) (ci := 11) (v := .ref a0_5) (C := R_Model) (T := F_Model) (N := 23) hx hb htB in_Model hown hK hP 0 rfl rfl 8 (by decide) (htB _ b_330) (fun _ h9 => h9) rfl d_Model_printNumber_137 ?_
  refine lv_iconst (v := 4) hx hb d_Model_printNumber_140 (by decide) ?_
  refine va_iald hx hb hK hP 5 1 rfl rfl (show ¬ (((4 : Int32) : Int32) < 0 ∨ 7 ≤ ((4 : Int32) : Int32).toNatClampNeg) by decide) d_Model_printNumber_141 ?_
  refine lv_if_le (tgt := 163) hx hb d_Model_printNumber_142 rfl (fun hc => ?_) (fun hc => ?_)
  · have h := (if_pos hc).symm.trans h
    exact w_Model_printNumber_163 X v0 ls H locs h (lv_sub hl [] rfl) hP hD hS
  have h := (if_neg hc).symm.trans h
  refine lv_aload_n hx hb d_Model_printNumber_145 rfl (lv_at hl 0 rfl) ?_
  refine lv_bipush (v := 69) hx hb d_Model_printNumber_146 (by decide) ?_
  obtain ⟨o148, ho148, h⟩ := x_bnd h
  refine x_callv (ws2 := (wd_Model_printNumber cC cI a0_0 a0_1 a0_2 a0_3 a0_4 a0_5 a0_6 a0_7 o148)) (x_runV (As := [.int (69 : Int32)]) (rest := []) X (c_Model_write l D cC cI H.size a0_0 a0_1 a0_2 a0_3 a0_4 a0_5 a0_6 a0_7 v0 (69 : Int32) o148 ho148) b_378 1 (htB _ b_381) (htB _ b_379) (htB _ b_380) (htB _ b_319) ⟨by decide, by decide, by decide +kernel⟩ ⟨(Nat.le_of_ble_eq_true rfl), (Nat.le_of_ble_eq_true rfl)⟩ 0 rfl rfl hP hD hS [0, 1, 2, 3, 4, 5, 6, 7] rfl (by decide) rfl rfl hl.1 rfl rfl (Nat.le_of_ble_eq_true rfl) d_Model_printNumber_148) hP hD hS hA [0, 1, 2, 3, 4, 5, 6, 7] [] [0, 1, 2, 3, 4, 5, 6, 7] rfl rfl (by decide) (by decide) rfl (by decide) (fun H locs hP hD hS => ?_)
  refine lv_aload_n hx hb d_Model_printNumber_151 rfl (lv_at hl 0 rfl) ?_
  refine lv_aload_n hx hb d_Model_printNumber_152 rfl (lv_at hl 0 rfl) ?_
  refine va_get (D := D) (ci := 11) (v := .ref a0_5) (C := R_Model) (T := F_Model) (N := 23) hx hb htB in_Model hown hK hP 0 rfl rfl 8 (by decide) (htB _ b_330) (fun _ h9 => h9) rfl d_Model_printNumber_153 ?_
  refine lv_iconst (v := 4) hx hb d_Model_printNumber_156 (by decide) ?_
  refine va_iald hx hb hK hP 5 1 rfl rfl (show ¬ (((4 : Int32) : Int32) < 0 ∨ 7 ≤ ((4 : Int32) : Int32).toNatClampNeg) by decide) d_Model_printNumber_157 ?_
  refine lv_bipush (v := 48) hx hb d_Model_printNumber_158 (by decide) ?_
  obtain ⟨o160, ho160, h⟩ := x_bnd h
  refine x_callv (ws2 := (wd_Model_printNumber cC cI a0_0 a0_1 a0_2 a0_3 a0_4 a0_5 a0_6 a0_7 o160)) (x_runV (As := [.int (o148.2.2.2.2.2.2.2.2.1 (4 : Int32).toNatClampNeg), .int (48 : Int32)]) (rest := []) X (c_Model_many l D cC cI H.size a0_0 a0_1 a0_2 a0_3 a0_4 a0_5 a0_6 a0_7 o148 (o148.2.2.2.2.2.2.2.2.1 (4 : Int32).toNatClampNeg) (48 : Int32) o160 ho160) b_431 2 (htB _ b_434) (htB _ b_432) (htB _ b_433) (htB _ b_319) ⟨by decide, by decide, by decide +kernel⟩ ⟨(Nat.le_of_ble_eq_true rfl), (Nat.le_of_ble_eq_true rfl)⟩ 0 rfl rfl hP hD hS [0, 1, 2, 3, 4, 5, 6, 7] rfl (by decide) rfl rfl hl.1 rfl rfl (Nat.le_of_ble_eq_true rfl) d_Model_printNumber_160) hP hD hS hA [0, 1, 2, 3, 4, 5, 6, 7] [] [0, 1, 2, 3, 4, 5, 6, 7] rfl rfl (by decide) (by decide) rfl (by decide) (fun H locs hP hD hS => ?_)
  exact w_Model_printNumber_163 X o160 ls H locs h (lv_sub hl [] rfl) hP hD hS

def J_Model_printNumber_67 (p : Program) (l : Launch) (e : Env) (s : State) (m : MethodId) (args : Array Value) (below : List Frame) (meth : Method) (c : Code) (A : Nat → Prop) (D : va_G) (cC cI : ClassId) (a0_0 a0_1 a0_2 a0_3 a0_4 a0_5 a0_6 a0_7 : Nat) (out : O_Model_printNumber) (k : T_Model → Int32 → Int32 → Int32 → Option O_Model_printNumber) : Prop := ∀ (v0 : T_Model) (x1 : Int32) (x2 : Int32) (x4 : Int32) (ls : Array Slot) (H : Heap) (locs : List Loc), k v0 x1 x2 x4 = some out → lv_has ls 5 [(0, .ref a0_0), (1, .int x1), (2, .int x2), (4, .int x4)] → va_P D classes (wd_Model_printNumber cC cI a0_0 a0_1 a0_2 a0_3 a0_4 a0_5 a0_6 a0_7 v0) H → va_D A (wd_Model_printNumber cC cI a0_0 a0_1 a0_2 a0_3 a0_4 a0_5 a0_6 a0_7 v0) → va_S A s.heap H locs → W p l e rm_Model_printNumber s m args below meth c H locs 0 0 (MQ below (q_Model_printNumber D cC cI a0_0 a0_1 a0_2 a0_3 a0_4 a0_5 a0_6 a0_7 out A) args s 0 0 A) (F0 m 67 ls [])
def J_Model_printNumber_81 (p : Program) (l : Launch) (e : Env) (s : State) (m : MethodId) (args : Array Value) (below : List Frame) (meth : Method) (c : Code) (A : Nat → Prop) (D : va_G) (cC cI : ClassId) (a0_0 a0_1 a0_2 a0_3 a0_4 a0_5 a0_6 a0_7 : Nat) (out : O_Model_printNumber) (k : T_Model → Int32 → Int32 → Int32 → Int32 → Option O_Model_printNumber) : Prop := ∀ (v0 : T_Model) (x1 : Int32) (x2 : Int32) (x4 : Int32) (s1 : Int32) (ls : Array Slot) (H : Heap) (locs : List Loc), k v0 x1 x2 x4 s1 = some out → lv_has ls 5 [(0, .ref a0_0), (1, .int x1), (2, .int x2), (4, .int x4)] → va_P D classes (wd_Model_printNumber cC cI a0_0 a0_1 a0_2 a0_3 a0_4 a0_5 a0_6 a0_7 v0) H → va_D A (wd_Model_printNumber cC cI a0_0 a0_1 a0_2 a0_3 a0_4 a0_5 a0_6 a0_7 v0) → va_S A s.heap H locs → W p l e rm_Model_printNumber s m args below meth c H locs 0 0 (MQ below (q_Model_printNumber D cC cI a0_0 a0_1 a0_2 a0_3 a0_4 a0_5 a0_6 a0_7 out A) args s 0 0 A) (F0 m 81 ls [.int s1, .ref a0_0])
def f_Model_printNumber_81 (k46 : T_Model → Int32 → Int32 → Int32 → Option O_Model_printNumber) (v0 : T_Model) (x1 : Int32) (x2 : Int32) (x4 : Int32) (s1 : Int32) : Option O_Model_printNumber := (f_Model_write v0 s1).bind (fun o81 => k46 o81 x1 x2 (x4 + (-1 : Int32)))
set_option maxHeartbeats 4000000 in
set_option maxRecDepth 100000 in
theorem w_Model_printNumber_81 {p : Program} {l : Launch} {e : Env} {s : State} {m : MethodId} {args : Array Value} {below : List Frame} {meth : Method} {c : Code} {A : Nat → Prop} {D : va_G} {cC cI : ClassId} {a0_0 a0_1 a0_2 a0_3 a0_4 a0_5 a0_6 a0_7 : Nat} (X : xCX p s m args meth c A D cC cI b_Model_printNumber 5 R_Model none) {out : O_Model_printNumber} {k46 : T_Model → Int32 → Int32 → Int32 → Option O_Model_printNumber} (hk46 : J_Model_printNumber_46 p l e s m args below meth c A D cC cI a0_0 a0_1 a0_2 a0_3 a0_4 a0_5 a0_6 a0_7 out k46) : J_Model_printNumber_81 p l e s m args below meth c A D cC cI a0_0 a0_1 a0_2 a0_3 a0_4 a0_5 a0_6 a0_7 out (f_Model_printNumber_81  k46) := by
  obtain ⟨hx, hb, hml, hown, htB, ⟨hK, hN⟩, hZ, hA, hr, hlocks⟩ := id X
  intro v0 x1 x2 x4 s1 ls H locs h hl hP hD hS
  obtain ⟨o81, ho81, h⟩ := x_bnd h
  refine x_callv (ws2 := (wd_Model_printNumber cC cI a0_0 a0_1 a0_2 a0_3 a0_4 a0_5 a0_6 a0_7 o81)) (x_runV (As := [.int s1]) (rest := []) X (c_Model_write l D cC cI H.size a0_0 a0_1 a0_2 a0_3 a0_4 a0_5 a0_6 a0_7 v0 s1 o81 ho81) b_378 1 (htB _ b_381) (htB _ b_379) (htB _ b_380) (htB _ b_319) ⟨by decide, by decide, by decide +kernel⟩ ⟨(Nat.le_of_ble_eq_true rfl), (Nat.le_of_ble_eq_true rfl)⟩ 0 rfl rfl hP hD hS [0, 1, 2, 3, 4, 5, 6, 7] rfl (by decide) rfl rfl hl.1 rfl rfl (Nat.le_of_ble_eq_true rfl) d_Model_printNumber_81) hP hD hS hA [0, 1, 2, 3, 4, 5, 6, 7] [] [0, 1, 2, 3, 4, 5, 6, 7] rfl rfl (by decide) (by decide) rfl (by decide) (fun H locs hP hD hS => ?_)
  refine lv_iinc (k := 3) (v := (x4 + (-1 : Int32))) (lv' := [(4, .int (x4 + (-1 : Int32))), (0, .ref a0_0), (1, .int x1), (2, .int x2)]) hx hb d_Model_printNumber_84 hl rfl (congrArg (fun z => x4 + z) (by decide : Int32.ofInt (-1) = (-1 : Int32))) (by decide) rfl (fun ls hl => ?_)
  refine lv_goto (tgt := 46) hx hb d_Model_printNumber_87 rfl ?_
  exact hk46 o81 x1 x2 (x4 + (-1 : Int32)) ls H locs h (lv_sub hl [1, 2, 3, 0] rfl) hP hD hS

def f_Model_printNumber_67 (k46 : T_Model → Int32 → Int32 → Int32 → Option O_Model_printNumber) (v0 : T_Model) (x1 : Int32) (x2 : Int32) (x4 : Int32) : Option O_Model_printNumber := (if x4 ≤ x1 then f_Model_printNumber_81 k46 v0 x1 x2 x4 (48 : Int32) else f_Model_printNumber_81 k46 v0 x1 x2 x4 (35 : Int32))
set_option maxHeartbeats 4000000 in
set_option maxRecDepth 100000 in
theorem w_Model_printNumber_67 {p : Program} {l : Launch} {e : Env} {s : State} {m : MethodId} {args : Array Value} {below : List Frame} {meth : Method} {c : Code} {A : Nat → Prop} {D : va_G} {cC cI : ClassId} {a0_0 a0_1 a0_2 a0_3 a0_4 a0_5 a0_6 a0_7 : Nat} (X : xCX p s m args meth c A D cC cI b_Model_printNumber 5 R_Model none) {out : O_Model_printNumber} {k46 : T_Model → Int32 → Int32 → Int32 → Option O_Model_printNumber} (hk46 : J_Model_printNumber_46 p l e s m args below meth c A D cC cI a0_0 a0_1 a0_2 a0_3 a0_4 a0_5 a0_6 a0_7 out k46) : J_Model_printNumber_67 p l e s m args below meth c A D cC cI a0_0 a0_1 a0_2 a0_3 a0_4 a0_5 a0_6 a0_7 out (f_Model_printNumber_67  k46) := by
  obtain ⟨hx, hb, hml, hown, htB, ⟨hK, hN⟩, hZ, hA, hr, hlocks⟩ := id X
  intro v0 x1 x2 x4 ls H locs h hl hP hD hS
  refine lv_aload_n hx hb d_Model_printNumber_67 rfl (lv_at hl 0 rfl) ?_
  refine lv_iload hx hb d_Model_printNumber_68 (lv_at hl 3 rfl) ?_
  refine lv_iload_n hx hb d_Model_printNumber_70 rfl (lv_at hl 1 rfl) ?_
  refine lv_icmp_le (tgt := 79) hx hb d_Model_printNumber_71 rfl (fun hc => ?_) (fun hc => ?_)
  · have h := (if_pos hc).symm.trans h
    refine lv_bipush (v := 48) hx hb d_Model_printNumber_79 (by decide) ?_
    exact w_Model_printNumber_81 X hk46 v0 x1 x2 x4 (48 : Int32) ls H locs h (lv_sub hl [0, 1, 2, 3] rfl) hP hD hS
  have h := (if_neg hc).symm.trans h
  refine lv_bipush (v := 35) hx hb d_Model_printNumber_74 (by decide) ?_
  refine lv_goto (tgt := 81) hx hb d_Model_printNumber_76 rfl ?_
  exact w_Model_printNumber_81 X hk46 v0 x1 x2 x4 (35 : Int32) ls H locs h (lv_sub hl [0, 1, 2, 3] rfl) hP hD hS

def f_Model_printNumber_46   : Nat → T_Model → Int32 → Int32 → Int32 → Option O_Model_printNumber
  | 0, _, _, _, _ => none
  | n + 1, v0, x1, x2, x4 => (if x4 ≤ 0 then (if (v0.2.2.2.2.2.2.2.2.1 (2 : Int32).toNatClampNeg) ≤ 0 then f_Model_printNumber_136 v0 else (f_Model_write v0 (46 : Int32)).bind (fun o102 => (f_Model_many o102 (o102.2.2.2.2.2.2.2.2.1 (1 : Int32).toNatClampNeg) (48 : Int32)).bind (fun o114 => (f_Model_many o114 ((o114.2.2.2.2.2.2.2.2.1 (2 : Int32).toNatClampNeg) - (o114.2.2.2.2.2.2.2.2.1 (1 : Int32).toNatClampNeg)) (35 : Int32)).bind (fun o133 => f_Model_printNumber_136 o133)))) else (if x2 ≤ 0 then f_Model_printNumber_67 (f_Model_printNumber_46  n) v0 x1 x2 x4 else (if x4 = x2 then (f_Model_write v0 (44 : Int32)).bind (fun o64 => f_Model_printNumber_67 (f_Model_printNumber_46  n) o64 x1 x2 x4) else f_Model_printNumber_67 (f_Model_printNumber_46  n) v0 x1 x2 x4)))
set_option maxHeartbeats 4000000 in
set_option maxRecDepth 100000 in
theorem w_Model_printNumber_46 {p : Program} {l : Launch} {e : Env} {s : State} {m : MethodId} {args : Array Value} {below : List Frame} {meth : Method} {c : Code} {A : Nat → Prop} {D : va_G} {cC cI : ClassId} {a0_0 a0_1 a0_2 a0_3 a0_4 a0_5 a0_6 a0_7 : Nat} (X : xCX p s m args meth c A D cC cI b_Model_printNumber 5 R_Model none) {out : O_Model_printNumber}   : ∀ n : Nat, J_Model_printNumber_46 p l e s m args below meth c A D cC cI a0_0 a0_1 a0_2 a0_3 a0_4 a0_5 a0_6 a0_7 out (f_Model_printNumber_46   n) := by
  obtain ⟨hx, hb, hml, hown, htB, ⟨hK, hN⟩, hZ, hA, hr, hlocks⟩ := id X
  intro n
  induction n with
  | zero =>
    intro v0 x1 x2 x4 ls H locs h hl hP hD hS
    cases h
  | succ n ih =>
    intro v0 x1 x2 x4 ls H locs h hl hP hD hS
    refine lv_iload hx hb d_Model_printNumber_46 (lv_at hl 3 rfl) ?_
    refine lv_if_le (tgt := 90) hx hb d_Model_printNumber_48 rfl (fun hc => ?_) (fun hc => ?_)
    · have h := (if_pos hc).symm.trans h
      refine lv_aload_n hx hb d_Model_printNumber_90 rfl (lv_at hl 0 rfl) ?_
      refine va_get (D := D) (ci := 11) (v := .ref a0_5) (C := R_Model) (T := F_Model) (N := 23) hx hb htB in_Model hown hK hP 0 rfl rfl 8 (by decide) (htB _ b_330) (fun _ h9 => h9) rfl d_Model_printNumber_91 ?_
      refine lv_iconst (v := 2) hx hb d_Model_printNumber_94 (by decide) ?_
      refine va_iald hx hb hK hP 5 1 rfl rfl (show ¬ (((2 : Int32) : Int32) < 0 ∨ 7 ≤ ((2 : Int32) : Int32).toNatClampNeg) by decide) d_Model_printNumber_95 ?_
      refine lv_if_le (tgt := 136) hx hb d_Model_printNumber_96 rfl (fun hc => ?_) (fun hc => ?_)
      · have h := (if_pos hc).symm.trans h
        exact w_Model_printNumber_136 X v0 ls H locs h (lv_sub hl [0] rfl) hP hD hS
      have h := (if_neg hc).symm.trans h
      refine lv_aload_n hx hb d_Model_printNumber_99 rfl (lv_at hl 0 rfl) ?_
      refine lv_bipush (v := 46) hx hb d_Model_printNumber_100 (by decide) ?_
      obtain ⟨o102, ho102, h⟩ := x_bnd h
      refine x_callv (ws2 := (wd_Model_printNumber cC cI a0_0 a0_1 a0_2 a0_3 a0_4 a0_5 a0_6 a0_7 o102)) (x_runV (As := [.int (46 : Int32)]) (rest := []) X (c_Model_write l D cC cI H.size a0_0 a0_1 a0_2 a0_3 a0_4 a0_5 a0_6 a0_7 v0 (46 : Int32) o102 ho102) b_378 1 (htB _ b_381) (htB _ b_379) (htB _ b_380) (htB _ b_319) ⟨by decide, by decide, by decide +kernel⟩ ⟨(Nat.le_of_ble_eq_true rfl), (Nat.le_of_ble_eq_true rfl)⟩ 0 rfl rfl hP hD hS [0, 1, 2, 3, 4, 5, 6, 7] rfl (by decide) rfl rfl hl.1 rfl rfl (Nat.le_of_ble_eq_true rfl) d_Model_printNumber_102) hP hD hS hA [0, 1, 2, 3, 4, 5, 6, 7] [] [0, 1, 2, 3, 4, 5, 6, 7] rfl rfl (by decide) (by decide) rfl (by decide) (fun H locs hP hD hS => ?_)
      refine lv_aload_n hx hb d_Model_printNumber_105 rfl (lv_at hl 0 rfl) ?_
      refine lv_aload_n hx hb d_Model_printNumber_106 rfl (lv_at hl 0 rfl) ?_
      refine va_get (D := D) (ci := 11) (v := .ref a0_5) (C := R_Model) (T := F_Model) (N := 23) hx hb htB in_Model hown hK hP 0 rfl rfl 8 (by decide) (htB _ b_330) (fun _ h9 => h9) rfl d_Model_printNumber_107 ?_
      refine lv_iconst (v := 1) hx hb d_Model_printNumber_110 (by decide) ?_
      refine va_iald hx hb hK hP 5 1 rfl rfl (show ¬ (((1 : Int32) : Int32) < 0 ∨ 7 ≤ ((1 : Int32) : Int32).toNatClampNeg) by decide) d_Model_printNumber_111 ?_
      refine lv_bipush (v := 48) hx hb d_Model_printNumber_112 (by decide) ?_
      obtain ⟨o114, ho114, h⟩ := x_bnd h
      refine x_callv (ws2 := (wd_Model_printNumber cC cI a0_0 a0_1 a0_2 a0_3 a0_4 a0_5 a0_6 a0_7 o114)) (x_runV (As := [.int (o102.2.2.2.2.2.2.2.2.1 (1 : Int32).toNatClampNeg), .int (48 : Int32)]) (rest := []) X (c_Model_many l D cC cI H.size a0_0 a0_1 a0_2 a0_3 a0_4 a0_5 a0_6 a0_7 o102 (o102.2.2.2.2.2.2.2.2.1 (1 : Int32).toNatClampNeg) (48 : Int32) o114 ho114) b_431 2 (htB _ b_434) (htB _ b_432) (htB _ b_433) (htB _ b_319) ⟨by decide, by decide, by decide +kernel⟩ ⟨(Nat.le_of_ble_eq_true rfl), (Nat.le_of_ble_eq_true rfl)⟩ 0 rfl rfl hP hD hS [0, 1, 2, 3, 4, 5, 6, 7] rfl (by decide) rfl rfl hl.1 rfl rfl (Nat.le_of_ble_eq_true rfl) d_Model_printNumber_114) hP hD hS hA [0, 1, 2, 3, 4, 5, 6, 7] [] [0, 1, 2, 3, 4, 5, 6, 7] rfl rfl (by decide) (by decide) rfl (by decide) (fun H locs hP hD hS => ?_)
      refine lv_aload_n hx hb d_Model_printNumber_117 rfl (lv_at hl 0 rfl) ?_
      refine lv_aload_n hx hb d_Model_printNumber_118 rfl (lv_at hl 0 rfl) ?_
      refine va_get (D := D) (ci := 11) (v := .ref a0_5) (C := R_Model) (T := F_Model) (N := 23) hx hb htB in_Model hown hK hP 0 rfl rfl 8 (by decide) (htB _ b_330) (fun _ h9 => h9) rfl d_Model_printNumber_119 ?_
      refine lv_iconst (v := 2) hx hb d_Model_printNumber_122 (by decide) ?_
      refine va_iald hx hb hK hP 5 1 rfl rfl (show ¬ (((2 : Int32) : Int32) < 0 ∨ 7 ≤ ((2 : Int32) : Int32).toNatClampNeg) by decide) d_Model_printNumber_123 ?_
      refine lv_aload_n hx hb d_Model_printNumber_124 rfl (lv_at hl 0 rfl) ?_
      refine va_get (D := D) (ci := 11) (v := .ref a0_5) (C := R_Model) (T := F_Model) (N := 23) hx hb htB in_Model hown hK hP 0 rfl rfl 8 (by decide) (htB _ b_330) (fun _ h9 => h9) rfl d_Model_printNumber_125 ?_
      refine lv_iconst (v := 1) hx hb d_Model_printNumber_128 (by decide) ?_
      refine va_iald hx hb hK hP 5 1 rfl rfl (show ¬ (((1 : Int32) : Int32) < 0 ∨ 7 ≤ ((1 : Int32) : Int32).toNatClampNeg) by decide) d_Model_printNumber_129 ?_
      refine lv_isub hx hb d_Model_printNumber_130 ?_
      refine lv_bipush (v := 35) hx hb d_Model_printNumber_131 (by decide) ?_
      obtain ⟨o133, ho133, h⟩ := x_bnd h
      refine x_callv (ws2 := (wd_Model_printNumber cC cI a0_0 a0_1 a0_2 a0_3 a0_4 a0_5 a0_6 a0_7 o133)) (x_runV (As := [.int ((o114.2.2.2.2.2.2.2.2.1 (2 : Int32).toNatClampNeg) - (o114.2.2.2.2.2.2.2.2.1 (1 : Int32).toNatClampNeg)), .int (35 : Int32)]) (rest := []) X (c_Model_many l D cC cI H.size a0_0 a0_1 a0_2 a0_3 a0_4 a0_5 a0_6 a0_7 o114 ((o114.2.2.2.2.2.2.2.2.1 (2 : Int32).toNatClampNeg) - (o114.2.2.2.2.2.2.2.2.1 (1 : Int32).toNatClampNeg)) (35 : Int32) o133 ho133) b_431 2 (htB _ b_434) (htB _ b_432) (htB _ b_433) (htB _ b_319) ⟨by decide, by decide, by decide +kernel⟩ ⟨(Nat.le_of_ble_eq_true rfl), (Nat.le_of_ble_eq_true rfl)⟩ 0 rfl rfl hP hD hS [0, 1, 2, 3, 4, 5, 6, 7] rfl (by decide) rfl rfl hl.1 rfl rfl (Nat.le_of_ble_eq_true rfl) d_Model_printNumber_133) hP hD hS hA [0, 1, 2, 3, 4, 5, 6, 7] [] [0, 1, 2, 3, 4, 5, 6, 7] rfl rfl (by decide) (by decide) rfl (by decide) (fun H locs hP hD hS => ?_)
      exact w_Model_printNumber_136 X o133 ls H locs h (lv_sub hl [0] rfl) hP hD hS
    have h := (if_neg hc).symm.trans h
    refine lv_iload_n hx hb d_Model_printNumber_51 rfl (lv_at hl 2 rfl) ?_
    refine lv_if_le (tgt := 67) hx hb d_Model_printNumber_52 rfl (fun hc => ?_) (fun hc => ?_)
    · have h := (if_pos hc).symm.trans h
      exact w_Model_printNumber_67 X ih v0 x1 x2 x4 ls H locs h (lv_sub hl [0, 1, 2, 3] rfl) hP hD hS
    have h := (if_neg hc).symm.trans h
    refine lv_iload hx hb d_Model_printNumber_55 (lv_at hl 3 rfl) ?_
    refine lv_iload_n hx hb d_Model_printNumber_57 rfl (lv_at hl 2 rfl) ?_
    refine lv_icmp_ne (tgt := 67) hx hb d_Model_printNumber_58 rfl (fun hc => ?_) (fun hc => ?_)
    · have h := (if_neg hc).symm.trans h
      exact w_Model_printNumber_67 X ih v0 x1 x2 x4 ls H locs h (lv_sub hl [0, 1, 2, 3] rfl) hP hD hS
    have h := (if_pos hc).symm.trans h
    refine lv_aload_n hx hb d_Model_printNumber_61 rfl (lv_at hl 0 rfl) ?_
    refine lv_bipush (v := 44) hx hb d_Model_printNumber_62 (by decide) ?_
    obtain ⟨o64, ho64, h⟩ := x_bnd h
    refine x_callv (ws2 := (wd_Model_printNumber cC cI a0_0 a0_1 a0_2 a0_3 a0_4 a0_5 a0_6 a0_7 o64)) (x_runV (As := [.int (44 : Int32)]) (rest := []) X (c_Model_write l D cC cI H.size a0_0 a0_1 a0_2 a0_3 a0_4 a0_5 a0_6 a0_7 v0 (44 : Int32) o64 ho64) b_378 1 (htB _ b_381) (htB _ b_379) (htB _ b_380) (htB _ b_319) ⟨by decide, by decide, by decide +kernel⟩ ⟨(Nat.le_of_ble_eq_true rfl), (Nat.le_of_ble_eq_true rfl)⟩ 0 rfl rfl hP hD hS [0, 1, 2, 3, 4, 5, 6, 7] rfl (by decide) rfl rfl hl.1 rfl rfl (Nat.le_of_ble_eq_true rfl) d_Model_printNumber_64) hP hD hS hA [0, 1, 2, 3, 4, 5, 6, 7] [] [0, 1, 2, 3, 4, 5, 6, 7] rfl rfl (by decide) (by decide) rfl (by decide) (fun H locs hP hD hS => ?_)
    exact w_Model_printNumber_67 X ih o64 x1 x2 x4 ls H locs h (lv_sub hl [0, 1, 2, 3] rfl) hP hD hS

def f_Model_printNumber_42 (v0 : T_Model) (x1 : Int32) (x2 : Int32) (s0 : Int32) : Option O_Model_printNumber := f_Model_printNumber_46 FU v0 x1 x2 s0
set_option maxHeartbeats 4000000 in
set_option maxRecDepth 100000 in
theorem w_Model_printNumber_42 {p : Program} {l : Launch} {e : Env} {s : State} {m : MethodId} {args : Array Value} {below : List Frame} {meth : Method} {c : Code} {A : Nat → Prop} {D : va_G} {cC cI : ClassId} {a0_0 a0_1 a0_2 a0_3 a0_4 a0_5 a0_6 a0_7 : Nat} (X : xCX p s m args meth c A D cC cI b_Model_printNumber 5 R_Model none) {out : O_Model_printNumber}   : J_Model_printNumber_42 p l e s m args below meth c A D cC cI a0_0 a0_1 a0_2 a0_3 a0_4 a0_5 a0_6 a0_7 out (f_Model_printNumber_42  ) := by
  obtain ⟨hx, hb, hml, hown, htB, ⟨hK, hN⟩, hZ, hA, hr, hlocks⟩ := id X
  intro v0 x1 x2 s0 ls H locs h hl hP hD hS
  refine lv_istore_n (lv' := [(3, .int s0), (0, .ref a0_0), (1, .int x1), (2, .int x2)]) hx hb d_Model_printNumber_42 rfl hl (by decide) rfl (fun ls hl => ?_)
  refine lv_iload_n hx hb d_Model_printNumber_43 rfl (lv_at hl 0 rfl) ?_
  refine lv_istore (lv' := [(4, .int s0), (3, .int s0), (0, .ref a0_0), (1, .int x1), (2, .int x2)]) hx hb d_Model_printNumber_44 hl (by decide) rfl (fun ls hl => ?_)
  exact w_Model_printNumber_46 X FU v0 x1 x2 s0 ls H locs h (lv_sub hl [2, 3, 4, 0] rfl) hP hD hS

def f_Model_printNumber (v0 : T_Model) : Option O_Model_printNumber := (if (v0.2.2.2.2.2.2.2.2.1 (3 : Int32).toNatClampNeg) = 0 then (if (v0.2.2.2.2.2.2.2.2.1 (0 : Int32).toNatClampNeg) = 0 then f_Model_printNumber_42 v0 (v0.2.2.2.2.2.2.2.2.1 (0 : Int32).toNatClampNeg) (v0.2.2.2.2.2.2.2.2.1 (3 : Int32).toNatClampNeg) (1 : Int32) else f_Model_printNumber_42 v0 (v0.2.2.2.2.2.2.2.2.1 (0 : Int32).toNatClampNeg) (v0.2.2.2.2.2.2.2.2.1 (3 : Int32).toNatClampNeg) (v0.2.2.2.2.2.2.2.2.1 (0 : Int32).toNatClampNeg)) else (if (v0.2.2.2.2.2.2.2.2.1 (0 : Int32).toNatClampNeg) ≤ (v0.2.2.2.2.2.2.2.2.1 (3 : Int32).toNatClampNeg) then f_Model_printNumber_42 v0 (v0.2.2.2.2.2.2.2.2.1 (0 : Int32).toNatClampNeg) (v0.2.2.2.2.2.2.2.2.1 (3 : Int32).toNatClampNeg) ((v0.2.2.2.2.2.2.2.2.1 (3 : Int32).toNatClampNeg) + (1 : Int32)) else f_Model_printNumber_42 v0 (v0.2.2.2.2.2.2.2.2.1 (0 : Int32).toNatClampNeg) (v0.2.2.2.2.2.2.2.2.1 (3 : Int32).toNatClampNeg) (v0.2.2.2.2.2.2.2.2.1 (0 : Int32).toNatClampNeg)))
set_option maxHeartbeats 4000000 in
set_option maxRecDepth 100000 in
theorem w_Model_printNumber {p : Program} {l : Launch} {e : Env} {s : State} {m : MethodId} {args : Array Value} {below : List Frame} {meth : Method} {c : Code} {A : Nat → Prop} {D : va_G} {cC cI : ClassId} {a0_0 a0_1 a0_2 a0_3 a0_4 a0_5 a0_6 a0_7 : Nat} (X : xCX p s m args meth c A D cC cI b_Model_printNumber 5 R_Model none) {out : O_Model_printNumber} (v0 : T_Model) {ls : Array Slot} {H : Heap} {locs : List Loc} (h : f_Model_printNumber v0 = some out) (hl : lv_has ls 5 [(0, .ref a0_0)]) (hP : va_P D classes (wd_Model_printNumber cC cI a0_0 a0_1 a0_2 a0_3 a0_4 a0_5 a0_6 a0_7 v0) H) (hD : va_D A (wd_Model_printNumber cC cI a0_0 a0_1 a0_2 a0_3 a0_4 a0_5 a0_6 a0_7 v0)) (hS : va_S A s.heap H locs) : W p l e rm_Model_printNumber s m args below meth c H locs 0 0 (MQ below (q_Model_printNumber D cC cI a0_0 a0_1 a0_2 a0_3 a0_4 a0_5 a0_6 a0_7 out A) args s 0 0 A) (F0 m 0 ls []) := by
  obtain ⟨hx, hb, hml, hown, htB, ⟨hK, hN⟩, hZ, hA, hr, hlocks⟩ := id X
  refine lv_aload_n hx hb d_Model_printNumber_0 rfl (lv_at hl 0 rfl) ?_
  refine va_get (D := D) (ci := 11) (v := .ref a0_5) (C := R_Model) (T := F_Model) (N := 23) hx hb htB in_Model hown hK hP 0 rfl rfl 8 (by decide) (htB _ b_330) (fun _ h9 => h9) rfl d_Model_printNumber_1 ?_
  refine lv_iconst (v := 0) hx hb d_Model_printNumber_4 (by decide) ?_
  refine va_iald hx hb hK hP 5 1 rfl rfl (show ¬ (((0 : Int32) : Int32) < 0 ∨ 7 ≤ ((0 : Int32) : Int32).toNatClampNeg) by decide) d_Model_printNumber_5 ?_
  refine lv_istore_n (lv' := [(1, .int (v0.2.2.2.2.2.2.2.2.1 (0 : Int32).toNatClampNeg)), (0, .ref a0_0)]) hx hb d_Model_printNumber_6 rfl hl (by decide) rfl (fun ls hl => ?_)
  refine lv_aload_n hx hb d_Model_printNumber_7 rfl (lv_at hl 1 rfl) ?_
  refine va_get (D := D) (ci := 11) (v := .ref a0_5) (C := R_Model) (T := F_Model) (N := 23) hx hb htB in_Model hown hK hP 0 rfl rfl 8 (by decide) (htB _ b_330) (fun _ h9 => h9) rfl d_Model_printNumber_8 ?_
  refine lv_iconst (v := 3) hx hb d_Model_printNumber_11 (by decide) ?_
  refine va_iald hx hb hK hP 5 1 rfl rfl (show ¬ (((3 : Int32) : Int32) < 0 ∨ 7 ≤ ((3 : Int32) : Int32).toNatClampNeg) by decide) d_Model_printNumber_12 ?_
  refine lv_istore_n (lv' := [(2, .int (v0.2.2.2.2.2.2.2.2.1 (3 : Int32).toNatClampNeg)), (1, .int (v0.2.2.2.2.2.2.2.2.1 (0 : Int32).toNatClampNeg)), (0, .ref a0_0)]) hx hb d_Model_printNumber_13 rfl hl (by decide) rfl (fun ls hl => ?_)
  refine lv_iload_n hx hb d_Model_printNumber_14 rfl (lv_at hl 0 rfl) ?_
  refine lv_if_ne (tgt := 30) hx hb d_Model_printNumber_15 rfl (fun hc => ?_) (fun hc => ?_)
  · have h := (if_neg hc).symm.trans h
    refine lv_iload_n hx hb d_Model_printNumber_30 rfl (lv_at hl 1 rfl) ?_
    refine lv_iload_n hx hb d_Model_printNumber_31 rfl (lv_at hl 0 rfl) ?_
    refine lv_icmp_le (tgt := 39) hx hb d_Model_printNumber_32 rfl (fun hc => ?_) (fun hc => ?_)
    · have h := (if_pos hc).symm.trans h
      refine lv_iload_n hx hb d_Model_printNumber_39 rfl (lv_at hl 0 rfl) ?_
      refine lv_iconst (v := 1) hx hb d_Model_printNumber_40 (by decide) ?_
      refine lv_iadd hx hb d_Model_printNumber_41 ?_
      exact w_Model_printNumber_42 X v0 (v0.2.2.2.2.2.2.2.2.1 (0 : Int32).toNatClampNeg) (v0.2.2.2.2.2.2.2.2.1 (3 : Int32).toNatClampNeg) ((v0.2.2.2.2.2.2.2.2.1 (3 : Int32).toNatClampNeg) + (1 : Int32)) ls H locs h (lv_sub hl [2, 1, 0] rfl) hP hD hS
    have h := (if_neg hc).symm.trans h
    refine lv_iload_n hx hb d_Model_printNumber_35 rfl (lv_at hl 1 rfl) ?_
    refine lv_goto (tgt := 42) hx hb d_Model_printNumber_36 rfl ?_
    exact w_Model_printNumber_42 X v0 (v0.2.2.2.2.2.2.2.2.1 (0 : Int32).toNatClampNeg) (v0.2.2.2.2.2.2.2.2.1 (3 : Int32).toNatClampNeg) (v0.2.2.2.2.2.2.2.2.1 (0 : Int32).toNatClampNeg) ls H locs h (lv_sub hl [2, 1, 0] rfl) hP hD hS
  have h := (if_pos hc).symm.trans h
  refine lv_iload_n hx hb d_Model_printNumber_18 rfl (lv_at hl 1 rfl) ?_
  refine lv_if_ne (tgt := 26) hx hb d_Model_printNumber_19 rfl (fun hc => ?_) (fun hc => ?_)
  · have h := (if_neg hc).symm.trans h
    refine lv_iload_n hx hb d_Model_printNumber_26 rfl (lv_at hl 1 rfl) ?_
    refine lv_goto (tgt := 42) hx hb d_Model_printNumber_27 rfl ?_
    exact w_Model_printNumber_42 X v0 (v0.2.2.2.2.2.2.2.2.1 (0 : Int32).toNatClampNeg) (v0.2.2.2.2.2.2.2.2.1 (3 : Int32).toNatClampNeg) (v0.2.2.2.2.2.2.2.2.1 (0 : Int32).toNatClampNeg) ls H locs h (lv_sub hl [2, 1, 0] rfl) hP hD hS
  have h := (if_pos hc).symm.trans h
  refine lv_iconst (v := 1) hx hb d_Model_printNumber_22 (by decide) ?_
  refine lv_goto (tgt := 42) hx hb d_Model_printNumber_23 rfl ?_
  exact w_Model_printNumber_42 X v0 (v0.2.2.2.2.2.2.2.2.1 (0 : Int32).toNatClampNeg) (v0.2.2.2.2.2.2.2.2.1 (3 : Int32).toNatClampNeg) (1 : Int32) ls H locs h (lv_sub hl [2, 1, 0] rfl) hP hD hS

set_option maxHeartbeats 4000000 in
set_option maxRecDepth 100000 in
theorem c_Model_printNumber (l : Launch) (D : va_G) (cC cI : ClassId) (sz : Nat) (a0_0 a0_1 a0_2 a0_3 a0_4 a0_5 a0_6 a0_7 : Nat) (v0 : T_Model) (out : O_Model_printNumber) (h : f_Model_printNumber v0 = some out) : Met l y_Model_printNumber (.code y_Model_printNumber b_Model_printNumber 5 none :: BIG) rm_Model_printNumber (va_Pc [.ref a0_0] (xPre D cC cI (wd_Model_printNumber cC cI a0_0 a0_1 a0_2 a0_3 a0_4 a0_5 a0_6 a0_7 v0) sz)) (q_Model_printNumber D cC cI a0_0 a0_1 a0_2 a0_3 a0_4 a0_5 a0_6 a0_7 out (va_A (wd_Model_printNumber cC cI a0_0 a0_1 a0_2 a0_3 a0_4 a0_5 a0_6 a0_7 v0) sz)) 0 0 (va_A (wd_Model_printNumber cC cI a0_0 a0_1 a0_2 a0_3 a0_4 a0_5 a0_6 a0_7 v0) sz) := by
  refine Met.ofW (cc := b_Model_printNumber) (maxL := 5) (ret := none) (by decide) rfl ?_
  intro p e s m args below meth c s₁ B hml hv
  obtain ⟨rfl, rfl, hP, hD0, hG, hZ⟩ := hv
  have hl := lv_entry [.ref a0_0] (n := 5) (Nat.le_of_ble_eq_true rfl)
  rw [lg_entry_eq]
  exact w_Model_printNumber (x_cx B hml hG hZ) v0 h hl hP hD0.self va_S.rf

abbrev wd_Model_like (cC cI : ClassId) (a0_0 a0_1 a0_2 a0_3 a0_4 a0_5 a0_6 a0_7 : Nat) (v0 : T_Model) : va_W := [(a0_0, .inr (11, [.ref a0_1, .int v0.2.1, .ref a0_2, .int v0.2.2.2.1, .int v0.2.2.2.2.1, .int v0.2.2.2.2.2.1, .ref a0_3, .ref a0_4, .ref a0_5, .int v0.2.2.2.2.2.2.2.2.2.1, .int v0.2.2.2.2.2.2.2.2.2.2.1, .int v0.2.2.2.2.2.2.2.2.2.2.2.1, .int v0.2.2.2.2.2.2.2.2.2.2.2.2.1, .ref a0_6, .int v0.2.2.2.2.2.2.2.2.2.2.2.2.2.2.1, .int v0.2.2.2.2.2.2.2.2.2.2.2.2.2.2.2.1, .int v0.2.2.2.2.2.2.2.2.2.2.2.2.2.2.2.2.1, .ref a0_7, .long v0.2.2.2.2.2.2.2.2.2.2.2.2.2.2.2.2.2.2.1, .int v0.2.2.2.2.2.2.2.2.2.2.2.2.2.2.2.2.2.2.2.1, .long v0.2.2.2.2.2.2.2.2.2.2.2.2.2.2.2.2.2.2.2.2.1, .int v0.2.2.2.2.2.2.2.2.2.2.2.2.2.2.2.2.2.2.2.2.2.1, .int v0.2.2.2.2.2.2.2.2.2.2.2.2.2.2.2.2.2.2.2.2.2.2])), (a0_1, .inl (cC, 120, .inl v0.1)), (a0_2, .inl (cC, 200, .inl v0.2.2.1)), (a0_3, .inl (cI, 160, .inl v0.2.2.2.2.2.2.1)), (a0_4, .inl (cI, 4, .inl v0.2.2.2.2.2.2.2.1)), (a0_5, .inl (cI, 7, .inl v0.2.2.2.2.2.2.2.2.1)), (a0_6, .inl (cI, 40, .inl v0.2.2.2.2.2.2.2.2.2.2.2.2.2.1)), (a0_7, .inl (cI, 6, .inl v0.2.2.2.2.2.2.2.2.2.2.2.2.2.2.2.2.2.1))]
abbrev O_Model_like : Type := Int32
abbrev q_Model_like (D : va_G) (cC cI : ClassId) (a0_0 a0_1 a0_2 a0_3 a0_4 a0_5 a0_6 a0_7 : Nat) (v0 : T_Model) (out : O_Model_like) (A : Nat → Prop) : Array Value → State → Outcome → State → Prop := va_Qi (fun r (_ : Unit) => r = out) (fun _ t => va_P D classes (wd_Model_like cC cI a0_0 a0_1 a0_2 a0_3 a0_4 a0_5 a0_6 a0_7 v0) t.heap ∧ va_D A (wd_Model_like cC cI a0_0 a0_1 a0_2 a0_3 a0_4 a0_5 a0_6 a0_7 v0)) A
abbrev rm_Model_like : Room := { frames := 0, cells := 0, slots := 0, locals := 0 }
def J_Model_like_22 (p : Program) (l : Launch) (e : Env) (s : State) (m : MethodId) (args : Array Value) (below : List Frame) (meth : Method) (c : Code) (A : Nat → Prop) (D : va_G) (cC cI : ClassId) (a0_0 a0_1 a0_2 a0_3 a0_4 a0_5 a0_6 a0_7 : Nat) (v0 : T_Model) (out : O_Model_like) (k : Int32 → Int32 → Int32 → Int32 → Option O_Model_like) : Prop := ∀ (x1 : Int32) (x2 : Int32) (x3 : Int32) (s0 : Int32) (ls : Array Slot) (H : Heap) (locs : List Loc), k x1 x2 x3 s0 = some out → lv_has ls 7 [(0, .ref a0_0), (1, .int x1), (2, .int x2), (3, .int x3)] → va_P D classes (wd_Model_like cC cI a0_0 a0_1 a0_2 a0_3 a0_4 a0_5 a0_6 a0_7 v0) H → va_D A (wd_Model_like cC cI a0_0 a0_1 a0_2 a0_3 a0_4 a0_5 a0_6 a0_7 v0) → va_S A s.heap H locs → W p l e rm_Model_like s m args below meth c H locs 0 0 (MQ below (q_Model_like D cC cI a0_0 a0_1 a0_2 a0_3 a0_4 a0_5 a0_6 a0_7 v0 out A) args s 0 0 A) (F0 m 22 ls [.int s0])
def J_Model_like_27 (p : Program) (l : Launch) (e : Env) (s : State) (m : MethodId) (args : Array Value) (below : List Frame) (meth : Method) (c : Code) (A : Nat → Prop) (D : va_G) (cC cI : ClassId) (a0_0 a0_1 a0_2 a0_3 a0_4 a0_5 a0_6 a0_7 : Nat) (v0 : T_Model) (out : O_Model_like) (k : Int32 → Int32 → Int32 → Int32 → Int32 → Option O_Model_like) : Prop := ∀ (x1 : Int32) (x2 : Int32) (x3 : Int32) (x4 : Int32) (x5 : Int32) (ls : Array Slot) (H : Heap) (locs : List Loc), k x1 x2 x3 x4 x5 = some out → lv_has ls 7 [(0, .ref a0_0), (1, .int x1), (2, .int x2), (3, .int x3), (4, .int x4), (5, .int x5)] → va_P D classes (wd_Model_like cC cI a0_0 a0_1 a0_2 a0_3 a0_4 a0_5 a0_6 a0_7 v0) H → va_D A (wd_Model_like cC cI a0_0 a0_1 a0_2 a0_3 a0_4 a0_5 a0_6 a0_7 v0) → va_S A s.heap H locs → W p l e rm_Model_like s m args below meth c H locs 0 0 (MQ below (q_Model_like D cC cI a0_0 a0_1 a0_2 a0_3 a0_4 a0_5 a0_6 a0_7 v0 out A) args s 0 0 A) (F0 m 27 ls [])
def J_Model_like_100 (p : Program) (l : Launch) (e : Env) (s : State) (m : MethodId) (args : Array Value) (below : List Frame) (meth : Method) (c : Code) (A : Nat → Prop) (D : va_G) (cC cI : ClassId) (a0_0 a0_1 a0_2 a0_3 a0_4 a0_5 a0_6 a0_7 : Nat) (v0 : T_Model) (out : O_Model_like) (k : Int32 → Option O_Model_like) : Prop := ∀ (x4 : Int32) (ls : Array Slot) (H : Heap) (locs : List Loc), k x4 = some out → lv_has ls 7 [(4, .int x4)] → va_P D classes (wd_Model_like cC cI a0_0 a0_1 a0_2 a0_3 a0_4 a0_5 a0_6 a0_7 v0) H → va_D A (wd_Model_like cC cI a0_0 a0_1 a0_2 a0_3 a0_4 a0_5 a0_6 a0_7 v0) → va_S A s.heap H locs → W p l e rm_Model_like s m args below meth c H locs 0 0 (MQ below (q_Model_like D cC cI a0_0 a0_1 a0_2 a0_3 a0_4 a0_5 a0_6 a0_7 v0 out A) args s 0 0 A) (F0 m 100 ls [])
def f_Model_like_100 (v0 : T_Model) (x4 : Int32) : Option O_Model_like := if (x4 = 0 ∨ x4 = 1) then some x4 else none
set_option maxHeartbeats 4000000 in
set_option maxRecDepth 100000 in
theorem w_Model_like_100 {p : Program} {l : Launch} {e : Env} {s : State} {m : MethodId} {args : Array Value} {below : List Frame} {meth : Method} {c : Code} {A : Nat → Prop} {D : va_G} {cC cI : ClassId} {a0_0 a0_1 a0_2 a0_3 a0_4 a0_5 a0_6 a0_7 : Nat} {v0 : T_Model} (X : xCX p s m args meth c A D cC cI b_Model_like 7 R_Model (some .boolean)) {out : O_Model_like}   : J_Model_like_100 p l e s m args below meth c A D cC cI a0_0 a0_1 a0_2 a0_3 a0_4 a0_5 a0_6 a0_7 v0 out (f_Model_like_100 v0 ) := by
  obtain ⟨hx, hb, hml, hown, htB, ⟨hK, hN⟩, hZ, hA, hr, hlocks⟩ := id X
  intro x4 ls H locs h hl hP hD hS
  refine lv_iload hx hb d_Model_like_100 (lv_at hl 0 rfl) ?_
  obtain ⟨hc, h⟩ := x_chk h
  obtain rfl := Option.some.inj h
  exact W.zret (v := x4) (ty := .boolean) hx hb hr (x_zn hc) (fun t ht hW => ⟨⟨x4, (), rfl, rfl, by rw [ht]; exact hP, hD⟩, hS.F ht⟩) hS.2.2 d_Model_like_102 hlocks

def J_Model_like_68 (p : Program) (l : Launch) (e : Env) (s : State) (m : MethodId) (args : Array Value) (below : List Frame) (meth : Method) (c : Code) (A : Nat → Prop) (D : va_G) (cC cI : ClassId) (a0_0 a0_1 a0_2 a0_3 a0_4 a0_5 a0_6 a0_7 : Nat) (v0 : T_Model) (out : O_Model_like) (k : Int32 → Int32 → Int32 → Int32 → Int32 → Option O_Model_like) : Prop := ∀ (x1 : Int32) (x2 : Int32) (x3 : Int32) (x5 : Int32) (s0 : Int32) (ls : Array Slot) (H : Heap) (locs : List Loc), k x1 x2 x3 x5 s0 = some out → lv_has ls 7 [(0, .ref a0_0), (1, .int x1), (2, .int x2), (3, .int x3), (5, .int x5)] → va_P D classes (wd_Model_like cC cI a0_0 a0_1 a0_2 a0_3 a0_4 a0_5 a0_6 a0_7 v0) H → va_D A (wd_Model_like cC cI a0_0 a0_1 a0_2 a0_3 a0_4 a0_5 a0_6 a0_7 v0) → va_S A s.heap H locs → W p l e rm_Model_like s m args below meth c H locs 0 0 (MQ below (q_Model_like D cC cI a0_0 a0_1 a0_2 a0_3 a0_4 a0_5 a0_6 a0_7 v0 out A) args s 0 0 A) (F0 m 68 ls [.int s0])
def J_Model_like_92 (p : Program) (l : Launch) (e : Env) (s : State) (m : MethodId) (args : Array Value) (below : List Frame) (meth : Method) (c : Code) (A : Nat → Prop) (D : va_G) (cC cI : ClassId) (a0_0 a0_1 a0_2 a0_3 a0_4 a0_5 a0_6 a0_7 : Nat) (v0 : T_Model) (out : O_Model_like) (k : Int32 → Int32 → Int32 → Int32 → Int32 → Option O_Model_like) : Prop := ∀ (x1 : Int32) (x2 : Int32) (x3 : Int32) (x5 : Int32) (s0 : Int32) (ls : Array Slot) (H : Heap) (locs : List Loc), k x1 x2 x3 x5 s0 = some out → lv_has ls 7 [(0, .ref a0_0), (1, .int x1), (2, .int x2), (3, .int x3), (5, .int x5)] → va_P D classes (wd_Model_like cC cI a0_0 a0_1 a0_2 a0_3 a0_4 a0_5 a0_6 a0_7 v0) H → va_D A (wd_Model_like cC cI a0_0 a0_1 a0_2 a0_3 a0_4 a0_5 a0_6 a0_7 v0) → va_S A s.heap H locs → W p l e rm_Model_like s m args below meth c H locs 0 0 (MQ below (q_Model_like D cC cI a0_0 a0_1 a0_2 a0_3 a0_4 a0_5 a0_6 a0_7 v0 out A) args s 0 0 A) (F0 m 92 ls [.int s0])
def f_Model_like_92 (v0 : T_Model) (k27 : Int32 → Int32 → Int32 → Int32 → Int32 → Option O_Model_like) (x1 : Int32) (x2 : Int32) (x3 : Int32) (x5 : Int32) (s0 : Int32) : Option O_Model_like := k27 x1 x2 x3 s0 (x5 + (1 : Int32))
set_option maxHeartbeats 4000000 in
set_option maxRecDepth 100000 in
theorem w_Model_like_92 {p : Program} {l : Launch} {e : Env} {s : State} {m : MethodId} {args : Array Value} {below : List Frame} {meth : Method} {c : Code} {A : Nat → Prop} {D : va_G} {cC cI : ClassId} {a0_0 a0_1 a0_2 a0_3 a0_4 a0_5 a0_6 a0_7 : Nat} {v0 : T_Model} (X : xCX p s m args meth c A D cC cI b_Model_like 7 R_Model (some .boolean)) {out : O_Model_like} {k27 : Int32 → Int32 → Int32 → Int32 → Int32 → Option O_Model_like} (hk27 : J_Model_like_27 p l e s m args below meth c A D cC cI a0_0 a0_1 a0_2 a0_3 a0_4 a0_5 a0_6 a0_7 v0 out k27) : J_Model_like_92 p l e s m args below meth c A D cC cI a0_0 a0_1 a0_2 a0_3 a0_4 a0_5 a0_6 a0_7 v0 out (f_Model_like_92 v0 k27) := by
  obtain ⟨hx, hb, hml, hown, htB, ⟨hK, hN⟩, hZ, hA, hr, hlocks⟩ := id X
  intro x1 x2 x3 x5 s0 ls H locs h hl hP hD hS
  refine lv_istore (lv' := [(4, .int s0), (0, .ref a0_0), (1, .int x1), (2, .int x2), (3, .int x3), (5, .int x5)]) hx hb d_Model_like_92 hl (by decide) rfl (fun ls hl => ?_)
  refine lv_iinc (k := 5) (v := (x5 + (1 : Int32))) (lv' := [(5, .int (x5 + (1 : Int32))), (4, .int s0), (0, .ref a0_0), (1, .int x1), (2, .int x2), (3, .int x3)]) hx hb d_Model_like_94 hl rfl (congrArg (fun z => x5 + z) (by decide : Int32.ofInt 1 = (1 : Int32))) (by decide) rfl (fun ls hl => ?_)
  refine lv_goto (tgt := 27) hx hb d_Model_like_97 rfl ?_
  exact hk27 x1 x2 x3 s0 (x5 + (1 : Int32)) ls H locs h (lv_sub hl [2, 3, 4, 5, 1, 0] rfl) hP hD hS

def f_Model_like_68 (v0 : T_Model) (k27 : Int32 → Int32 → Int32 → Int32 → Int32 → Option O_Model_like) (x1 : Int32) (x2 : Int32) (x3 : Int32) (x5 : Int32) (s0 : Int32) : Option O_Model_like := if ix (((40 : Int32) * x1) + x5) 160 then (if (v0.2.2.2.2.2.2.1 (((40 : Int32) * x1) + x5).toNatClampNeg) = s0 then f_Model_like_92 v0 k27 x1 x2 x3 x5 (1 : Int32) else f_Model_like_92 v0 k27 x1 x2 x3 x5 (0 : Int32)) else none
set_option maxHeartbeats 4000000 in
set_option maxRecDepth 100000 in
theorem w_Model_like_68 {p : Program} {l : Launch} {e : Env} {s : State} {m : MethodId} {args : Array Value} {below : List Frame} {meth : Method} {c : Code} {A : Nat → Prop} {D : va_G} {cC cI : ClassId} {a0_0 a0_1 a0_2 a0_3 a0_4 a0_5 a0_6 a0_7 : Nat} {v0 : T_Model} (X : xCX p s m args meth c A D cC cI b_Model_like 7 R_Model (some .boolean)) {out : O_Model_like} {k27 : Int32 → Int32 → Int32 → Int32 → Int32 → Option O_Model_like} (hk27 : J_Model_like_27 p l e s m args below meth c A D cC cI a0_0 a0_1 a0_2 a0_3 a0_4 a0_5 a0_6 a0_7 v0 out k27) : J_Model_like_68 p l e s m args below meth c A D cC cI a0_0 a0_1 a0_2 a0_3 a0_4 a0_5 a0_6 a0_7 v0 out (f_Model_like_68 v0 k27) := by
  obtain ⟨hx, hb, hml, hown, htB, ⟨hK, hN⟩, hZ, hA, hr, hlocks⟩ := id X
  intro x1 x2 x3 x5 s0 ls H locs h hl hP hD hS
  refine lv_istore (lv' := [(6, .int s0), (0, .ref a0_0), (1, .int x1), (2, .int x2), (3, .int x3), (5, .int x5)]) hx hb d_Model_like_68 hl (by decide) rfl (fun ls hl => ?_)
  refine lv_aload_n hx hb d_Model_like_70 rfl (lv_at hl 1 rfl) ?_
  refine va_get (D := D) (ci := 11) (v := .ref a0_3) (C := R_Model) (T := F_Model) (N := 23) hx hb htB in_Model hown hK hP 0 rfl rfl 6 (by decide) (htB _ b_314) (fun _ h9 => h9) rfl d_Model_like_71 ?_
  refine lv_bipush (v := 40) hx hb d_Model_like_74 (by decide) ?_
  refine lv_iload_n hx hb d_Model_like_76 rfl (lv_at hl 2 rfl) ?_
  refine lv_imul hx hb d_Model_like_77 ?_
  refine lv_iload hx hb d_Model_like_78 (lv_at hl 5 rfl) ?_
  refine lv_iadd hx hb d_Model_like_80 ?_
  obtain ⟨hc, h⟩ := x_chk h
  refine va_iald hx hb hK hP 3 1 rfl rfl hc d_Model_like_81 ?_
  refine lv_iload hx hb d_Model_like_82 (lv_at hl 0 rfl) ?_
  refine lv_icmp_ne (tgt := 91) hx hb d_Model_like_84 rfl (fun hc => ?_) (fun hc => ?_)
  · have h := (if_neg hc).symm.trans h
    refine lv_iconst (v := 0) hx hb d_Model_like_91 (by decide) ?_
    exact w_Model_like_92 X hk27 x1 x2 x3 x5 (0 : Int32) ls H locs h (lv_sub hl [1, 2, 3, 4, 5] rfl) hP hD hS
  have h := (if_pos hc).symm.trans h
  refine lv_iconst (v := 1) hx hb d_Model_like_87 (by decide) ?_
  refine lv_goto (tgt := 92) hx hb d_Model_like_88 rfl ?_
  exact w_Model_like_92 X hk27 x1 x2 x3 x5 (1 : Int32) ls H locs h (lv_sub hl [1, 2, 3, 4, 5] rfl) hP hD hS

def f_Model_like_27 (v0 : T_Model)  : Nat → Int32 → Int32 → Int32 → Int32 → Int32 → Option O_Model_like
  | 0, _, _, _, _, _ => none
  | n + 1, x1, x2, x3, x4, x5 => (if x4 = 0 then f_Model_like_100 v0 x4 else if ix x1 4 then (if (v0.2.2.2.2.2.2.2.1 x1.toNatClampNeg) ≤ x5 then f_Model_like_100 v0 x4 else (if x3 ≤ x5 then if ix ((((40 : Int32) * x2) + x5) - x3) 160 then f_Model_like_68 v0 (f_Model_like_27 v0 n) x1 x2 x3 x5 (v0.2.2.2.2.2.2.1 ((((40 : Int32) * x2) + x5) - x3).toNatClampNeg) else none else f_Model_like_68 v0 (f_Model_like_27 v0 n) x1 x2 x3 x5 (45 : Int32))) else none)
set_option maxHeartbeats 4000000 in
set_option maxRecDepth 100000 in
theorem w_Model_like_27 {p : Program} {l : Launch} {e : Env} {s : State} {m : MethodId} {args : Array Value} {below : List Frame} {meth : Method} {c : Code} {A : Nat → Prop} {D : va_G} {cC cI : ClassId} {a0_0 a0_1 a0_2 a0_3 a0_4 a0_5 a0_6 a0_7 : Nat} {v0 : T_Model} (X : xCX p s m args meth c A D cC cI b_Model_like 7 R_Model (some .boolean)) {out : O_Model_like}   : ∀ n : Nat, J_Model_like_27 p l e s m args below meth c A D cC cI a0_0 a0_1 a0_2 a0_3 a0_4 a0_5 a0_6 a0_7 v0 out (f_Model_like_27 v0  n) := by
  obtain ⟨hx, hb, hml, hown, htB, ⟨hK, hN⟩, hZ, hA, hr, hlocks⟩ := id X
  intro n
  induction n with
  | zero =>
    intro x1 x2 x3 x4 x5 ls H locs h hl hP hD hS
    cases h
  | succ n ih =>
    intro x1 x2 x3 x4 x5 ls H locs h hl hP hD hS
    refine lv_iload hx hb d_Model_like_27 (lv_at hl 4 rfl) ?_
    refine lv_if_eq (tgt := 100) hx hb d_Model_like_29 rfl (fun hc => ?_) (fun hc => ?_)
    · have h := (if_pos hc).symm.trans h
      exact w_Model_like_100 X x4 ls H locs h (lv_sub hl [4] rfl) hP hD hS
    have h := (if_neg hc).symm.trans h
    refine lv_iload hx hb d_Model_like_32 (lv_at hl 5 rfl) ?_
    refine lv_aload_n hx hb d_Model_like_34 rfl (lv_at hl 0 rfl) ?_
    refine va_get (D := D) (ci := 11) (v := .ref a0_4) (C := R_Model) (T := F_Model) (N := 23) hx hb htB in_Model hown hK hP 0 rfl rfl 7 (by decide) (htB _ b_315) (fun _ h9 => h9) rfl d_Model_like_35 ?_
    refine lv_iload_n hx hb d_Model_like_38 rfl (lv_at hl 1 rfl) ?_
    obtain ⟨hc, h⟩ := x_chk h
    refine va_iald hx hb hK hP 4 1 rfl rfl hc d_Model_like_39 ?_
    refine lv_icmp_ge (tgt := 100) hx hb d_Model_like_40 rfl (fun hc => ?_) (fun hc => ?_)
    · have h := (if_pos hc).symm.trans h
      exact w_Model_like_100 X x4 ls H locs h (lv_sub hl [4] rfl) hP hD hS
    have h := (if_neg hc).symm.trans h
    refine lv_iload hx hb d_Model_like_43 (lv_at hl 5 rfl) ?_
    refine lv_iload_n hx hb d_Model_like_45 rfl (lv_at hl 3 rfl) ?_
    refine lv_icmp_ge (tgt := 54) hx hb d_Model_like_46 rfl (fun hc => ?_) (fun hc => ?_)
    · have h := (if_pos hc).symm.trans h
      refine lv_aload_n hx hb d_Model_like_54 rfl (lv_at hl 0 rfl) ?_
      refine va_get (D := D) (ci := 11) (v := .ref a0_3) (C := R_Model) (T := F_Model) (N := 23) hx hb htB in_Model hown hK hP 0 rfl rfl 6 (by decide) (htB _ b_314) (fun _ h9 => h9) rfl d_Model_like_55 ?_
      refine lv_bipush (v := 40) hx hb d_Model_like_58 (by decide) ?_
      refine lv_iload_n hx hb d_Model_like_60 rfl (lv_at hl 2 rfl) ?_
      refine lv_imul hx hb d_Model_like_61 ?_
      refine lv_iload hx hb d_Model_like_62 (lv_at hl 5 rfl) ?_
      refine lv_iadd hx hb d_Model_like_64 ?_
      refine lv_iload_n hx hb d_Model_like_65 rfl (lv_at hl 3 rfl) ?_
      refine lv_isub hx hb d_Model_like_66 ?_
      obtain ⟨hc, h⟩ := x_chk h
      refine va_iald hx hb hK hP 3 1 rfl rfl hc d_Model_like_67 ?_
      exact w_Model_like_68 X ih x1 x2 x3 x5 (v0.2.2.2.2.2.2.1 ((((40 : Int32) * x2) + x5) - x3).toNatClampNeg) ls H locs h (lv_sub hl [0, 1, 2, 3, 5] rfl) hP hD hS
    have h := (if_neg hc).symm.trans h
    refine lv_bipush (v := 45) hx hb d_Model_like_49 (by decide) ?_
    refine lv_goto (tgt := 68) hx hb d_Model_like_51 rfl ?_
    exact w_Model_like_68 X ih x1 x2 x3 x5 (45 : Int32) ls H locs h (lv_sub hl [0, 1, 2, 3, 5] rfl) hP hD hS

def f_Model_like_22 (v0 : T_Model) (x1 : Int32) (x2 : Int32) (x3 : Int32) (s0 : Int32) : Option O_Model_like := f_Model_like_27 v0 FU x1 x2 x3 s0 (0 : Int32)
set_option maxHeartbeats 4000000 in
set_option maxRecDepth 100000 in
theorem w_Model_like_22 {p : Program} {l : Launch} {e : Env} {s : State} {m : MethodId} {args : Array Value} {below : List Frame} {meth : Method} {c : Code} {A : Nat → Prop} {D : va_G} {cC cI : ClassId} {a0_0 a0_1 a0_2 a0_3 a0_4 a0_5 a0_6 a0_7 : Nat} {v0 : T_Model} (X : xCX p s m args meth c A D cC cI b_Model_like 7 R_Model (some .boolean)) {out : O_Model_like}   : J_Model_like_22 p l e s m args below meth c A D cC cI a0_0 a0_1 a0_2 a0_3 a0_4 a0_5 a0_6 a0_7 v0 out (f_Model_like_22 v0 ) := by
  obtain ⟨hx, hb, hml, hown, htB, ⟨hK, hN⟩, hZ, hA, hr, hlocks⟩ := id X
  intro x1 x2 x3 s0 ls H locs h hl hP hD hS
  refine lv_istore (lv' := [(4, .int s0), (0, .ref a0_0), (1, .int x1), (2, .int x2), (3, .int x3)]) hx hb d_Model_like_22 hl (by decide) rfl (fun ls hl => ?_)
  refine lv_iconst (v := 0) hx hb d_Model_like_24 (by decide) ?_
  refine lv_istore (lv' := [(5, .int (0 : Int32)), (4, .int s0), (0, .ref a0_0), (1, .int x1), (2, .int x2), (3, .int x3)]) hx hb d_Model_like_25 hl (by decide) rfl (fun ls hl => ?_)
  exact w_Model_like_27 X FU x1 x2 x3 s0 (0 : Int32) ls H locs h (lv_sub hl [2, 3, 4, 5, 1, 0] rfl) hP hD hS

def f_Model_like (v0 : T_Model) (v1 : Int32) (v2 : Int32) (v3 : Int32) : Option O_Model_like := if ix v1 4 then if ix v2 4 then (if (v0.2.2.2.2.2.2.2.1 v1.toNatClampNeg) = ((v0.2.2.2.2.2.2.2.1 v2.toNatClampNeg) + v3) then f_Model_like_22 v0 v1 v2 v3 (1 : Int32) else f_Model_like_22 v0 v1 v2 v3 (0 : Int32)) else none else none
set_option maxHeartbeats 4000000 in
set_option maxRecDepth 100000 in
theorem w_Model_like {p : Program} {l : Launch} {e : Env} {s : State} {m : MethodId} {args : Array Value} {below : List Frame} {meth : Method} {c : Code} {A : Nat → Prop} {D : va_G} {cC cI : ClassId} {a0_0 a0_1 a0_2 a0_3 a0_4 a0_5 a0_6 a0_7 : Nat} {v0 : T_Model} (X : xCX p s m args meth c A D cC cI b_Model_like 7 R_Model (some .boolean)) {out : O_Model_like} (v1 : Int32) (v2 : Int32) (v3 : Int32) {ls : Array Slot} {H : Heap} {locs : List Loc} (h : f_Model_like v0 v1 v2 v3 = some out) (hl : lv_has ls 7 [(0, .ref a0_0), (1, .int v1), (2, .int v2), (3, .int v3)]) (hP : va_P D classes (wd_Model_like cC cI a0_0 a0_1 a0_2 a0_3 a0_4 a0_5 a0_6 a0_7 v0) H) (hD : va_D A (wd_Model_like cC cI a0_0 a0_1 a0_2 a0_3 a0_4 a0_5 a0_6 a0_7 v0)) (hS : va_S A s.heap H locs) : W p l e rm_Model_like s m args below meth c H locs 0 0 (MQ below (q_Model_like D cC cI a0_0 a0_1 a0_2 a0_3 a0_4 a0_5 a0_6 a0_7 v0 out A) args s 0 0 A) (F0 m 0 ls []) := by
  obtain ⟨hx, hb, hml, hown, htB, ⟨hK, hN⟩, hZ, hA, hr, hlocks⟩ := id X
  refine lv_aload_n hx hb d_Model_like_0 rfl (lv_at hl 0 rfl) ?_
  refine va_get (D := D) (ci := 11) (v := .ref a0_4) (C := R_Model) (T := F_Model) (N := 23) hx hb htB in_Model hown hK hP 0 rfl rfl 7 (by decide) (htB _ b_315) (fun _ h9 => h9) rfl d_Model_like_1 ?_
  refine lv_iload_n hx hb d_Model_like_4 rfl (lv_at hl 1 rfl) ?_
  obtain ⟨hc, h⟩ := x_chk h
  refine va_iald hx hb hK hP 4 1 rfl rfl hc d_Model_like_5 ?_
  refine lv_aload_n hx hb d_Model_like_6 rfl (lv_at hl 0 rfl) ?_
  refine va_get (D := D) (ci := 11) (v := .ref a0_4) (C := R_Model) (T := F_Model) (N := 23) hx hb htB in_Model hown hK hP 0 rfl rfl 7 (by decide) (htB _ b_315) (fun _ h9 => h9) rfl d_Model_like_7 ?_
  refine lv_iload_n hx hb d_Model_like_10 rfl (lv_at hl 2 rfl) ?_
  obtain ⟨hc, h⟩ := x_chk h
  refine va_iald hx hb hK hP 4 1 rfl rfl hc d_Model_like_11 ?_
  refine lv_iload_n hx hb d_Model_like_12 rfl (lv_at hl 3 rfl) ?_
  refine lv_iadd hx hb d_Model_like_13 ?_
  refine lv_icmp_ne (tgt := 21) hx hb d_Model_like_14 rfl (fun hc => ?_) (fun hc => ?_)
  · have h := (if_neg hc).symm.trans h
    refine lv_iconst (v := 0) hx hb d_Model_like_21 (by decide) ?_
    exact w_Model_like_22 X v1 v2 v3 (0 : Int32) ls H locs h (lv_sub hl [0, 1, 2, 3] rfl) hP hD hS
  have h := (if_pos hc).symm.trans h
  refine lv_iconst (v := 1) hx hb d_Model_like_17 (by decide) ?_
  refine lv_goto (tgt := 22) hx hb d_Model_like_18 rfl ?_
  exact w_Model_like_22 X v1 v2 v3 (1 : Int32) ls H locs h (lv_sub hl [0, 1, 2, 3] rfl) hP hD hS

set_option maxHeartbeats 4000000 in
set_option maxRecDepth 100000 in
theorem c_Model_like (l : Launch) (D : va_G) (cC cI : ClassId) (sz : Nat) (a0_0 a0_1 a0_2 a0_3 a0_4 a0_5 a0_6 a0_7 : Nat) (v0 : T_Model) (v1 : Int32) (v2 : Int32) (v3 : Int32) (out : O_Model_like) (h : f_Model_like v0 v1 v2 v3 = some out) : Met l y_Model_like (.code y_Model_like b_Model_like 7 (some .boolean) :: BIG) rm_Model_like (va_Pc [.ref a0_0, .int v1, .int v2, .int v3] (xPre D cC cI (wd_Model_like cC cI a0_0 a0_1 a0_2 a0_3 a0_4 a0_5 a0_6 a0_7 v0) sz)) (q_Model_like D cC cI a0_0 a0_1 a0_2 a0_3 a0_4 a0_5 a0_6 a0_7 v0 out (va_A (wd_Model_like cC cI a0_0 a0_1 a0_2 a0_3 a0_4 a0_5 a0_6 a0_7 v0) sz)) 0 0 (va_A (wd_Model_like cC cI a0_0 a0_1 a0_2 a0_3 a0_4 a0_5 a0_6 a0_7 v0) sz) := by
  refine Met.ofW (cc := b_Model_like) (maxL := 7) (ret := (some .boolean)) (by decide) rfl ?_
  intro p e s m args below meth c s₁ B hml hv
  obtain ⟨rfl, rfl, hP, hD0, hG, hZ⟩ := hv
  have hl := lv_entry [.ref a0_0, .int v1, .int v2, .int v3] (n := 7) (Nat.le_of_ble_eq_true rfl)
  rw [lg_entry_eq]
  exact w_Model_like (x_cx B hml hG hZ) v1 v2 v3 h hl hP hD0.self va_S.rf

abbrev wd_Model_print (cC cI : ClassId) (a0_0 a0_1 a0_2 a0_3 a0_4 a0_5 a0_6 a0_7 : Nat) (v0 : T_Model) : va_W := [(a0_0, .inr (11, [.ref a0_1, .int v0.2.1, .ref a0_2, .int v0.2.2.2.1, .int v0.2.2.2.2.1, .int v0.2.2.2.2.2.1, .ref a0_3, .ref a0_4, .ref a0_5, .int v0.2.2.2.2.2.2.2.2.2.1, .int v0.2.2.2.2.2.2.2.2.2.2.1, .int v0.2.2.2.2.2.2.2.2.2.2.2.1, .int v0.2.2.2.2.2.2.2.2.2.2.2.2.1, .ref a0_6, .int v0.2.2.2.2.2.2.2.2.2.2.2.2.2.2.1, .int v0.2.2.2.2.2.2.2.2.2.2.2.2.2.2.2.1, .int v0.2.2.2.2.2.2.2.2.2.2.2.2.2.2.2.2.1, .ref a0_7, .long v0.2.2.2.2.2.2.2.2.2.2.2.2.2.2.2.2.2.2.1, .int v0.2.2.2.2.2.2.2.2.2.2.2.2.2.2.2.2.2.2.2.1, .long v0.2.2.2.2.2.2.2.2.2.2.2.2.2.2.2.2.2.2.2.2.1, .int v0.2.2.2.2.2.2.2.2.2.2.2.2.2.2.2.2.2.2.2.2.2.1, .int v0.2.2.2.2.2.2.2.2.2.2.2.2.2.2.2.2.2.2.2.2.2.2])), (a0_1, .inl (cC, 120, .inl v0.1)), (a0_2, .inl (cC, 200, .inl v0.2.2.1)), (a0_3, .inl (cI, 160, .inl v0.2.2.2.2.2.2.1)), (a0_4, .inl (cI, 4, .inl v0.2.2.2.2.2.2.2.1)), (a0_5, .inl (cI, 7, .inl v0.2.2.2.2.2.2.2.2.1)), (a0_6, .inl (cI, 40, .inl v0.2.2.2.2.2.2.2.2.2.2.2.2.2.1)), (a0_7, .inl (cI, 6, .inl v0.2.2.2.2.2.2.2.2.2.2.2.2.2.2.2.2.2.1))]
abbrev O_Model_print : Type := Int32 × T_Model
abbrev q_Model_print (D : va_G) (cC cI : ClassId) (a0_0 a0_1 a0_2 a0_3 a0_4 a0_5 a0_6 a0_7 : Nat)  (out : O_Model_print) (A : Nat → Prop) : Array Value → State → Outcome → State → Prop := va_Qi (fun r (_ : Unit) => r = out.1) (fun _ t => va_P D classes (wd_Model_print cC cI a0_0 a0_1 a0_2 a0_3 a0_4 a0_5 a0_6 a0_7 out.2) t.heap ∧ va_D A (wd_Model_print cC cI a0_0 a0_1 a0_2 a0_3 a0_4 a0_5 a0_6 a0_7 out.2)) A
abbrev rm_Model_print : Room := { frames := 3, cells := 0, slots := 0, locals := 68 }
def J_Model_print_86 (p : Program) (l : Launch) (e : Env) (s : State) (m : MethodId) (args : Array Value) (below : List Frame) (meth : Method) (c : Code) (A : Nat → Prop) (D : va_G) (cC cI : ClassId) (a0_0 a0_1 a0_2 a0_3 a0_4 a0_5 a0_6 a0_7 : Nat) (out : O_Model_print) (k : T_Model → Option O_Model_print) : Prop := ∀ (v0 : T_Model) (ls : Array Slot) (H : Heap) (locs : List Loc), k v0 = some out → lv_has ls 1 [(0, .ref a0_0)] → va_P D classes (wd_Model_print cC cI a0_0 a0_1 a0_2 a0_3 a0_4 a0_5 a0_6 a0_7 v0) H → va_D A (wd_Model_print cC cI a0_0 a0_1 a0_2 a0_3 a0_4 a0_5 a0_6 a0_7 v0) → va_S A s.heap H locs → W p l e rm_Model_print s m args below meth c H locs 0 0 (MQ below (q_Model_print D cC cI a0_0 a0_1 a0_2 a0_3 a0_4 a0_5 a0_6 a0_7 out A) args s 0 0 A) (F0 m 86 ls [])
def f_Model_print_86 (v0 : T_Model) : Option O_Model_print := some (v0.2.2.2.1, v0)
set_option maxHeartbeats 4000000 in
set_option maxRecDepth 100000 in
theorem w_Model_print_86 {p : Program} {l : Launch} {e : Env} {s : State} {m : MethodId} {args : Array Value} {below : List Frame} {meth : Method} {c : Code} {A : Nat → Prop} {D : va_G} {cC cI : ClassId} {a0_0 a0_1 a0_2 a0_3 a0_4 a0_5 a0_6 a0_7 : Nat} (X : xCX p s m args meth c A D cC cI b_Model_print 1 R_Model (some .int)) {out : O_Model_print}   : J_Model_print_86 p l e s m args below meth c A D cC cI a0_0 a0_1 a0_2 a0_3 a0_4 a0_5 a0_6 a0_7 out (f_Model_print_86  ) := by
  obtain ⟨hx, hb, hml, hown, htB, ⟨hK, hN⟩, hZ, hA, hr, hlocks⟩ := id X
  intro v0 ls H locs h hl hP hD hS
  refine lv_aload_n hx hb d_Model_print_86 rfl (lv_at hl 0 rfl) ?_
  refine va_get (D := D) (ci := 11) (v := .int v0.2.2.2.1) (C := R_Model) (T := F_Model) (N := 23) hx hb htB in_Model hown hK hP 0 rfl rfl 3 (by decide) (htB _ b_311) (fun _ h9 => h9) rfl d_Model_print_87 ?_
  obtain rfl := Option.some.inj h
  exact W.iret (v := v0.2.2.2.1) hx hb hr (fun t ht hW => ⟨⟨v0.2.2.2.1, (), rfl, rfl, by rw [ht]; exact hP, hD⟩, hS.F ht⟩) hS.2.2 d_Model_print_90 hlocks

def J_Model_print_64 (p : Program) (l : Launch) (e : Env) (s : State) (m : MethodId) (args : Array Value) (below : List Frame) (meth : Method) (c : Code) (A : Nat → Prop) (D : va_G) (cC cI : ClassId) (a0_0 a0_1 a0_2 a0_3 a0_4 a0_5 a0_6 a0_7 : Nat) (out : O_Model_print) (k : T_Model → Option O_Model_print) : Prop := ∀ (v0 : T_Model) (ls : Array Slot) (H : Heap) (locs : List Loc), k v0 = some out → lv_has ls 1 [(0, .ref a0_0)] → va_P D classes (wd_Model_print cC cI a0_0 a0_1 a0_2 a0_3 a0_4 a0_5 a0_6 a0_7 v0) H → va_D A (wd_Model_print cC cI a0_0 a0_1 a0_2 a0_3 a0_4 a0_5 a0_6 a0_7 v0) → va_S A s.heap H locs → W p l e rm_Model_print s m args below meth c H locs 0 0 (MQ below (q_Model_print D cC cI a0_0 a0_1 a0_2 a0_3 a0_4 a0_5 a0_6 a0_7 out A) args s 0 0 A) (F0 m 64 ls [])
def f_Model_print_64 (v0 : T_Model) : Option O_Model_print := (f_Model_write v0 (59 : Int32)).bind (fun o67 => (f_Model_printAffix o67 (2 : Int32)).bind (fun o72 => (f_Model_write o72 (35 : Int32)).bind (fun o78 => (f_Model_printAffix o78 (3 : Int32)).bind (fun o83 => f_Model_print_86 o83))))
set_option maxHeartbeats 4000000 in
set_option maxRecDepth 100000 in
theorem w_Model_print_64 {p : Program} {l : Launch} {e : Env} {s : State} {m : MethodId} {args : Array Value} {below : List Frame} {meth : Method} {c : Code} {A : Nat → Prop} {D : va_G} {cC cI : ClassId} {a0_0 a0_1 a0_2 a0_3 a0_4 a0_5 a0_6 a0_7 : Nat} (X : xCX p s m args meth c A D cC cI b_Model_print 1 R_Model (some .int)) {out : O_Model_print}   : J_Model_print_64 p l e s m args below meth c A D cC cI a0_0 a0_1 a0_2 a0_3 a0_4 a0_5 a0_6 a0_7 out (f_Model_print_64  ) := by
  obtain ⟨hx, hb, hml, hown, htB, ⟨hK, hN⟩, hZ, hA, hr, hlocks⟩ := id X
  intro v0 ls H locs h hl hP hD hS
  refine lv_aload_n hx hb d_Model_print_64 rfl (lv_at hl 0 rfl) ?_
  refine lv_bipush (v := 59) hx hb d_Model_print_65 (by decide) ?_
  obtain ⟨o67, ho67, h⟩ := x_bnd h
  refine x_callv (ws2 := (wd_Model_print cC cI a0_0 a0_1 a0_2 a0_3 a0_4 a0_5 a0_6 a0_7 o67)) (x_runV (As := [.int (59 : Int32)]) (rest := []) X (c_Model_write l D cC cI H.size a0_0 a0_1 a0_2 a0_3 a0_4 a0_5 a0_6 a0_7 v0 (59 : Int32) o67 ho67) b_378 1 (htB _ b_381) (htB _ b_379) (htB _ b_380) (htB _ b_319) ⟨by decide, by decide, by decide +kernel⟩ ⟨(Nat.le_of_ble_eq_true rfl), (Nat.le_of_ble_eq_true rfl)⟩ 0 rfl rfl hP hD hS [0, 1, 2, 3, 4, 5, 6, 7] rfl (by decide) rfl rfl hl.1 rfl rfl (Nat.le_of_ble_eq_true rfl) d_Model_print_67) hP hD hS hA [0, 1, 2, 3, 4, 5, 6, 7] [] [0, 1, 2, 3, 4, 5, 6, 7] rfl rfl (by decide) (by decide) rfl (by decide) (fun H locs hP hD hS => ?_)
  refine lv_aload_n hx hb d_Model_print_70 rfl (lv_at hl 0 rfl) ?_
  refine lv_iconst (v := 2) hx hb d_Model_print_71 (by decide) ?_
  obtain ⟨o72, ho72, h⟩ := x_bnd h
  refine x_callv (ws2 := (wd_Model_print cC cI a0_0 a0_1 a0_2 a0_3 a0_4 a0_5 a0_6 a0_7 o72)) (x_runV (As := [.int (2 : Int32)]) (rest := []) X (c_Model_printAffix l D cC cI H.size a0_0 a0_1 a0_2 a0_3 a0_4 a0_5 a0_6 a0_7 o67 (2 : Int32) o72 ho72) b_435 1 (htB _ b_438) (htB _ b_436) (htB _ b_437) (htB _ b_319) ⟨by decide, by decide, by decide +kernel⟩ ⟨(Nat.le_of_ble_eq_true rfl), (Nat.le_of_ble_eq_true rfl)⟩ 0 rfl rfl hP hD hS [0, 1, 2, 3, 4, 5, 6, 7] rfl (by decide) rfl rfl hl.1 rfl rfl (Nat.le_of_ble_eq_true rfl) d_Model_print_72) hP hD hS hA [0, 1, 2, 3, 4, 5, 6, 7] [] [0, 1, 2, 3, 4, 5, 6, 7] rfl rfl (by decide) (by decide) rfl (by decide) (fun H locs hP hD hS => ?_)
  refine lv_aload_n hx hb d_Model_print_75 rfl (lv_at hl 0 rfl) ?_
  refine lv_bipush (v := 35) hx hb d_Model_print_76 (by decide) ?_
  obtain ⟨o78, ho78, h⟩ := x_bnd h
  refine x_callv (ws2 := (wd_Model_print cC cI a0_0 a0_1 a0_2 a0_3 a0_4 a0_5 a0_6 a0_7 o78)) (x_runV (As := [.int (35 : Int32)]) (rest := []) X (c_Model_write l D cC cI H.size a0_0 a0_1 a0_2 a0_3 a0_4 a0_5 a0_6 a0_7 o72 (35 : Int32) o78 ho78) b_378 1 (htB _ b_381) (htB _ b_379) (htB _ b_380) (htB _ b_319) ⟨by decide, by decide, by decide +kernel⟩ ⟨(Nat.le_of_ble_eq_true rfl), (Nat.le_of_ble_eq_true rfl)⟩ 0 rfl rfl hP hD hS [0, 1, 2, 3, 4, 5, 6, 7] rfl (by decide) rfl rfl hl.1 rfl rfl (Nat.le_of_ble_eq_true rfl) d_Model_print_78) hP hD hS hA [0, 1, 2, 3, 4, 5, 6, 7] [] [0, 1, 2, 3, 4, 5, 6, 7] rfl rfl (by decide) (by decide) rfl (by decide) (fun H locs hP hD hS => ?_)
  refine lv_aload_n hx hb d_Model_print_81 rfl (lv_at hl 0 rfl) ?_
  refine lv_iconst (v := 3) hx hb d_Model_print_82 (by decide) ?_
  obtain ⟨o83, ho83, h⟩ := x_bnd h
  refine x_callv (ws2 := (wd_Model_print cC cI a0_0 a0_1 a0_2 a0_3 a0_4 a0_5 a0_6 a0_7 o83)) (x_runV (As := [.int (3 : Int32)]) (rest := []) X (c_Model_printAffix l D cC cI H.size a0_0 a0_1 a0_2 a0_3 a0_4 a0_5 a0_6 a0_7 o78 (3 : Int32) o83 ho83) b_435 1 (htB _ b_438) (htB _ b_436) (htB _ b_437) (htB _ b_319) ⟨by decide, by decide, by decide +kernel⟩ ⟨(Nat.le_of_ble_eq_true rfl), (Nat.le_of_ble_eq_true rfl)⟩ 0 rfl rfl hP hD hS [0, 1, 2, 3, 4, 5, 6, 7] rfl (by decide) rfl rfl hl.1 rfl rfl (Nat.le_of_ble_eq_true rfl) d_Model_print_83) hP hD hS hA [0, 1, 2, 3, 4, 5, 6, 7] [] [0, 1, 2, 3, 4, 5, 6, 7] rfl rfl (by decide) (by decide) rfl (by decide) (fun H locs hP hD hS => ?_)
  exact w_Model_print_86 X o83 ls H locs h (lv_sub hl [0] rfl) hP hD hS

def f_Model_print (v0 : T_Model) : Option O_Model_print := (if v0.2.2.2.2.2.1 = 0 then some ((-1 : Int32), v0) else (f_Model_printAffix (v0.1, v0.2.1, v0.2.2.1, (0 : Int32), v0.2.2.2.2.1, v0.2.2.2.2.2.1, v0.2.2.2.2.2.2.1, v0.2.2.2.2.2.2.2.1, v0.2.2.2.2.2.2.2.2.1, v0.2.2.2.2.2.2.2.2.2.1, v0.2.2.2.2.2.2.2.2.2.2.1, v0.2.2.2.2.2.2.2.2.2.2.2.1, v0.2.2.2.2.2.2.2.2.2.2.2.2.1, v0.2.2.2.2.2.2.2.2.2.2.2.2.2.1, v0.2.2.2.2.2.2.2.2.2.2.2.2.2.2.1, v0.2.2.2.2.2.2.2.2.2.2.2.2.2.2.2.1, (0 : Int32), v0.2.2.2.2.2.2.2.2.2.2.2.2.2.2.2.2.2.1, v0.2.2.2.2.2.2.2.2.2.2.2.2.2.2.2.2.2.2.1, v0.2.2.2.2.2.2.2.2.2.2.2.2.2.2.2.2.2.2.2.1, v0.2.2.2.2.2.2.2.2.2.2.2.2.2.2.2.2.2.2.2.2.1, v0.2.2.2.2.2.2.2.2.2.2.2.2.2.2.2.2.2.2.2.2.2.1, v0.2.2.2.2.2.2.2.2.2.2.2.2.2.2.2.2.2.2.2.2.2.2) (0 : Int32)).bind (fun o21 => (f_Model_printNumber o21).bind (fun o25 => (f_Model_printAffix o25 (1 : Int32)).bind (fun o30 => (if (o30.2.2.2.2.2.2.2.2.1 (6 : Int32).toNatClampNeg) = (1 : Int32) then (f_Model_like o30 (2 : Int32) (0 : Int32) (1 : Int32)).bind (fun o48 => (if o48 = 0 then f_Model_print_64 o30 else (f_Model_like o30 (3 : Int32) (1 : Int32) (0 : Int32)).bind (fun o58 => (if o58 = 0 then f_Model_print_64 o30 else f_Model_print_86 o30)))) else f_Model_print_86 o30)))))
set_option maxHeartbeats 4000000 in
set_option maxRecDepth 100000 in
theorem w_Model_print {p : Program} {l : Launch} {e : Env} {s : State} {m : MethodId} {args : Array Value} {below : List Frame} {meth : Method} {c : Code} {A : Nat → Prop} {D : va_G} {cC cI : ClassId} {a0_0 a0_1 a0_2 a0_3 a0_4 a0_5 a0_6 a0_7 : Nat} (X : xCX p s m args meth c A D cC cI b_Model_print 1 R_Model (some .int)) {out : O_Model_print} (v0 : T_Model) {ls : Array Slot} {H : Heap} {locs : List Loc} (h : f_Model_print v0 = some out) (hl : lv_has ls 1 [(0, .ref a0_0)]) (hP : va_P D classes (wd_Model_print cC cI a0_0 a0_1 a0_2 a0_3 a0_4 a0_5 a0_6 a0_7 v0) H) (hD : va_D A (wd_Model_print cC cI a0_0 a0_1 a0_2 a0_3 a0_4 a0_5 a0_6 a0_7 v0)) (hS : va_S A s.heap H locs) : W p l e rm_Model_print s m args below meth c H locs 0 0 (MQ below (q_Model_print D cC cI a0_0 a0_1 a0_2 a0_3 a0_4 a0_5 a0_6 a0_7 out A) args s 0 0 A) (F0 m 0 ls []) := by
  obtain ⟨hx, hb, hml, hown, htB, ⟨hK, hN⟩, hZ, hA, hr, hlocks⟩ := id X
  refine lv_aload_n hx hb d_Model_print_0 rfl (lv_at hl 0 rfl) ?_
  refine va_get (D := D) (ci := 11) (v := .int v0.2.2.2.2.2.1) (C := R_Model) (T := F_Model) (N := 23) hx hb htB in_Model hown hK hP 0 rfl rfl 5 (by decide) (htB _ b_360) (fun _ h9 => h9) rfl d_Model_print_1 ?_
  refine lv_if_ne (tgt := 9) hx hb d_Model_print_4 rfl (fun hc => ?_) (fun hc => ?_)
  · have h := (if_neg hc).symm.trans h
    refine lv_aload_n hx hb d_Model_print_9 rfl (lv_at hl 0 rfl) ?_
    refine lv_iconst (v := 0) hx hb d_Model_print_10 (by decide) ?_
    refine va_put (D := D) (ci := 11) (v := .int (0 : Int32)) (ty := .int) (C := R_Model) (T := F_Model) (N := 23) hx hb htB in_Model t_Model t_Model_ok n_Model hown hK hP hD hS 0 rfl rfl 3 (by decide) (htB _ b_311) (fun _ h9 => h9) rfl (by decide +kernel) rfl rfl (Nat.le_of_ble_eq_true rfl) d_Model_print_11 (fun H locs hP hD hS => ?_)
    have hP : va_P D classes (wd_Model_print cC cI a0_0 a0_1 a0_2 a0_3 a0_4 a0_5 a0_6 a0_7 (v0.1, v0.2.1, v0.2.2.1, (0 : Int32), v0.2.2.2.2.1, v0.2.2.2.2.2.1, v0.2.2.2.2.2.2.1, v0.2.2.2.2.2.2.2.1, v0.2.2.2.2.2.2.2.2.1, v0.2.2.2.2.2.2.2.2.2.1, v0.2.2.2.2.2.2.2.2.2.2.1, v0.2.2.2.2.2.2.2.2.2.2.2.1, v0.2.2.2.2.2.2.2.2.2.2.2.2.1, v0.2.2.2.2.2.2.2.2.2.2.2.2.2.1, v0.2.2.2.2.2.2.2.2.2.2.2.2.2.2.1, v0.2.2.2.2.2.2.2.2.2.2.2.2.2.2.2.1, v0.2.2.2.2.2.2.2.2.2.2.2.2.2.2.2.2.1, v0.2.2.2.2.2.2.2.2.2.2.2.2.2.2.2.2.2.1, v0.2.2.2.2.2.2.2.2.2.2.2.2.2.2.2.2.2.2.1, v0.2.2.2.2.2.2.2.2.2.2.2.2.2.2.2.2.2.2.2.1, v0.2.2.2.2.2.2.2.2.2.2.2.2.2.2.2.2.2.2.2.2.1, v0.2.2.2.2.2.2.2.2.2.2.2.2.2.2.2.2.2.2.2.2.2.1, v0.2.2.2.2.2.2.2.2.2.2.2.2.2.2.2.2.2.2.2.2.2.2)) H := hP
    have hD : va_D A (wd_Model_print cC cI a0_0 a0_1 a0_2 a0_3 a0_4 a0_5 a0_6 a0_7 (v0.1, v0.2.1, v0.2.2.1, (0 : Int32), v0.2.2.2.2.1, v0.2.2.2.2.2.1, v0.2.2.2.2.2.2.1, v0.2.2.2.2.2.2.2.1, v0.2.2.2.2.2.2.2.2.1, v0.2.2.2.2.2.2.2.2.2.1, v0.2.2.2.2.2.2.2.2.2.2.1, v0.2.2.2.2.2.2.2.2.2.2.2.1, v0.2.2.2.2.2.2.2.2.2.2.2.2.1, v0.2.2.2.2.2.2.2.2.2.2.2.2.2.1, v0.2.2.2.2.2.2.2.2.2.2.2.2.2.2.1, v0.2.2.2.2.2.2.2.2.2.2.2.2.2.2.2.1, v0.2.2.2.2.2.2.2.2.2.2.2.2.2.2.2.2.1, v0.2.2.2.2.2.2.2.2.2.2.2.2.2.2.2.2.2.1, v0.2.2.2.2.2.2.2.2.2.2.2.2.2.2.2.2.2.2.1, v0.2.2.2.2.2.2.2.2.2.2.2.2.2.2.2.2.2.2.2.1, v0.2.2.2.2.2.2.2.2.2.2.2.2.2.2.2.2.2.2.2.2.1, v0.2.2.2.2.2.2.2.2.2.2.2.2.2.2.2.2.2.2.2.2.2.1, v0.2.2.2.2.2.2.2.2.2.2.2.2.2.2.2.2.2.2.2.2.2.2)) := hD
    refine lv_aload_n hx hb d_Model_print_14 rfl (lv_at hl 0 rfl) ?_
    refine lv_iconst (v := 0) hx hb d_Model_print_15 (by decide) ?_
    refine va_put (D := D) (ci := 11) (v := .int (0 : Int32)) (ty := .boolean) (C := R_Model) (T := F_Model) (N := 23) hx hb htB in_Model t_Model t_Model_ok n_Model hown hK hP hD hS 0 rfl rfl 16 (by decide) (htB _ b_410) (fun _ h9 => h9) rfl (by decide +kernel) rfl rfl (Nat.le_of_ble_eq_true rfl) d_Model_print_16 (fun H locs hP hD hS => ?_)
    have hP : va_P D classes (wd_Model_print cC cI a0_0 a0_1 a0_2 a0_3 a0_4 a0_5 a0_6 a0_7 (v0.1, v0.2.1, v0.2.2.1, (0 : Int32), v0.2.2.2.2.1, v0.2.2.2.2.2.1, v0.2.2.2.2.2.2.1, v0.2.2.2.2.2.2.2.1, v0.2.2.2.2.2.2.2.2.1, v0.2.2.2.2.2.2.2.2.2.1, v0.2.2.2.2.2.2.2.2.2.2.1, v0.2.2.2.2.2.2.2.2.2.2.2.1, v0.2.2.2.2.2.2.2.2.2.2.2.2.1, v0.2.2.2.2.2.2.2.2.2.2.2.2.2.1, v0.2.2.2.2.2.2.2.2.2.2.2.2.2.2.1, v0.2.2.2.2.2.2.2.2.2.2.2.2.2.2.2.1, (0 : Int32), v0.2.2.2.2.2.2.2.2.2.2.2.2.2.2.2.2.2.1, v0.2.2.2.2.2.2.2.2.2.2.2.2.2.2.2.2.2.2.1, v0.2.2.2.2.2.2.2.2.2.2.2.2.2.2.2.2.2.2.2.1, v0.2.2.2.2.2.2.2.2.2.2.2.2.2.2.2.2.2.2.2.2.1, v0.2.2.2.2.2.2.2.2.2.2.2.2.2.2.2.2.2.2.2.2.2.1, v0.2.2.2.2.2.2.2.2.2.2.2.2.2.2.2.2.2.2.2.2.2.2)) H := hP
    have hD : va_D A (wd_Model_print cC cI a0_0 a0_1 a0_2 a0_3 a0_4 a0_5 a0_6 a0_7 (v0.1, v0.2.1, v0.2.2.1, (0 : Int32), v0.2.2.2.2.1, v0.2.2.2.2.2.1, v0.2.2.2.2.2.2.1, v0.2.2.2.2.2.2.2.1, v0.2.2.2.2.2.2.2.2.1, v0.2.2.2.2.2.2.2.2.2.1, v0.2.2.2.2.2.2.2.2.2.2.1, v0.2.2.2.2.2.2.2.2.2.2.2.1, v0.2.2.2.2.2.2.2.2.2.2.2.2.1, v0.2.2.2.2.2.2.2.2.2.2.2.2.2.1, v0.2.2.2.2.2.2.2.2.2.2.2.2.2.2.1, v0.2.2.2.2.2.2.2.2.2.2.2.2.2.2.2.1, (0 : Int32), v0.2.2.2.2.2.2.2.2.2.2.2.2.2.2.2.2.2.1, v0.2.2.2.2.2.2.2.2.2.2.2.2.2.2.2.2.2.2.1, v0.2.2.2.2.2.2.2.2.2.2.2.2.2.2.2.2.2.2.2.1, v0.2.2.2.2.2.2.2.2.2.2.2.2.2.2.2.2.2.2.2.2.1, v0.2.2.2.2.2.2.2.2.2.2.2.2.2.2.2.2.2.2.2.2.2.1, v0.2.2.2.2.2.2.2.2.2.2.2.2.2.2.2.2.2.2.2.2.2.2)) := hD
    refine lv_aload_n hx hb d_Model_print_19 rfl (lv_at hl 0 rfl) ?_
    refine lv_iconst (v := 0) hx hb d_Model_print_20 (by decide) ?_
    obtain ⟨o21, ho21, h⟩ := x_bnd h
    refine x_callv (ws2 := (wd_Model_print cC cI a0_0 a0_1 a0_2 a0_3 a0_4 a0_5 a0_6 a0_7 o21)) (x_runV (As := [.int (0 : Int32)]) (rest := []) X (c_Model_printAffix l D cC cI H.size a0_0 a0_1 a0_2 a0_3 a0_4 a0_5 a0_6 a0_7 (v0.1, v0.2.1, v0.2.2.1, (0 : Int32), v0.2.2.2.2.1, v0.2.2.2.2.2.1, v0.2.2.2.2.2.2.1, v0.2.2.2.2.2.2.2.1, v0.2.2.2.2.2.2.2.2.1, v0.2.2.2.2.2.2.2.2.2.1, v0.2.2.2.2.2.2.2.2.2.2.1, v0.2.2.2.2.2.2.2.2.2.2.2.1, v0.2.2.2.2.2.2.2.2.2.2.2.2.1, v0.2.2.2.2.2.2.2.2.2.2.2.2.2.1, v0.2.2.2.2.2.2.2.2.2.2.2.2.2.2.1, v0.2.2.2.2.2.2.2.2.2.2.2.2.2.2.2.1, (0 : Int32), v0.2.2.2.2.2.2.2.2.2.2.2.2.2.2.2.2.2.1, v0.2.2.2.2.2.2.2.2.2.2.2.2.2.2.2.2.2.2.1, v0.2.2.2.2.2.2.2.2.2.2.2.2.2.2.2.2.2.2.2.1, v0.2.2.2.2.2.2.2.2.2.2.2.2.2.2.2.2.2.2.2.2.1, v0.2.2.2.2.2.2.2.2.2.2.2.2.2.2.2.2.2.2.2.2.2.1, v0.2.2.2.2.2.2.2.2.2.2.2.2.2.2.2.2.2.2.2.2.2.2) (0 : Int32) o21 ho21) b_435 1 (htB _ b_438) (htB _ b_436) (htB _ b_437) (htB _ b_319) ⟨by decide, by decide, by decide +kernel⟩ ⟨(Nat.le_of_ble_eq_true rfl), (Nat.le_of_ble_eq_true rfl)⟩ 0 rfl rfl hP hD hS [0, 1, 2, 3, 4, 5, 6, 7] rfl (by decide) rfl rfl hl.1 rfl rfl (Nat.le_of_ble_eq_true rfl) d_Model_print_21) hP hD hS hA [0, 1, 2, 3, 4, 5, 6, 7] [] [0, 1, 2, 3, 4, 5, 6, 7] rfl rfl (by decide) (by decide) rfl (by decide) (fun H locs hP hD hS => ?_)
    refine lv_aload_n hx hb d_Model_print_24 rfl (lv_at hl 0 rfl) ?_
    obtain ⟨o25, ho25, h⟩ := x_bnd h
    refine x_callv (ws2 := (wd_Model_print cC cI a0_0 a0_1 a0_2 a0_3 a0_4 a0_5 a0_6 a0_7 o25)) (x_runV (As := []) (rest := []) X (c_Model_printNumber l D cC cI H.size a0_0 a0_1 a0_2 a0_3 a0_4 a0_5 a0_6 a0_7 o21 o25 ho25) b_439 0 (htB _ b_442) (htB _ b_440) (htB _ b_441) (htB _ b_319) ⟨by decide, by decide, by decide +kernel⟩ ⟨(Nat.le_of_ble_eq_true rfl), (Nat.le_of_ble_eq_true rfl)⟩ 0 rfl rfl hP hD hS [0, 1, 2, 3, 4, 5, 6, 7] rfl (by decide) rfl rfl hl.1 rfl rfl (Nat.le_of_ble_eq_true rfl) d_Model_print_25) hP hD hS hA [0, 1, 2, 3, 4, 5, 6, 7] [] [0, 1, 2, 3, 4, 5, 6, 7] rfl rfl (by decide) (by decide) rfl (by decide) (fun H locs hP hD hS => ?_)
    refine lv_aload_n hx hb d_Model_print_28 rfl (lv_at hl 0 rfl) ?_
    refine lv_iconst (v := 1) hx hb d_Model_print_29 (by decide) ?_
    obtain ⟨o30, ho30, h⟩ := x_bnd h
    refine x_callv (ws2 := (wd_Model_print cC cI a0_0 a0_1 a0_2 a0_3 a0_4 a0_5 a0_6 a0_7 o30)) (x_runV (As := [.int (1 : Int32)]) (rest := []) X (c_Model_printAffix l D cC cI H.size a0_0 a0_1 a0_2 a0_3 a0_4 a0_5 a0_6 a0_7 o25 (1 : Int32) o30 ho30) b_435 1 (htB _ b_438) (htB _ b_436) (htB _ b_437) (htB _ b_319) ⟨by decide, by decide, by decide +kernel⟩ ⟨(Nat.le_of_ble_eq_true rfl), (Nat.le_of_ble_eq_true rfl)⟩ 0 rfl rfl hP hD hS [0, 1, 2, 3, 4, 5, 6, 7] rfl (by decide) rfl rfl hl.1 rfl rfl (Nat.le_of_ble_eq_true rfl) d_Model_print_30) hP hD hS hA [0, 1, 2, 3, 4, 5, 6, 7] [] [0, 1, 2, 3, 4, 5, 6, 7] rfl rfl (by decide) (by decide) rfl (by decide) (fun H locs hP hD hS => ?_)
    refine lv_aload_n hx hb d_Model_print_33 rfl (lv_at hl 0 rfl) ?_
    refine va_get (D := D) (ci := 11) (v := .ref a0_5) (C := R_Model) (T := F_Model) (N := 23) hx hb htB in_Model hown hK hP 0 rfl rfl 8 (by decide) (htB _ b_330) (fun _ h9 => h9) rfl d_Model_print_34 ?_
    refine lv_bipush (v := 6) hx hb d_Model_print_37 (by decide) ?_
    refine va_iald hx hb hK hP 5 1 rfl rfl (show ¬ (((6 : Int32) : Int32) < 0 ∨ 7 ≤ ((6 : Int32) : Int32).toNatClampNeg) by decide) d_Model_print_39 ?_
    refine lv_iconst (v := 1) hx hb d_Model_print_40 (by decide) ?_
    refine lv_icmp_ne (tgt := 86) hx hb d_Model_print_41 rfl (fun hc => ?_) (fun hc => ?_)
    · have h := (if_neg hc).symm.trans h
      exact w_Model_print_86 X o30 ls H locs h (lv_sub hl [0] rfl) hP hD hS
    have h := (if_pos hc).symm.trans h
    refine lv_aload_n hx hb d_Model_print_44 rfl (lv_at hl 0 rfl) ?_
    refine lv_iconst (v := 2) hx hb d_Model_print_45 (by decide) ?_
    refine lv_iconst (v := 0) hx hb d_Model_print_46 (by decide) ?_
    refine lv_iconst (v := 1) hx hb d_Model_print_47 (by decide) ?_
    obtain ⟨o48, ho48, h⟩ := x_bnd h
    refine x_calli (r0 := o48) (ws2 := (wd_Model_print cC cI a0_0 a0_1 a0_2 a0_3 a0_4 a0_5 a0_6 a0_7 o30)) (x_runV (As := [.int (2 : Int32), .int (0 : Int32), .int (1 : Int32)]) (rest := []) X (c_Model_like l D cC cI H.size a0_0 a0_1 a0_2 a0_3 a0_4 a0_5 a0_6 a0_7 o30 (2 : Int32) (0 : Int32) (1 : Int32) o48 ho48) b_443 3 (htB _ b_446) (htB _ b_444) (htB _ b_445) (htB _ b_319) ⟨by decide, by decide, by decide +kernel⟩ ⟨(Nat.le_of_ble_eq_true rfl), (Nat.le_of_ble_eq_true rfl)⟩ 0 rfl rfl hP hD hS [0, 1, 2, 3, 4, 5, 6, 7] rfl (by decide) rfl rfl hl.1 rfl rfl (Nat.le_of_ble_eq_true rfl) d_Model_print_48) hP hD hS hA [0, 1, 2, 3, 4, 5, 6, 7] [] [0, 1, 2, 3, 4, 5, 6, 7] rfl rfl (by decide) (by decide) rfl (by decide) (fun H locs hP hD hS => ?_)
    refine lv_if_eq (tgt := 64) hx hb d_Model_print_51 rfl (fun hc => ?_) (fun hc => ?_)
    · have h := (if_pos hc).symm.trans h
      exact w_Model_print_64 X o30 ls H locs h (lv_sub hl [0] rfl) hP hD hS
    have h := (if_neg hc).symm.trans h
    refine lv_aload_n hx hb d_Model_print_54 rfl (lv_at hl 0 rfl) ?_
    refine lv_iconst (v := 3) hx hb d_Model_print_55 (by decide) ?_
    refine lv_iconst (v := 1) hx hb d_Model_print_56 (by decide) ?_
    refine lv_iconst (v := 0) hx hb d_Model_print_57 (by decide) ?_
    obtain ⟨o58, ho58, h⟩ := x_bnd h
    refine x_calli (r0 := o58) (ws2 := (wd_Model_print cC cI a0_0 a0_1 a0_2 a0_3 a0_4 a0_5 a0_6 a0_7 o30)) (x_runV (As := [.int (3 : Int32), .int (1 : Int32), .int (0 : Int32)]) (rest := []) X (c_Model_like l D cC cI H.size a0_0 a0_1 a0_2 a0_3 a0_4 a0_5 a0_6 a0_7 o30 (3 : Int32) (1 : Int32) (0 : Int32) o58 ho58) b_443 3 (htB _ b_446) (htB _ b_444) (htB _ b_445) (htB _ b_319) ⟨by decide, by decide, by decide +kernel⟩ ⟨(Nat.le_of_ble_eq_true rfl), (Nat.le_of_ble_eq_true rfl)⟩ 0 rfl rfl hP hD hS [0, 1, 2, 3, 4, 5, 6, 7] rfl (by decide) rfl rfl hl.1 rfl rfl (Nat.le_of_ble_eq_true rfl) d_Model_print_58) hP hD hS hA [0, 1, 2, 3, 4, 5, 6, 7] [] [0, 1, 2, 3, 4, 5, 6, 7] rfl rfl (by decide) (by decide) rfl (by decide) (fun H locs hP hD hS => ?_)
    refine lv_if_ne (tgt := 86) hx hb d_Model_print_61 rfl (fun hc => ?_) (fun hc => ?_)
    · have h := (if_neg hc).symm.trans h
      exact w_Model_print_86 X o30 ls H locs h (lv_sub hl [0] rfl) hP hD hS
    have h := (if_pos hc).symm.trans h
    exact w_Model_print_64 X o30 ls H locs h (lv_sub hl [0] rfl) hP hD hS
  have h := (if_pos hc).symm.trans h
  refine lv_iconst (v := -1) hx hb d_Model_print_7 (by decide) ?_
  obtain rfl := Option.some.inj h
  exact W.iret (v := (-1 : Int32)) hx hb hr (fun t ht hW => ⟨⟨(-1 : Int32), (), rfl, rfl, by rw [ht]; exact hP, hD⟩, hS.F ht⟩) hS.2.2 d_Model_print_8 hlocks

set_option maxHeartbeats 4000000 in
set_option maxRecDepth 100000 in
theorem c_Model_print (l : Launch) (D : va_G) (cC cI : ClassId) (sz : Nat) (a0_0 a0_1 a0_2 a0_3 a0_4 a0_5 a0_6 a0_7 : Nat) (v0 : T_Model) (out : O_Model_print) (h : f_Model_print v0 = some out) : Met l y_Model_print (.code y_Model_print b_Model_print 1 (some .int) :: BIG) rm_Model_print (va_Pc [.ref a0_0] (xPre D cC cI (wd_Model_print cC cI a0_0 a0_1 a0_2 a0_3 a0_4 a0_5 a0_6 a0_7 v0) sz)) (q_Model_print D cC cI a0_0 a0_1 a0_2 a0_3 a0_4 a0_5 a0_6 a0_7 out (va_A (wd_Model_print cC cI a0_0 a0_1 a0_2 a0_3 a0_4 a0_5 a0_6 a0_7 v0) sz)) 0 0 (va_A (wd_Model_print cC cI a0_0 a0_1 a0_2 a0_3 a0_4 a0_5 a0_6 a0_7 v0) sz) := by
  refine Met.ofW (cc := b_Model_print) (maxL := 1) (ret := (some .int)) (by decide) rfl ?_
  intro p e s m args below meth c s₁ B hml hv
  obtain ⟨rfl, rfl, hP, hD0, hG, hZ⟩ := hv
  have hl := lv_entry [.ref a0_0] (n := 1) (Nat.le_of_ble_eq_true rfl)
  rw [lg_entry_eq]
  exact w_Model_print (x_cx B hml hG hZ) v0 h hl hP hD0.self va_S.rf

abbrev wd_Model_digitAt (cC cI : ClassId) (a0_0 a0_1 a0_2 a0_3 a0_4 a0_5 a0_6 a0_7 : Nat) (v0 : T_Model) : va_W := [(a0_0, .inr (11, [.ref a0_1, .int v0.2.1, .ref a0_2, .int v0.2.2.2.1, .int v0.2.2.2.2.1, .int v0.2.2.2.2.2.1, .ref a0_3, .ref a0_4, .ref a0_5, .int v0.2.2.2.2.2.2.2.2.2.1, .int v0.2.2.2.2.2.2.2.2.2.2.1, .int v0.2.2.2.2.2.2.2.2.2.2.2.1, .int v0.2.2.2.2.2.2.2.2.2.2.2.2.1, .ref a0_6, .int v0.2.2.2.2.2.2.2.2.2.2.2.2.2.2.1, .int v0.2.2.2.2.2.2.2.2.2.2.2.2.2.2.2.1, .int v0.2.2.2.2.2.2.2.2.2.2.2.2.2.2.2.2.1, .ref a0_7, .long v0.2.2.2.2.2.2.2.2.2.2.2.2.2.2.2.2.2.2.1, .int v0.2.2.2.2.2.2.2.2.2.2.2.2.2.2.2.2.2.2.2.1, .long v0.2.2.2.2.2.2.2.2.2.2.2.2.2.2.2.2.2.2.2.2.1, .int v0.2.2.2.2.2.2.2.2.2.2.2.2.2.2.2.2.2.2.2.2.2.1, .int v0.2.2.2.2.2.2.2.2.2.2.2.2.2.2.2.2.2.2.2.2.2.2])), (a0_1, .inl (cC, 120, .inl v0.1)), (a0_2, .inl (cC, 200, .inl v0.2.2.1)), (a0_3, .inl (cI, 160, .inl v0.2.2.2.2.2.2.1)), (a0_4, .inl (cI, 4, .inl v0.2.2.2.2.2.2.2.1)), (a0_5, .inl (cI, 7, .inl v0.2.2.2.2.2.2.2.2.1)), (a0_6, .inl (cI, 40, .inl v0.2.2.2.2.2.2.2.2.2.2.2.2.2.1)), (a0_7, .inl (cI, 6, .inl v0.2.2.2.2.2.2.2.2.2.2.2.2.2.2.2.2.2.1))]
abbrev O_Model_digitAt : Type := Int32
abbrev q_Model_digitAt (D : va_G) (cC cI : ClassId) (a0_0 a0_1 a0_2 a0_3 a0_4 a0_5 a0_6 a0_7 : Nat) (v0 : T_Model) (out : O_Model_digitAt) (A : Nat → Prop) : Array Value → State → Outcome → State → Prop := va_Qi (fun r (_ : Unit) => r = out) (fun _ t => va_P D classes (wd_Model_digitAt cC cI a0_0 a0_1 a0_2 a0_3 a0_4 a0_5 a0_6 a0_7 v0) t.heap ∧ va_D A (wd_Model_digitAt cC cI a0_0 a0_1 a0_2 a0_3 a0_4 a0_5 a0_6 a0_7 v0)) A
abbrev rm_Model_digitAt : Room := { frames := 0, cells := 0, slots := 0, locals := 0 }
def J_Model_digitAt_31 (p : Program) (l : Launch) (e : Env) (s : State) (m : MethodId) (args : Array Value) (below : List Frame) (meth : Method) (c : Code) (A : Nat → Prop) (D : va_G) (cC cI : ClassId) (a0_0 a0_1 a0_2 a0_3 a0_4 a0_5 a0_6 a0_7 : Nat) (v0 : T_Model) (out : O_Model_digitAt) (k : Option O_Model_digitAt) : Prop := ∀  (ls : Array Slot) (H : Heap) (locs : List Loc), k  = some out → lv_has ls 3 [] → va_P D classes (wd_Model_digitAt cC cI a0_0 a0_1 a0_2 a0_3 a0_4 a0_5 a0_6 a0_7 v0) H → va_D A (wd_Model_digitAt cC cI a0_0 a0_1 a0_2 a0_3 a0_4 a0_5 a0_6 a0_7 v0) → va_S A s.heap H locs → W p l e rm_Model_digitAt s m args below meth c H locs 0 0 (MQ below (q_Model_digitAt D cC cI a0_0 a0_1 a0_2 a0_3 a0_4 a0_5 a0_6 a0_7 v0 out A) args s 0 0 A) (F0 m 31 ls [])
def J_Model_digitAt_32 (p : Program) (l : Launch) (e : Env) (s : State) (m : MethodId) (args : Array Value) (below : List Frame) (meth : Method) (c : Code) (A : Nat → Prop) (D : va_G) (cC cI : ClassId) (a0_0 a0_1 a0_2 a0_3 a0_4 a0_5 a0_6 a0_7 : Nat) (v0 : T_Model) (out : O_Model_digitAt) (k : Int32 → Option O_Model_digitAt) : Prop := ∀ (s0 : Int32) (ls : Array Slot) (H : Heap) (locs : List Loc), k s0 = some out → lv_has ls 3 [] → va_P D classes (wd_Model_digitAt cC cI a0_0 a0_1 a0_2 a0_3 a0_4 a0_5 a0_6 a0_7 v0) H → va_D A (wd_Model_digitAt cC cI a0_0 a0_1 a0_2 a0_3 a0_4 a0_5 a0_6 a0_7 v0) → va_S A s.heap H locs → W p l e rm_Model_digitAt s m args below meth c H locs 0 0 (MQ below (q_Model_digitAt D cC cI a0_0 a0_1 a0_2 a0_3 a0_4 a0_5 a0_6 a0_7 v0 out A) args s 0 0 A) (F0 m 32 ls [.int s0])
def f_Model_digitAt_32 (v0 : T_Model) (s0 : Int32) : Option O_Model_digitAt := if (s0 = 0 ∨ s0 = 1) then some s0 else none
set_option maxHeartbeats 4000000 in
set_option maxRecDepth 100000 in
theorem w_Model_digitAt_32 {p : Program} {l : Launch} {e : Env} {s : State} {m : MethodId} {args : Array Value} {below : List Frame} {meth : Method} {c : Code} {A : Nat → Prop} {D : va_G} {cC cI : ClassId} {a0_0 a0_1 a0_2 a0_3 a0_4 a0_5 a0_6 a0_7 : Nat} {v0 : T_Model} (X : xCX p s m args meth c A D cC cI b_Model_digitAt 3 R_Model (some .boolean)) {out : O_Model_digitAt}   : J_Model_digitAt_32 p l e s m args below meth c A D cC cI a0_0 a0_1 a0_2 a0_3 a0_4 a0_5 a0_6 a0_7 v0 out (f_Model_digitAt_32 v0 ) := by
  obtain ⟨hx, hb, hml, hown, htB, ⟨hK, hN⟩, hZ, hA, hr, hlocks⟩ := id X
  intro s0 ls H locs h hl hP hD hS
  obtain ⟨hc, h⟩ := x_chk h
  obtain rfl := Option.some.inj h
  exact W.zret (v := s0) (ty := .boolean) hx hb hr (x_zn hc) (fun t ht hW => ⟨⟨s0, (), rfl, rfl, by rw [ht]; exact hP, hD⟩, hS.F ht⟩) hS.2.2 d_Model_digitAt_32 hlocks

def f_Model_digitAt_31 (v0 : T_Model) : Option O_Model_digitAt := f_Model_digitAt_32 v0 (0 : Int32)
set_option maxHeartbeats 4000000 in
set_option maxRecDepth 100000 in
theorem w_Model_digitAt_31 {p : Program} {l : Launch} {e : Env} {s : State} {m : MethodId} {args : Array Value} {below : List Frame} {meth : Method} {c : Code} {A : Nat → Prop} {D : va_G} {cC cI : ClassId} {a0_0 a0_1 a0_2 a0_3 a0_4 a0_5 a0_6 a0_7 : Nat} {v0 : T_Model} (X : xCX p s m args meth c A D cC cI b_Model_digitAt 3 R_Model (some .boolean)) {out : O_Model_digitAt}   : J_Model_digitAt_31 p l e s m args below meth c A D cC cI a0_0 a0_1 a0_2 a0_3 a0_4 a0_5 a0_6 a0_7 v0 out (f_Model_digitAt_31 v0 ) := by
  obtain ⟨hx, hb, hml, hown, htB, ⟨hK, hN⟩, hZ, hA, hr, hlocks⟩ := id X
  intro  ls H locs h hl hP hD hS
  refine lv_iconst (v := 0) hx hb d_Model_digitAt_31 (by decide) ?_
  exact w_Model_digitAt_32 X (0 : Int32) ls H locs h (lv_sub hl [] rfl) hP hD hS

def f_Model_digitAt (v0 : T_Model) (v1 : Int32) (v2 : Int32) : Option O_Model_digitAt := (if v2 ≤ v1 then f_Model_digitAt_31 v0 else if ix v1 120 then (if (v0.1 v1.toNatClampNeg) < (48 : Int32) then f_Model_digitAt_31 v0 else if ix v1 120 then (if (57 : Int32) < (v0.1 v1.toNatClampNeg) then f_Model_digitAt_31 v0 else f_Model_digitAt_32 v0 (1 : Int32)) else none) else none)
set_option maxHeartbeats 4000000 in
set_option maxRecDepth 100000 in
theorem w_Model_digitAt {p : Program} {l : Launch} {e : Env} {s : State} {m : MethodId} {args : Array Value} {below : List Frame} {meth : Method} {c : Code} {A : Nat → Prop} {D : va_G} {cC cI : ClassId} {a0_0 a0_1 a0_2 a0_3 a0_4 a0_5 a0_6 a0_7 : Nat} {v0 : T_Model} (X : xCX p s m args meth c A D cC cI b_Model_digitAt 3 R_Model (some .boolean)) {out : O_Model_digitAt} (v1 : Int32) (v2 : Int32) {ls : Array Slot} {H : Heap} {locs : List Loc} (h : f_Model_digitAt v0 v1 v2 = some out) (hl : lv_has ls 3 [(0, .ref a0_0), (1, .int v1), (2, .int v2)]) (hP : va_P D classes (wd_Model_digitAt cC cI a0_0 a0_1 a0_2 a0_3 a0_4 a0_5 a0_6 a0_7 v0) H) (hD : va_D A (wd_Model_digitAt cC cI a0_0 a0_1 a0_2 a0_3 a0_4 a0_5 a0_6 a0_7 v0)) (hS : va_S A s.heap H locs) : W p l e rm_Model_digitAt s m args below meth c H locs 0 0 (MQ below (q_Model_digitAt D cC cI a0_0 a0_1 a0_2 a0_3 a0_4 a0_5 a0_6 a0_7 v0 out A) args s 0 0 A) (F0 m 0 ls []) := by
  obtain ⟨hx, hb, hml, hown, htB, ⟨hK, hN⟩, hZ, hA, hr, hlocks⟩ := id X
  refine lv_iload_n hx hb d_Model_digitAt_0 rfl (lv_at hl 1 rfl) ?_
  refine lv_iload_n hx hb d_Model_digitAt_1 rfl (lv_at hl 2 rfl) ?_
  refine lv_icmp_ge (tgt := 31) hx hb d_Model_digitAt_2 rfl (fun hc => ?_) (fun hc => ?_)
  · have h := (if_pos hc).symm.trans h
    exact w_Model_digitAt_31 X ls H locs h (lv_sub hl [] rfl) hP hD hS
  have h := (if_neg hc).symm.trans h
  refine lv_aload_n hx hb d_Model_digitAt_5 rfl (lv_at hl 0 rfl) ?_
  refine va_get (D := D) (ci := 11) (v := .ref a0_1) (C := R_Model) (T := F_Model) (N := 23) hx hb htB in_Model hown hK hP 0 rfl rfl 0 (by decide) (htB _ b_310) (fun _ h9 => h9) rfl d_Model_digitAt_6 ?_
  refine lv_iload_n hx hb d_Model_digitAt_9 rfl (lv_at hl 1 rfl) ?_
  obtain ⟨hc, h⟩ := x_chk h
  refine va_cald hx hb hK hP 1 0 rfl rfl hc d_Model_digitAt_10 ?_
  refine lv_bipush (v := 48) hx hb d_Model_digitAt_11 (by decide) ?_
  refine lv_icmp_lt (tgt := 31) hx hb d_Model_digitAt_13 rfl (fun hc => ?_) (fun hc => ?_)
  · have h := (if_pos hc).symm.trans h
    exact w_Model_digitAt_31 X ls H locs h (lv_sub hl [] rfl) hP hD hS
  have h := (if_neg hc).symm.trans h
  refine lv_aload_n hx hb d_Model_digitAt_16 rfl (lv_at hl 0 rfl) ?_
  refine va_get (D := D) (ci := 11) (v := .ref a0_1) (C := R_Model) (T := F_Model) (N := 23) hx hb htB in_Model hown hK hP 0 rfl rfl 0 (by decide) (htB _ b_310) (fun _ h9 => h9) rfl d_Model_digitAt_17 ?_
  refine lv_iload_n hx hb d_Model_digitAt_20 rfl (lv_at hl 1 rfl) ?_
  obtain ⟨hc, h⟩ := x_chk h
  refine va_cald hx hb hK hP 1 0 rfl rfl hc d_Model_digitAt_21 ?_
  refine lv_bipush (v := 57) hx hb d_Model_digitAt_22 (by decide) ?_
  refine lv_icmp_gt (tgt := 31) hx hb d_Model_digitAt_24 rfl (fun hc => ?_) (fun hc => ?_)
  · have h := (if_pos hc).symm.trans h
    exact w_Model_digitAt_31 X ls H locs h (lv_sub hl [] rfl) hP hD hS
  have h := (if_neg hc).symm.trans h
  refine lv_iconst (v := 1) hx hb d_Model_digitAt_27 (by decide) ?_
  refine lv_goto (tgt := 32) hx hb d_Model_digitAt_28 rfl ?_
  exact w_Model_digitAt_32 X (1 : Int32) ls H locs h (lv_sub hl [] rfl) hP hD hS

set_option maxHeartbeats 4000000 in
set_option maxRecDepth 100000 in
theorem c_Model_digitAt (l : Launch) (D : va_G) (cC cI : ClassId) (sz : Nat) (a0_0 a0_1 a0_2 a0_3 a0_4 a0_5 a0_6 a0_7 : Nat) (v0 : T_Model) (v1 : Int32) (v2 : Int32) (out : O_Model_digitAt) (h : f_Model_digitAt v0 v1 v2 = some out) : Met l y_Model_digitAt (.code y_Model_digitAt b_Model_digitAt 3 (some .boolean) :: BIG) rm_Model_digitAt (va_Pc [.ref a0_0, .int v1, .int v2] (xPre D cC cI (wd_Model_digitAt cC cI a0_0 a0_1 a0_2 a0_3 a0_4 a0_5 a0_6 a0_7 v0) sz)) (q_Model_digitAt D cC cI a0_0 a0_1 a0_2 a0_3 a0_4 a0_5 a0_6 a0_7 v0 out (va_A (wd_Model_digitAt cC cI a0_0 a0_1 a0_2 a0_3 a0_4 a0_5 a0_6 a0_7 v0) sz)) 0 0 (va_A (wd_Model_digitAt cC cI a0_0 a0_1 a0_2 a0_3 a0_4 a0_5 a0_6 a0_7 v0) sz) := by
  refine Met.ofW (cc := b_Model_digitAt) (maxL := 3) (ret := (some .boolean)) (by decide) rfl ?_
  intro p e s m args below meth c s₁ B hml hv
  obtain ⟨rfl, rfl, hP, hD0, hG, hZ⟩ := hv
  have hl := lv_entry [.ref a0_0, .int v1, .int v2] (n := 3) (Nat.le_of_ble_eq_true rfl)
  rw [lg_entry_eq]
  exact w_Model_digitAt (x_cx B hml hG hZ) v1 v2 h hl hP hD0.self va_S.rf

abbrev wd_Model_body (cC cI : ClassId) (a0_0 a0_1 a0_2 a0_3 a0_4 a0_5 a0_6 a0_7 : Nat) (v0 : T_Model) : va_W := [(a0_0, .inr (11, [.ref a0_1, .int v0.2.1, .ref a0_2, .int v0.2.2.2.1, .int v0.2.2.2.2.1, .int v0.2.2.2.2.2.1, .ref a0_3, .ref a0_4, .ref a0_5, .int v0.2.2.2.2.2.2.2.2.2.1, .int v0.2.2.2.2.2.2.2.2.2.2.1, .int v0.2.2.2.2.2.2.2.2.2.2.2.1, .int v0.2.2.2.2.2.2.2.2.2.2.2.2.1, .ref a0_6, .int v0.2.2.2.2.2.2.2.2.2.2.2.2.2.2.1, .int v0.2.2.2.2.2.2.2.2.2.2.2.2.2.2.2.1, .int v0.2.2.2.2.2.2.2.2.2.2.2.2.2.2.2.2.1, .ref a0_7, .long v0.2.2.2.2.2.2.2.2.2.2.2.2.2.2.2.2.2.2.1, .int v0.2.2.2.2.2.2.2.2.2.2.2.2.2.2.2.2.2.2.2.1, .long v0.2.2.2.2.2.2.2.2.2.2.2.2.2.2.2.2.2.2.2.2.1, .int v0.2.2.2.2.2.2.2.2.2.2.2.2.2.2.2.2.2.2.2.2.2.1, .int v0.2.2.2.2.2.2.2.2.2.2.2.2.2.2.2.2.2.2.2.2.2.2])), (a0_1, .inl (cC, 120, .inl v0.1)), (a0_2, .inl (cC, 200, .inl v0.2.2.1)), (a0_3, .inl (cI, 160, .inl v0.2.2.2.2.2.2.1)), (a0_4, .inl (cI, 4, .inl v0.2.2.2.2.2.2.2.1)), (a0_5, .inl (cI, 7, .inl v0.2.2.2.2.2.2.2.2.1)), (a0_6, .inl (cI, 40, .inl v0.2.2.2.2.2.2.2.2.2.2.2.2.2.1)), (a0_7, .inl (cI, 6, .inl v0.2.2.2.2.2.2.2.2.2.2.2.2.2.2.2.2.2.1))]
abbrev O_Model_body : Type := Int32 × T_Model
abbrev q_Model_body (D : va_G) (cC cI : ClassId) (a0_0 a0_1 a0_2 a0_3 a0_4 a0_5 a0_6 a0_7 : Nat)  (out : O_Model_body) (A : Nat → Prop) : Array Value → State → Outcome → State → Prop := va_Qi (fun r (_ : Unit) => r = out.1) (fun _ t => va_P D classes (wd_Model_body cC cI a0_0 a0_1 a0_2 a0_3 a0_4 a0_5 a0_6 a0_7 out.2) t.heap ∧ va_D A (wd_Model_body cC cI a0_0 a0_1 a0_2 a0_3 a0_4 a0_5 a0_6 a0_7 out.2)) A
abbrev rm_Model_body : Room := { frames := 1, cells := 0, slots := 0, locals := 22 }
def J_Model_body_28 (p : Program) (l : Launch) (e : Env) (s : State) (m : MethodId) (args : Array Value) (below : List Frame) (meth : Method) (c : Code) (A : Nat → Prop) (D : va_G) (cC cI : ClassId) (a0_0 a0_1 a0_2 a0_3 a0_4 a0_5 a0_6 a0_7 : Nat) (out : O_Model_body) (k : T_Model → Int32 → Int32 → Int64 → Int32 → Int32 → Int32 → Int32 → Int32 → Int32 → Int32 → Option O_Model_body) : Prop := ∀ (v0 : T_Model) (x1 : Int32) (x2 : Int32) (x3 : Int64) (x5 : Int32) (x6 : Int32) (x7 : Int32) (x8 : Int32) (x9 : Int32) (x10 : Int32) (x11 : Int32) (ls : Array Slot) (H : Heap) (locs : List Loc), k v0 x1 x2 x3 x5 x6 x7 x8 x9 x10 x11 = some out → lv_has ls 16 [(0, .ref a0_0), (1, .int x1), (2, .int x2), (3, .long x3), (5, .int x5), (6, .int x6), (7, .int x7), (8, .int x8), (9, .int x9), (10, .int x10), (11, .int x11)] → va_P D classes (wd_Model_body cC cI a0_0 a0_1 a0_2 a0_3 a0_4 a0_5 a0_6 a0_7 v0) H → va_D A (wd_Model_body cC cI a0_0 a0_1 a0_2 a0_3 a0_4 a0_5 a0_6 a0_7 v0) → va_S A s.heap H locs → W p l e rm_Model_body s m args below meth c H locs 0 0 (MQ below (q_Model_body D cC cI a0_0 a0_1 a0_2 a0_3 a0_4 a0_5 a0_6 a0_7 out A) args s 0 0 A) (F0 m 28 ls [])
def J_Model_body_338 (p : Program) (l : Launch) (e : Env) (s : State) (m : MethodId) (args : Array Value) (below : List Frame) (meth : Method) (c : Code) (A : Nat → Prop) (D : va_G) (cC cI : ClassId) (a0_0 a0_1 a0_2 a0_3 a0_4 a0_5 a0_6 a0_7 : Nat) (out : O_Model_body) (k : T_Model → Int32 → Int64 → Int32 → Int32 → Int32 → Int32 → Int32 → Option O_Model_body) : Prop := ∀ (v0 : T_Model) (x2 : Int32) (x3 : Int64) (x6 : Int32) (x7 : Int32) (x10 : Int32) (x12 : Int32) (s0 : Int32) (ls : Array Slot) (H : Heap) (locs : List Loc), k v0 x2 x3 x6 x7 x10 x12 s0 = some out → lv_has ls 16 [(0, .ref a0_0), (2, .int x2), (3, .long x3), (6, .int x6), (7, .int x7), (10, .int x10), (12, .int x12)] → va_P D classes (wd_Model_body cC cI a0_0 a0_1 a0_2 a0_3 a0_4 a0_5 a0_6 a0_7 v0) H → va_D A (wd_Model_body cC cI a0_0 a0_1 a0_2 a0_3 a0_4 a0_5 a0_6 a0_7 v0) → va_S A s.heap H locs → W p l e rm_Model_body s m args below meth c H locs 0 0 (MQ below (q_Model_body D cC cI a0_0 a0_1 a0_2 a0_3 a0_4 a0_5 a0_6 a0_7 out A) args s 0 0 A) (F0 m 338 ls [.int s0])
def J_Model_body_510 (p : Program) (l : Launch) (e : Env) (s : State) (m : MethodId) (args : Array Value) (below : List Frame) (meth : Method) (c : Code) (A : Nat → Prop) (D : va_G) (cC cI : ClassId) (a0_0 a0_1 a0_2 a0_3 a0_4 a0_5 a0_6 a0_7 : Nat) (out : O_Model_body) (k : T_Model → Int32 → Int64 → Int32 → Int32 → Int32 → Int32 → Int32 → Option O_Model_body) : Prop := ∀ (v0 : T_Model) (x2 : Int32) (x3 : Int64) (x6 : Int32) (x7 : Int32) (x10 : Int32) (x12 : Int32) (x13 : Int32) (ls : Array Slot) (H : Heap) (locs : List Loc), k v0 x2 x3 x6 x7 x10 x12 x13 = some out → lv_has ls 16 [(0, .ref a0_0), (2, .int x2), (3, .long x3), (6, .int x6), (7, .int x7), (10, .int x10), (12, .int x12), (13, .int x13)] → va_P D classes (wd_Model_body cC cI a0_0 a0_1 a0_2 a0_3 a0_4 a0_5 a0_6 a0_7 v0) H → va_D A (wd_Model_body cC cI a0_0 a0_1 a0_2 a0_3 a0_4 a0_5 a0_6 a0_7 v0) → va_S A s.heap H locs → W p l e rm_Model_body s m args below meth c H locs 0 0 (MQ below (q_Model_body D cC cI a0_0 a0_1 a0_2 a0_3 a0_4 a0_5 a0_6 a0_7 out A) args s 0 0 A) (F0 m 510 ls [])
def J_Model_body_533 (p : Program) (l : Launch) (e : Env) (s : State) (m : MethodId) (args : Array Value) (below : List Frame) (meth : Method) (c : Code) (A : Nat → Prop) (D : va_G) (cC cI : ClassId) (a0_0 a0_1 a0_2 a0_3 a0_4 a0_5 a0_6 a0_7 : Nat) (out : O_Model_body) (k : T_Model → Int32 → Int32 → Int32 → Int32 → Int32 → Int32 → Option O_Model_body) : Prop := ∀ (v0 : T_Model) (x2 : Int32) (x6 : Int32) (x7 : Int32) (x10 : Int32) (x12 : Int32) (x13 : Int32) (ls : Array Slot) (H : Heap) (locs : List Loc), k v0 x2 x6 x7 x10 x12 x13 = some out → lv_has ls 16 [(0, .ref a0_0), (2, .int x2), (6, .int x6), (7, .int x7), (10, .int x10), (12, .int x12), (13, .int x13)] → va_P D classes (wd_Model_body cC cI a0_0 a0_1 a0_2 a0_3 a0_4 a0_5 a0_6 a0_7 v0) H → va_D A (wd_Model_body cC cI a0_0 a0_1 a0_2 a0_3 a0_4 a0_5 a0_6 a0_7 v0) → va_S A s.heap H locs → W p l e rm_Model_body s m args below meth c H locs 0 0 (MQ below (q_Model_body D cC cI a0_0 a0_1 a0_2 a0_3 a0_4 a0_5 a0_6 a0_7 out A) args s 0 0 A) (F0 m 533 ls [.ref a0_0])
def J_Model_body_557 (p : Program) (l : Launch) (e : Env) (s : State) (m : MethodId) (args : Array Value) (below : List Frame) (meth : Method) (c : Code) (A : Nat → Prop) (D : va_G) (cC cI : ClassId) (a0_0 a0_1 a0_2 a0_3 a0_4 a0_5 a0_6 a0_7 : Nat) (out : O_Model_body) (k : T_Model → Int32 → Int32 → Int32 → Int32 → Int32 → Option O_Model_body) : Prop := ∀ (v0 : T_Model) (x2 : Int32) (x10 : Int32) (x13 : Int32) (s1 : Int32) (s2 : Int32) (ls : Array Slot) (H : Heap) (locs : List Loc), k v0 x2 x10 x13 s1 s2 = some out → lv_has ls 16 [(2, .int x2), (10, .int x10), (13, .int x13)] → va_P D classes (wd_Model_body cC cI a0_0 a0_1 a0_2 a0_3 a0_4 a0_5 a0_6 a0_7 v0) H → va_D A (wd_Model_body cC cI a0_0 a0_1 a0_2 a0_3 a0_4 a0_5 a0_6 a0_7 v0) → va_S A s.heap H locs → W p l e rm_Model_body s m args below meth c H locs 0 0 (MQ below (q_Model_body D cC cI a0_0 a0_1 a0_2 a0_3 a0_4 a0_5 a0_6 a0_7 out A) args s 0 0 A) (F0 m 557 ls [.int s2, .int s1, .ref a0_0])
def J_Model_body_558 (p : Program) (l : Launch) (e : Env) (s : State) (m : MethodId) (args : Array Value) (below : List Frame) (meth : Method) (c : Code) (A : Nat → Prop) (D : va_G) (cC cI : ClassId) (a0_0 a0_1 a0_2 a0_3 a0_4 a0_5 a0_6 a0_7 : Nat) (out : O_Model_body) (k : T_Model → Int32 → Int32 → Int32 → Int32 → Option O_Model_body) : Prop := ∀ (v0 : T_Model) (x2 : Int32) (x10 : Int32) (x13 : Int32) (s1 : Int32) (ls : Array Slot) (H : Heap) (locs : List Loc), k v0 x2 x10 x13 s1 = some out → lv_has ls 16 [(2, .int x2), (10, .int x10), (13, .int x13)] → va_P D classes (wd_Model_body cC cI a0_0 a0_1 a0_2 a0_3 a0_4 a0_5 a0_6 a0_7 v0) H → va_D A (wd_Model_body cC cI a0_0 a0_1 a0_2 a0_3 a0_4 a0_5 a0_6 a0_7 v0) → va_S A s.heap H locs → W p l e rm_Model_body s m args below meth c H locs 0 0 (MQ below (q_Model_body D cC cI a0_0 a0_1 a0_2 a0_3 a0_4 a0_5 a0_6 a0_7 out A) args s 0 0 A) (F0 m 558 ls [.int s1, .ref a0_0])
def J_Model_body_576 (p : Program) (l : Launch) (e : Env) (s : State) (m : MethodId) (args : Array Value) (below : List Frame) (meth : Method) (c : Code) (A : Nat → Prop) (D : va_G) (cC cI : ClassId) (a0_0 a0_1 a0_2 a0_3 a0_4 a0_5 a0_6 a0_7 : Nat) (out : O_Model_body) (k : T_Model → Option O_Model_body) : Prop := ∀ (v0 : T_Model) (ls : Array Slot) (H : Heap) (locs : List Loc), k v0 = some out → lv_has ls 16 [] → va_P D classes (wd_Model_body cC cI a0_0 a0_1 a0_2 a0_3 a0_4 a0_5 a0_6 a0_7 v0) H → va_D A (wd_Model_body cC cI a0_0 a0_1 a0_2 a0_3 a0_4 a0_5 a0_6 a0_7 v0) → va_S A s.heap H locs → W p l e rm_Model_body s m args below meth c H locs 0 0 (MQ below (q_Model_body D cC cI a0_0 a0_1 a0_2 a0_3 a0_4 a0_5 a0_6 a0_7 out A) args s 0 0 A) (F0 m 576 ls [])
def J_Model_body_577 (p : Program) (l : Launch) (e : Env) (s : State) (m : MethodId) (args : Array Value) (below : List Frame) (meth : Method) (c : Code) (A : Nat → Prop) (D : va_G) (cC cI : ClassId) (a0_0 a0_1 a0_2 a0_3 a0_4 a0_5 a0_6 a0_7 : Nat) (out : O_Model_body) (k : T_Model → Int32 → Option O_Model_body) : Prop := ∀ (v0 : T_Model) (s0 : Int32) (ls : Array Slot) (H : Heap) (locs : List Loc), k v0 s0 = some out → lv_has ls 16 [] → va_P D classes (wd_Model_body cC cI a0_0 a0_1 a0_2 a0_3 a0_4 a0_5 a0_6 a0_7 v0) H → va_D A (wd_Model_body cC cI a0_0 a0_1 a0_2 a0_3 a0_4 a0_5 a0_6 a0_7 v0) → va_S A s.heap H locs → W p l e rm_Model_body s m args below meth c H locs 0 0 (MQ below (q_Model_body D cC cI a0_0 a0_1 a0_2 a0_3 a0_4 a0_5 a0_6 a0_7 out A) args s 0 0 A) (F0 m 577 ls [.int s0])
def f_Model_body_577 (v0 : T_Model) (s0 : Int32) : Option O_Model_body := if (s0 = 0 ∨ s0 = 1) then some (s0, v0) else none
set_option maxHeartbeats 4000000 in
set_option maxRecDepth 100000 in
theorem w_Model_body_577 {p : Program} {l : Launch} {e : Env} {s : State} {m : MethodId} {args : Array Value} {below : List Frame} {meth : Method} {c : Code} {A : Nat → Prop} {D : va_G} {cC cI : ClassId} {a0_0 a0_1 a0_2 a0_3 a0_4 a0_5 a0_6 a0_7 : Nat} (X : xCX p s m args meth c A D cC cI b_Model_body 16 R_Model (some .boolean)) {out : O_Model_body}   : J_Model_body_577 p l e s m args below meth c A D cC cI a0_0 a0_1 a0_2 a0_3 a0_4 a0_5 a0_6 a0_7 out (f_Model_body_577  ) := by
  obtain ⟨hx, hb, hml, hown, htB, ⟨hK, hN⟩, hZ, hA, hr, hlocks⟩ := id X
  intro v0 s0 ls H locs h hl hP hD hS
  obtain ⟨hc, h⟩ := x_chk h
  obtain rfl := Option.some.inj h
  exact W.zret (v := s0) (ty := .boolean) hx hb hr (x_zn hc) (fun t ht hW => ⟨⟨s0, (), rfl, rfl, by rw [ht]; exact hP, hD⟩, hS.F ht⟩) hS.2.2 d_Model_body_577 hlocks

def f_Model_body_576 (v0 : T_Model) : Option O_Model_body := f_Model_body_577 v0 (0 : Int32)
set_option maxHeartbeats 4000000 in
set_option maxRecDepth 100000 in
theorem w_Model_body_576 {p : Program} {l : Launch} {e : Env} {s : State} {m : MethodId} {args : Array Value} {below : List Frame} {meth : Method} {c : Code} {A : Nat → Prop} {D : va_G} {cC cI : ClassId} {a0_0 a0_1 a0_2 a0_3 a0_4 a0_5 a0_6 a0_7 : Nat} (X : xCX p s m args meth c A D cC cI b_Model_body 16 R_Model (some .boolean)) {out : O_Model_body}   : J_Model_body_576 p l e s m args below meth c A D cC cI a0_0 a0_1 a0_2 a0_3 a0_4 a0_5 a0_6 a0_7 out (f_Model_body_576  ) := by
  obtain ⟨hx, hb, hml, hown, htB, ⟨hK, hN⟩, hZ, hA, hr, hlocks⟩ := id X
  intro v0 ls H locs h hl hP hD hS
  refine lv_iconst (v := 0) hx hb d_Model_body_576 (by decide) ?_
  exact w_Model_body_577 X v0 (0 : Int32) ls H locs h (lv_sub hl [] rfl) hP hD hS

def f_Model_body_558 (v0 : T_Model) (x2 : Int32) (x10 : Int32) (x13 : Int32) (s1 : Int32) : Option O_Model_body := (if x13 = 0 then f_Model_body_576 (v0.1, v0.2.1, v0.2.2.1, v0.2.2.2.1, v0.2.2.2.2.1, v0.2.2.2.2.2.1, v0.2.2.2.2.2.2.1, v0.2.2.2.2.2.2.2.1, v0.2.2.2.2.2.2.2.2.1, v0.2.2.2.2.2.2.2.2.2.1, v0.2.2.2.2.2.2.2.2.2.2.1, v0.2.2.2.2.2.2.2.2.2.2.2.1, v0.2.2.2.2.2.2.2.2.2.2.2.2.1, v0.2.2.2.2.2.2.2.2.2.2.2.2.2.1, v0.2.2.2.2.2.2.2.2.2.2.2.2.2.2.1, v0.2.2.2.2.2.2.2.2.2.2.2.2.2.2.2.1, v0.2.2.2.2.2.2.2.2.2.2.2.2.2.2.2.2.1, v0.2.2.2.2.2.2.2.2.2.2.2.2.2.2.2.2.2.1, v0.2.2.2.2.2.2.2.2.2.2.2.2.2.2.2.2.2.2.1, v0.2.2.2.2.2.2.2.2.2.2.2.2.2.2.2.2.2.2.2.1, v0.2.2.2.2.2.2.2.2.2.2.2.2.2.2.2.2.2.2.2.2.1, s1, v0.2.2.2.2.2.2.2.2.2.2.2.2.2.2.2.2.2.2.2.2.2.2) else (if x10 = x2 then f_Model_body_577 (v0.1, v0.2.1, v0.2.2.1, v0.2.2.2.1, v0.2.2.2.2.1, v0.2.2.2.2.2.1, v0.2.2.2.2.2.2.1, v0.2.2.2.2.2.2.2.1, v0.2.2.2.2.2.2.2.2.1, v0.2.2.2.2.2.2.2.2.2.1, v0.2.2.2.2.2.2.2.2.2.2.1, v0.2.2.2.2.2.2.2.2.2.2.2.1, v0.2.2.2.2.2.2.2.2.2.2.2.2.1, v0.2.2.2.2.2.2.2.2.2.2.2.2.2.1, v0.2.2.2.2.2.2.2.2.2.2.2.2.2.2.1, v0.2.2.2.2.2.2.2.2.2.2.2.2.2.2.2.1, v0.2.2.2.2.2.2.2.2.2.2.2.2.2.2.2.2.1, v0.2.2.2.2.2.2.2.2.2.2.2.2.2.2.2.2.2.1, v0.2.2.2.2.2.2.2.2.2.2.2.2.2.2.2.2.2.2.1, v0.2.2.2.2.2.2.2.2.2.2.2.2.2.2.2.2.2.2.2.1, v0.2.2.2.2.2.2.2.2.2.2.2.2.2.2.2.2.2.2.2.2.1, s1, v0.2.2.2.2.2.2.2.2.2.2.2.2.2.2.2.2.2.2.2.2.2.2) (1 : Int32) else f_Model_body_576 (v0.1, v0.2.1, v0.2.2.1, v0.2.2.2.1, v0.2.2.2.2.1, v0.2.2.2.2.2.1, v0.2.2.2.2.2.2.1, v0.2.2.2.2.2.2.2.1, v0.2.2.2.2.2.2.2.2.1, v0.2.2.2.2.2.2.2.2.2.1, v0.2.2.2.2.2.2.2.2.2.2.1, v0.2.2.2.2.2.2.2.2.2.2.2.1, v0.2.2.2.2.2.2.2.2.2.2.2.2.1, v0.2.2.2.2.2.2.2.2.2.2.2.2.2.1, v0.2.2.2.2.2.2.2.2.2.2.2.2.2.2.1, v0.2.2.2.2.2.2.2.2.2.2.2.2.2.2.2.1, v0.2.2.2.2.2.2.2.2.2.2.2.2.2.2.2.2.1, v0.2.2.2.2.2.2.2.2.2.2.2.2.2.2.2.2.2.1, v0.2.2.2.2.2.2.2.2.2.2.2.2.2.2.2.2.2.2.1, v0.2.2.2.2.2.2.2.2.2.2.2.2.2.2.2.2.2.2.2.1, v0.2.2.2.2.2.2.2.2.2.2.2.2.2.2.2.2.2.2.2.2.1, s1, v0.2.2.2.2.2.2.2.2.2.2.2.2.2.2.2.2.2.2.2.2.2.2)))
set_option maxHeartbeats 4000000 in
set_option maxRecDepth 100000 in
theorem w_Model_body_558 {p : Program} {l : Launch} {e : Env} {s : State} {m : MethodId} {args : Array Value} {below : List Frame} {meth : Method} {c : Code} {A : Nat → Prop} {D : va_G} {cC cI : ClassId} {a0_0 a0_1 a0_2 a0_3 a0_4 a0_5 a0_6 a0_7 : Nat} (X : xCX p s m args meth c A D cC cI b_Model_body 16 R_Model (some .boolean)) {out : O_Model_body}   : J_Model_body_558 p l e s m args below meth c A D cC cI a0_0 a0_1 a0_2 a0_3 a0_4 a0_5 a0_6 a0_7 out (f_Model_body_558  ) := by
  obtain ⟨hx, hb, hml, hown, htB, ⟨hK, hN⟩, hZ, hA, hr, hlocks⟩ := id X
  intro v0 x2 x10 x13 s1 ls H locs h hl hP hD hS
  refine va_put (D := D) (ci := 11) (v := .int s1) (ty := .int) (C := R_Model) (T := F_Model) (N := 23) hx hb htB in_Model t_Model t_Model_ok n_Model hown hK hP hD hS 0 rfl rfl 21 (by decide) (htB _ b_449) (fun _ h9 => h9) rfl (by decide +kernel) rfl rfl (Nat.le_of_ble_eq_true rfl) d_Model_body_558 (fun H locs hP hD hS => ?_)
  have hP : va_P D classes (wd_Model_body cC cI a0_0 a0_1 a0_2 a0_3 a0_4 a0_5 a0_6 a0_7 (v0.1, v0.2.1, v0.2.2.1, v0.2.2.2.1, v0.2.2.2.2.1, v0.2.2.2.2.2.1, v0.2.2.2.2.2.2.1, v0.2.2.2.2.2.2.2.1, v0.2.2.2.2.2.2.2.2.1, v0.2.2.2.2.2.2.2.2.2.1, v0.2.2.2.2.2.2.2.2.2.2.1, v0.2.2.2.2.2.2.2.2.2.2.2.1, v0.2.2.2.2.2.2.2.2.2.2.2.2.1, v0.2.2.2.2.2.2.2.2.2.2.2.2.2.1, v0.2.2.2.2.2.2.2.2.2.2.2.2.2.2.1, v0.2.2.2.2.2.2.2.2.2.2.2.2.2.2.2.1, v0.2.2.2.2.2.2.2.2.2.2.2.2.2.2.2.2.1, v0.2.2.2.2.2.2.2.2.2.2.2.2.2.2.2.2.2.1, v0.2.2.2.2.2.2.2.2.2.2.2.2.2.2.2.2.2.2.1, v0.2.2.2.2.2.2.2.2.2.2.2.2.2.2.2.2.2.2.2.1, v0.2.2.2.2.2.2.2.2.2.2.2.2.2.2.2.2.2.2.2.2.1, s1, v0.2.2.2.2.2.2.2.2.2.2.2.2.2.2.2.2.2.2.2.2.2.2)) H := hP
  have hD : va_D A (wd_Model_body cC cI a0_0 a0_1 a0_2 a0_3 a0_4 a0_5 a0_6 a0_7 (v0.1, v0.2.1, v0.2.2.1, v0.2.2.2.1, v0.2.2.2.2.1, v0.2.2.2.2.2.1, v0.2.2.2.2.2.2.1, v0.2.2.2.2.2.2.2.1, v0.2.2.2.2.2.2.2.2.1, v0.2.2.2.2.2.2.2.2.2.1, v0.2.2.2.2.2.2.2.2.2.2.1, v0.2.2.2.2.2.2.2.2.2.2.2.1, v0.2.2.2.2.2.2.2.2.2.2.2.2.1, v0.2.2.2.2.2.2.2.2.2.2.2.2.2.1, v0.2.2.2.2.2.2.2.2.2.2.2.2.2.2.1, v0.2.2.2.2.2.2.2.2.2.2.2.2.2.2.2.1, v0.2.2.2.2.2.2.2.2.2.2.2.2.2.2.2.2.1, v0.2.2.2.2.2.2.2.2.2.2.2.2.2.2.2.2.2.1, v0.2.2.2.2.2.2.2.2.2.2.2.2.2.2.2.2.2.2.1, v0.2.2.2.2.2.2.2.2.2.2.2.2.2.2.2.2.2.2.2.1, v0.2.2.2.2.2.2.2.2.2.2.2.2.2.2.2.2.2.2.2.2.1, s1, v0.2.2.2.2.2.2.2.2.2.2.2.2.2.2.2.2.2.2.2.2.2.2)) := hD
  refine lv_iload hx hb d_Model_body_561 (lv_at hl 2 rfl) ?_
  refine lv_if_eq (tgt := 576) hx hb d_Model_body_563 rfl (fun hc => ?_) (fun hc => ?_)
  · have h := (if_pos hc).symm.trans h
    exact w_Model_body_576 X (v0.1, v0.2.1, v0.2.2.1, v0.2.2.2.1, v0.2.2.2.2.1, v0.2.2.2.2.2.1, v0.2.2.2.2.2.2.1, v0.2.2.2.2.2.2.2.1, v0.2.2.2.2.2.2.2.2.1, v0.2.2.2.2.2.2.2.2.2.1, v0.2.2.2.2.2.2.2.2.2.2.1, v0.2.2.2.2.2.2.2.2.2.2.2.1, v0.2.2.2.2.2.2.2.2.2.2.2.2.1, v0.2.2.2.2.2.2.2.2.2.2.2.2.2.1, v0.2.2.2.2.2.2.2.2.2.2.2.2.2.2.1, v0.2.2.2.2.2.2.2.2.2.2.2.2.2.2.2.1, v0.2.2.2.2.2.2.2.2.2.2.2.2.2.2.2.2.1, v0.2.2.2.2.2.2.2.2.2.2.2.2.2.2.2.2.2.1, v0.2.2.2.2.2.2.2.2.2.2.2.2.2.2.2.2.2.2.1, v0.2.2.2.2.2.2.2.2.2.2.2.2.2.2.2.2.2.2.2.1, v0.2.2.2.2.2.2.2.2.2.2.2.2.2.2.2.2.2.2.2.2.1, s1, v0.2.2.2.2.2.2.2.2.2.2.2.2.2.2.2.2.2.2.2.2.2.2) ls H locs h (lv_sub hl [] rfl) hP hD hS
  have h := (if_neg hc).symm.trans h
  refine lv_iload hx hb d_Model_body_566 (lv_at hl 1 rfl) ?_
  refine lv_iload_n hx hb d_Model_body_568 rfl (lv_at hl 0 rfl) ?_
  refine lv_icmp_ne (tgt := 576) hx hb d_Model_body_569 rfl (fun hc => ?_) (fun hc => ?_)
  · have h := (if_neg hc).symm.trans h
    exact w_Model_body_576 X (v0.1, v0.2.1, v0.2.2.1, v0.2.2.2.1, v0.2.2.2.2.1, v0.2.2.2.2.2.1, v0.2.2.2.2.2.2.1, v0.2.2.2.2.2.2.2.1, v0.2.2.2.2.2.2.2.2.1, v0.2.2.2.2.2.2.2.2.2.1, v0.2.2.2.2.2.2.2.2.2.2.1, v0.2.2.2.2.2.2.2.2.2.2.2.1, v0.2.2.2.2.2.2.2.2.2.2.2.2.1, v0.2.2.2.2.2.2.2.2.2.2.2.2.2.1, v0.2.2.2.2.2.2.2.2.2.2.2.2.2.2.1, v0.2.2.2.2.2.2.2.2.2.2.2.2.2.2.2.1, v0.2.2.2.2.2.2.2.2.2.2.2.2.2.2.2.2.1, v0.2.2.2.2.2.2.2.2.2.2.2.2.2.2.2.2.2.1, v0.2.2.2.2.2.2.2.2.2.2.2.2.2.2.2.2.2.2.1, v0.2.2.2.2.2.2.2.2.2.2.2.2.2.2.2.2.2.2.2.1, v0.2.2.2.2.2.2.2.2.2.2.2.2.2.2.2.2.2.2.2.2.1, s1, v0.2.2.2.2.2.2.2.2.2.2.2.2.2.2.2.2.2.2.2.2.2.2) ls H locs h (lv_sub hl [] rfl) hP hD hS
  have h := (if_pos hc).symm.trans h
  refine lv_iconst (v := 1) hx hb d_Model_body_572 (by decide) ?_
  refine lv_goto (tgt := 577) hx hb d_Model_body_573 rfl ?_
  exact w_Model_body_577 X (v0.1, v0.2.1, v0.2.2.1, v0.2.2.2.1, v0.2.2.2.2.1, v0.2.2.2.2.2.1, v0.2.2.2.2.2.2.1, v0.2.2.2.2.2.2.2.1, v0.2.2.2.2.2.2.2.2.1, v0.2.2.2.2.2.2.2.2.2.1, v0.2.2.2.2.2.2.2.2.2.2.1, v0.2.2.2.2.2.2.2.2.2.2.2.1, v0.2.2.2.2.2.2.2.2.2.2.2.2.1, v0.2.2.2.2.2.2.2.2.2.2.2.2.2.1, v0.2.2.2.2.2.2.2.2.2.2.2.2.2.2.1, v0.2.2.2.2.2.2.2.2.2.2.2.2.2.2.2.1, v0.2.2.2.2.2.2.2.2.2.2.2.2.2.2.2.2.1, v0.2.2.2.2.2.2.2.2.2.2.2.2.2.2.2.2.2.1, v0.2.2.2.2.2.2.2.2.2.2.2.2.2.2.2.2.2.2.1, v0.2.2.2.2.2.2.2.2.2.2.2.2.2.2.2.2.2.2.2.1, v0.2.2.2.2.2.2.2.2.2.2.2.2.2.2.2.2.2.2.2.2.1, s1, v0.2.2.2.2.2.2.2.2.2.2.2.2.2.2.2.2.2.2.2.2.2.2) (1 : Int32) ls H locs h (lv_sub hl [] rfl) hP hD hS

def f_Model_body_557 (v0 : T_Model) (x2 : Int32) (x10 : Int32) (x13 : Int32) (s1 : Int32) (s2 : Int32) : Option O_Model_body := f_Model_body_558 v0 x2 x10 x13 (s1 + s2)
set_option maxHeartbeats 4000000 in
set_option maxRecDepth 100000 in
theorem w_Model_body_557 {p : Program} {l : Launch} {e : Env} {s : State} {m : MethodId} {args : Array Value} {below : List Frame} {meth : Method} {c : Code} {A : Nat → Prop} {D : va_G} {cC cI : ClassId} {a0_0 a0_1 a0_2 a0_3 a0_4 a0_5 a0_6 a0_7 : Nat} (X : xCX p s m args meth c A D cC cI b_Model_body 16 R_Model (some .boolean)) {out : O_Model_body}   : J_Model_body_557 p l e s m args below meth c A D cC cI a0_0 a0_1 a0_2 a0_3 a0_4 a0_5 a0_6 a0_7 out (f_Model_body_557  ) := by
  obtain ⟨hx, hb, hml, hown, htB, ⟨hK, hN⟩, hZ, hA, hr, hlocks⟩ := id X
  intro v0 x2 x10 x13 s1 s2 ls H locs h hl hP hD hS
  refine lv_iadd hx hb d_Model_body_557 ?_
  exact w_Model_body_558 X v0 x2 x10 x13 (s1 + s2) ls H locs h (lv_sub hl [0, 1, 2] rfl) hP hD hS

def f_Model_body_533 (v0 : T_Model) (x2 : Int32) (x6 : Int32) (x7 : Int32) (x10 : Int32) (x12 : Int32) (x13 : Int32) : Option O_Model_body := (if (v0.2.2.2.2.2.2.2.2.1 (5 : Int32).toNatClampNeg) = (100 : Int32) then f_Model_body_557 v0 x2 x10 x13 ((x7 - x6) - x12) (2 : Int32) else f_Model_body_557 v0 x2 x10 x13 ((x7 - x6) - x12) (0 : Int32))
set_option maxHeartbeats 4000000 in
set_option maxRecDepth 100000 in
theorem w_Model_body_533 {p : Program} {l : Launch} {e : Env} {s : State} {m : MethodId} {args : Array Value} {below : List Frame} {meth : Method} {c : Code} {A : Nat → Prop} {D : va_G} {cC cI : ClassId} {a0_0 a0_1 a0_2 a0_3 a0_4 a0_5 a0_6 a0_7 : Nat} (X : xCX p s m args meth c A D cC cI b_Model_body 16 R_Model (some .boolean)) {out : O_Model_body}   : J_Model_body_533 p l e s m args below meth c A D cC cI a0_0 a0_1 a0_2 a0_3 a0_4 a0_5 a0_6 a0_7 out (f_Model_body_533  ) := by
  obtain ⟨hx, hb, hml, hown, htB, ⟨hK, hN⟩, hZ, hA, hr, hlocks⟩ := id X
  intro v0 x2 x6 x7 x10 x12 x13 ls H locs h hl hP hD hS
  refine lv_iload hx hb d_Model_body_533 (lv_at hl 3 rfl) ?_
  refine lv_iload hx hb d_Model_body_535 (lv_at hl 2 rfl) ?_
  refine lv_isub hx hb d_Model_body_537 ?_
  refine lv_iload hx hb d_Model_body_538 (lv_at hl 5 rfl) ?_
  refine lv_isub hx hb d_Model_body_540 ?_
  refine lv_aload_n hx hb d_Model_body_541 rfl (lv_at hl 0 rfl) ?_
  refine va_get (D := D) (ci := 11) (v := .ref a0_5) (C := R_Model) (T := F_Model) (N := 23) hx hb htB in_Model hown hK hP 0 rfl rfl 8 (by decide) (htB _ b_330) (fun _ h9 => h9) rfl d_Model_body_542 ?_
  refine lv_iconst (v := 5) hx hb d_Model_body_545 (by decide) ?_
  refine va_iald hx hb hK hP 5 1 rfl rfl (show ¬ (((5 : Int32) : Int32) < 0 ∨ 7 ≤ ((5 : Int32) : Int32).toNatClampNeg) by decide) d_Model_body_546 ?_
  refine lv_bipush (v := 100) hx hb d_Model_body_547 (by decide) ?_
  refine lv_icmp_ne (tgt := 556) hx hb d_Model_body_549 rfl (fun hc => ?_) (fun hc => ?_)
  · have h := (if_neg hc).symm.trans h
    refine lv_iconst (v := 0) hx hb d_Model_body_556 (by decide) ?_
    exact w_Model_body_557 X v0 x2 x10 x13 ((x7 - x6) - x12) (0 : Int32) ls H locs h (lv_sub hl [1, 4, 6] rfl) hP hD hS
  have h := (if_pos hc).symm.trans h
  refine lv_iconst (v := 2) hx hb d_Model_body_552 (by decide) ?_
  refine lv_goto (tgt := 557) hx hb d_Model_body_553 rfl ?_
  exact w_Model_body_557 X v0 x2 x10 x13 ((x7 - x6) - x12) (2 : Int32) ls H locs h (lv_sub hl [1, 4, 6] rfl) hP hD hS

def f_Model_body_510 (v0 : T_Model) (x2 : Int32) (x3 : Int64) (x6 : Int32) (x7 : Int32) (x10 : Int32) (x12 : Int32) (x13 : Int32) : Option O_Model_body := (if (lg_cmp x3 (0 : Int64)) = 0 then (if v0.2.2.2.2.2.2.2.2.2.2.2.2.2.2.2.2.2.2.2.2.2.2 = 0 then f_Model_body_558 (v0.1, v0.2.1, v0.2.2.1, v0.2.2.2.1, v0.2.2.2.2.1, v0.2.2.2.2.2.1, v0.2.2.2.2.2.2.1, v0.2.2.2.2.2.2.2.1, v0.2.2.2.2.2.2.2.2.1, v0.2.2.2.2.2.2.2.2.2.1, v0.2.2.2.2.2.2.2.2.2.2.1, v0.2.2.2.2.2.2.2.2.2.2.2.1, v0.2.2.2.2.2.2.2.2.2.2.2.2.1, v0.2.2.2.2.2.2.2.2.2.2.2.2.2.1, v0.2.2.2.2.2.2.2.2.2.2.2.2.2.2.1, v0.2.2.2.2.2.2.2.2.2.2.2.2.2.2.2.1, v0.2.2.2.2.2.2.2.2.2.2.2.2.2.2.2.2.1, v0.2.2.2.2.2.2.2.2.2.2.2.2.2.2.2.2.2.1, v0.2.2.2.2.2.2.2.2.2.2.2.2.2.2.2.2.2.2.1, v0.2.2.2.2.2.2.2.2.2.2.2.2.2.2.2.2.2.2.2.1, x3, v0.2.2.2.2.2.2.2.2.2.2.2.2.2.2.2.2.2.2.2.2.2.1, v0.2.2.2.2.2.2.2.2.2.2.2.2.2.2.2.2.2.2.2.2.2.2) x2 x10 x13 (0 : Int32) else f_Model_body_533 (v0.1, v0.2.1, v0.2.2.1, v0.2.2.2.1, v0.2.2.2.2.1, v0.2.2.2.2.2.1, v0.2.2.2.2.2.2.1, v0.2.2.2.2.2.2.2.1, v0.2.2.2.2.2.2.2.2.1, v0.2.2.2.2.2.2.2.2.2.1, v0.2.2.2.2.2.2.2.2.2.2.1, v0.2.2.2.2.2.2.2.2.2.2.2.1, v0.2.2.2.2.2.2.2.2.2.2.2.2.1, v0.2.2.2.2.2.2.2.2.2.2.2.2.2.1, v0.2.2.2.2.2.2.2.2.2.2.2.2.2.2.1, v0.2.2.2.2.2.2.2.2.2.2.2.2.2.2.2.1, v0.2.2.2.2.2.2.2.2.2.2.2.2.2.2.2.2.1, v0.2.2.2.2.2.2.2.2.2.2.2.2.2.2.2.2.2.1, v0.2.2.2.2.2.2.2.2.2.2.2.2.2.2.2.2.2.2.1, v0.2.2.2.2.2.2.2.2.2.2.2.2.2.2.2.2.2.2.2.1, x3, v0.2.2.2.2.2.2.2.2.2.2.2.2.2.2.2.2.2.2.2.2.2.1, v0.2.2.2.2.2.2.2.2.2.2.2.2.2.2.2.2.2.2.2.2.2.2) x2 x6 x7 x10 x12 x13) else f_Model_body_533 (v0.1, v0.2.1, v0.2.2.1, v0.2.2.2.1, v0.2.2.2.2.1, v0.2.2.2.2.2.1, v0.2.2.2.2.2.2.1, v0.2.2.2.2.2.2.2.1, v0.2.2.2.2.2.2.2.2.1, v0.2.2.2.2.2.2.2.2.2.1, v0.2.2.2.2.2.2.2.2.2.2.1, v0.2.2.2.2.2.2.2.2.2.2.2.1, v0.2.2.2.2.2.2.2.2.2.2.2.2.1, v0.2.2.2.2.2.2.2.2.2.2.2.2.2.1, v0.2.2.2.2.2.2.2.2.2.2.2.2.2.2.1, v0.2.2.2.2.2.2.2.2.2.2.2.2.2.2.2.1, v0.2.2.2.2.2.2.2.2.2.2.2.2.2.2.2.2.1, v0.2.2.2.2.2.2.2.2.2.2.2.2.2.2.2.2.2.1, v0.2.2.2.2.2.2.2.2.2.2.2.2.2.2.2.2.2.2.1, v0.2.2.2.2.2.2.2.2.2.2.2.2.2.2.2.2.2.2.2.1, x3, v0.2.2.2.2.2.2.2.2.2.2.2.2.2.2.2.2.2.2.2.2.2.1, v0.2.2.2.2.2.2.2.2.2.2.2.2.2.2.2.2.2.2.2.2.2.2) x2 x6 x7 x10 x12 x13)
set_option maxHeartbeats 4000000 in
set_option maxRecDepth 100000 in
theorem w_Model_body_510 {p : Program} {l : Launch} {e : Env} {s : State} {m : MethodId} {args : Array Value} {below : List Frame} {meth : Method} {c : Code} {A : Nat → Prop} {D : va_G} {cC cI : ClassId} {a0_0 a0_1 a0_2 a0_3 a0_4 a0_5 a0_6 a0_7 : Nat} (X : xCX p s m args meth c A D cC cI b_Model_body 16 R_Model (some .boolean)) {out : O_Model_body}   : J_Model_body_510 p l e s m args below meth c A D cC cI a0_0 a0_1 a0_2 a0_3 a0_4 a0_5 a0_6 a0_7 out (f_Model_body_510  ) := by
  obtain ⟨hx, hb, hml, hown, htB, ⟨hK, hN⟩, hZ, hA, hr, hlocks⟩ := id X
  intro v0 x2 x3 x6 x7 x10 x12 x13 ls H locs h hl hP hD hS
  refine lv_aload_n hx hb d_Model_body_510 rfl (lv_at hl 0 rfl) ?_
  refine lv_lload_n hx hb d_Model_body_511 rfl (lv_at hl 2 rfl) ?_
  refine va_put (D := D) (ci := 11) (v := .long x3) (ty := .long) (C := R_Model) (T := F_Model) (N := 23) hx hb htB in_Model t_Model t_Model_ok n_Model hown hK hP hD hS 0 rfl rfl 20 (by decide) (htB _ b_448) (fun _ h9 => h9) rfl (by decide +kernel) rfl rfl (Nat.le_of_ble_eq_true rfl) d_Model_body_512 (fun H locs hP hD hS => ?_)
  have hP : va_P D classes (wd_Model_body cC cI a0_0 a0_1 a0_2 a0_3 a0_4 a0_5 a0_6 a0_7 (v0.1, v0.2.1, v0.2.2.1, v0.2.2.2.1, v0.2.2.2.2.1, v0.2.2.2.2.2.1, v0.2.2.2.2.2.2.1, v0.2.2.2.2.2.2.2.1, v0.2.2.2.2.2.2.2.2.1, v0.2.2.2.2.2.2.2.2.2.1, v0.2.2.2.2.2.2.2.2.2.2.1, v0.2.2.2.2.2.2.2.2.2.2.2.1, v0.2.2.2.2.2.2.2.2.2.2.2.2.1, v0.2.2.2.2.2.2.2.2.2.2.2.2.2.1, v0.2.2.2.2.2.2.2.2.2.2.2.2.2.2.1, v0.2.2.2.2.2.2.2.2.2.2.2.2.2.2.2.1, v0.2.2.2.2.2.2.2.2.2.2.2.2.2.2.2.2.1, v0.2.2.2.2.2.2.2.2.2.2.2.2.2.2.2.2.2.1, v0.2.2.2.2.2.2.2.2.2.2.2.2.2.2.2.2.2.2.1, v0.2.2.2.2.2.2.2.2.2.2.2.2.2.2.2.2.2.2.2.1, x3, v0.2.2.2.2.2.2.2.2.2.2.2.2.2.2.2.2.2.2.2.2.2.1, v0.2.2.2.2.2.2.2.2.2.2.2.2.2.2.2.2.2.2.2.2.2.2)) H := hP
  have hD : va_D A (wd_Model_body cC cI a0_0 a0_1 a0_2 a0_3 a0_4 a0_5 a0_6 a0_7 (v0.1, v0.2.1, v0.2.2.1, v0.2.2.2.1, v0.2.2.2.2.1, v0.2.2.2.2.2.1, v0.2.2.2.2.2.2.1, v0.2.2.2.2.2.2.2.1, v0.2.2.2.2.2.2.2.2.1, v0.2.2.2.2.2.2.2.2.2.1, v0.2.2.2.2.2.2.2.2.2.2.1, v0.2.2.2.2.2.2.2.2.2.2.2.1, v0.2.2.2.2.2.2.2.2.2.2.2.2.1, v0.2.2.2.2.2.2.2.2.2.2.2.2.2.1, v0.2.2.2.2.2.2.2.2.2.2.2.2.2.2.1, v0.2.2.2.2.2.2.2.2.2.2.2.2.2.2.2.1, v0.2.2.2.2.2.2.2.2.2.2.2.2.2.2.2.2.1, v0.2.2.2.2.2.2.2.2.2.2.2.2.2.2.2.2.2.1, v0.2.2.2.2.2.2.2.2.2.2.2.2.2.2.2.2.2.2.1, v0.2.2.2.2.2.2.2.2.2.2.2.2.2.2.2.2.2.2.2.1, x3, v0.2.2.2.2.2.2.2.2.2.2.2.2.2.2.2.2.2.2.2.2.2.1, v0.2.2.2.2.2.2.2.2.2.2.2.2.2.2.2.2.2.2.2.2.2.2)) := hD
  refine lv_aload_n hx hb d_Model_body_515 rfl (lv_at hl 0 rfl) ?_
  refine lv_lload_n hx hb d_Model_body_516 rfl (lv_at hl 2 rfl) ?_
  refine lv_lconst (v := 0) hx hb d_Model_body_517 (by decide) ?_
  refine W.lcmp hx hb d_Model_body_518 ?_
  refine lv_if_ne (tgt := 533) hx hb d_Model_body_519 rfl (fun hc => ?_) (fun hc => ?_)
  · have h := (if_neg hc).symm.trans h
    exact w_Model_body_533 X (v0.1, v0.2.1, v0.2.2.1, v0.2.2.2.1, v0.2.2.2.2.1, v0.2.2.2.2.2.1, v0.2.2.2.2.2.2.1, v0.2.2.2.2.2.2.2.1, v0.2.2.2.2.2.2.2.2.1, v0.2.2.2.2.2.2.2.2.2.1, v0.2.2.2.2.2.2.2.2.2.2.1, v0.2.2.2.2.2.2.2.2.2.2.2.1, v0.2.2.2.2.2.2.2.2.2.2.2.2.1, v0.2.2.2.2.2.2.2.2.2.2.2.2.2.1, v0.2.2.2.2.2.2.2.2.2.2.2.2.2.2.1, v0.2.2.2.2.2.2.2.2.2.2.2.2.2.2.2.1, v0.2.2.2.2.2.2.2.2.2.2.2.2.2.2.2.2.1, v0.2.2.2.2.2.2.2.2.2.2.2.2.2.2.2.2.2.1, v0.2.2.2.2.2.2.2.2.2.2.2.2.2.2.2.2.2.2.1, v0.2.2.2.2.2.2.2.2.2.2.2.2.2.2.2.2.2.2.2.1, x3, v0.2.2.2.2.2.2.2.2.2.2.2.2.2.2.2.2.2.2.2.2.2.1, v0.2.2.2.2.2.2.2.2.2.2.2.2.2.2.2.2.2.2.2.2.2.2) x2 x6 x7 x10 x12 x13 ls H locs h (lv_sub hl [0, 1, 3, 4, 5, 6, 7] rfl) hP hD hS
  have h := (if_pos hc).symm.trans h
  refine lv_aload_n hx hb d_Model_body_522 rfl (lv_at hl 0 rfl) ?_
  refine va_get (D := D) (ci := 11) (v := .int v0.2.2.2.2.2.2.2.2.2.2.2.2.2.2.2.2.2.2.2.2.2.2) (C := R_Model) (T := F_Model) (N := 23) hx hb htB in_Model hown hK hP 0 rfl rfl 22 (by decide) (htB _ b_447) (fun _ h9 => h9) rfl d_Model_body_523 ?_
  refine lv_if_ne (tgt := 533) hx hb d_Model_body_526 rfl (fun hc => ?_) (fun hc => ?_)
  · have h := (if_neg hc).symm.trans h
    exact w_Model_body_533 X (v0.1, v0.2.1, v0.2.2.1, v0.2.2.2.1, v0.2.2.2.2.1, v0.2.2.2.2.2.1, v0.2.2.2.2.2.2.1, v0.2.2.2.2.2.2.2.1, v0.2.2.2.2.2.2.2.2.1, v0.2.2.2.2.2.2.2.2.2.1, v0.2.2.2.2.2.2.2.2.2.2.1, v0.2.2.2.2.2.2.2.2.2.2.2.1, v0.2.2.2.2.2.2.2.2.2.2.2.2.1, v0.2.2.2.2.2.2.2.2.2.2.2.2.2.1, v0.2.2.2.2.2.2.2.2.2.2.2.2.2.2.1, v0.2.2.2.2.2.2.2.2.2.2.2.2.2.2.2.1, v0.2.2.2.2.2.2.2.2.2.2.2.2.2.2.2.2.1, v0.2.2.2.2.2.2.2.2.2.2.2.2.2.2.2.2.2.1, v0.2.2.2.2.2.2.2.2.2.2.2.2.2.2.2.2.2.2.1, v0.2.2.2.2.2.2.2.2.2.2.2.2.2.2.2.2.2.2.2.1, x3, v0.2.2.2.2.2.2.2.2.2.2.2.2.2.2.2.2.2.2.2.2.2.1, v0.2.2.2.2.2.2.2.2.2.2.2.2.2.2.2.2.2.2.2.2.2.2) x2 x6 x7 x10 x12 x13 ls H locs h (lv_sub hl [0, 1, 3, 4, 5, 6, 7] rfl) hP hD hS
  have h := (if_pos hc).symm.trans h
  refine lv_iconst (v := 0) hx hb d_Model_body_529 (by decide) ?_
  refine lv_goto (tgt := 558) hx hb d_Model_body_530 rfl ?_
  exact w_Model_body_558 X (v0.1, v0.2.1, v0.2.2.1, v0.2.2.2.1, v0.2.2.2.2.1, v0.2.2.2.2.2.1, v0.2.2.2.2.2.2.1, v0.2.2.2.2.2.2.2.1, v0.2.2.2.2.2.2.2.2.1, v0.2.2.2.2.2.2.2.2.2.1, v0.2.2.2.2.2.2.2.2.2.2.1, v0.2.2.2.2.2.2.2.2.2.2.2.1, v0.2.2.2.2.2.2.2.2.2.2.2.2.1, v0.2.2.2.2.2.2.2.2.2.2.2.2.2.1, v0.2.2.2.2.2.2.2.2.2.2.2.2.2.2.1, v0.2.2.2.2.2.2.2.2.2.2.2.2.2.2.2.1, v0.2.2.2.2.2.2.2.2.2.2.2.2.2.2.2.2.1, v0.2.2.2.2.2.2.2.2.2.2.2.2.2.2.2.2.2.1, v0.2.2.2.2.2.2.2.2.2.2.2.2.2.2.2.2.2.2.1, v0.2.2.2.2.2.2.2.2.2.2.2.2.2.2.2.2.2.2.2.1, x3, v0.2.2.2.2.2.2.2.2.2.2.2.2.2.2.2.2.2.2.2.2.2.1, v0.2.2.2.2.2.2.2.2.2.2.2.2.2.2.2.2.2.2.2.2.2.2) x2 x10 x13 (0 : Int32) ls H locs h (lv_sub hl [1, 5, 7] rfl) hP hD hS

def J_Model_body_376 (p : Program) (l : Launch) (e : Env) (s : State) (m : MethodId) (args : Array Value) (below : List Frame) (meth : Method) (c : Code) (A : Nat → Prop) (D : va_G) (cC cI : ClassId) (a0_0 a0_1 a0_2 a0_3 a0_4 a0_5 a0_6 a0_7 : Nat) (out : O_Model_body) (k : T_Model → Int32 → Int64 → Int32 → Int32 → Int32 → Int32 → Option O_Model_body) : Prop := ∀ (v0 : T_Model) (x2 : Int32) (x3 : Int64) (x6 : Int32) (x7 : Int32) (x10 : Int32) (x12 : Int32) (ls : Array Slot) (H : Heap) (locs : List Loc), k v0 x2 x3 x6 x7 x10 x12 = some out → lv_has ls 16 [(0, .ref a0_0), (2, .int x2), (3, .long x3), (6, .int x6), (7, .int x7), (10, .int x10), (12, .int x12)] → va_P D classes (wd_Model_body cC cI a0_0 a0_1 a0_2 a0_3 a0_4 a0_5 a0_6 a0_7 v0) H → va_D A (wd_Model_body cC cI a0_0 a0_1 a0_2 a0_3 a0_4 a0_5 a0_6 a0_7 v0) → va_S A s.heap H locs → W p l e rm_Model_body s m args below meth c H locs 0 0 (MQ below (q_Model_body D cC cI a0_0 a0_1 a0_2 a0_3 a0_4 a0_5 a0_6 a0_7 out A) args s 0 0 A) (F0 m 376 ls [])
def J_Model_body_377 (p : Program) (l : Launch) (e : Env) (s : State) (m : MethodId) (args : Array Value) (below : List Frame) (meth : Method) (c : Code) (A : Nat → Prop) (D : va_G) (cC cI : ClassId) (a0_0 a0_1 a0_2 a0_3 a0_4 a0_5 a0_6 a0_7 : Nat) (out : O_Model_body) (k : T_Model → Int32 → Int64 → Int32 → Int32 → Int32 → Int32 → Int32 → Option O_Model_body) : Prop := ∀ (v0 : T_Model) (x2 : Int32) (x3 : Int64) (x6 : Int32) (x7 : Int32) (x10 : Int32) (x12 : Int32) (s0 : Int32) (ls : Array Slot) (H : Heap) (locs : List Loc), k v0 x2 x3 x6 x7 x10 x12 s0 = some out → lv_has ls 16 [(0, .ref a0_0), (2, .int x2), (3, .long x3), (6, .int x6), (7, .int x7), (10, .int x10), (12, .int x12)] → va_P D classes (wd_Model_body cC cI a0_0 a0_1 a0_2 a0_3 a0_4 a0_5 a0_6 a0_7 v0) H → va_D A (wd_Model_body cC cI a0_0 a0_1 a0_2 a0_3 a0_4 a0_5 a0_6 a0_7 v0) → va_S A s.heap H locs → W p l e rm_Model_body s m args below meth c H locs 0 0 (MQ below (q_Model_body D cC cI a0_0 a0_1 a0_2 a0_3 a0_4 a0_5 a0_6 a0_7 out A) args s 0 0 A) (F0 m 377 ls [.int s0])
def J_Model_body_407 (p : Program) (l : Launch) (e : Env) (s : State) (m : MethodId) (args : Array Value) (below : List Frame) (meth : Method) (c : Code) (A : Nat → Prop) (D : va_G) (cC cI : ClassId) (a0_0 a0_1 a0_2 a0_3 a0_4 a0_5 a0_6 a0_7 : Nat) (out : O_Model_body) (k : T_Model → Int32 → Int64 → Int32 → Int32 → Int32 → Int32 → Int32 → Option O_Model_body) : Prop := ∀ (v0 : T_Model) (x2 : Int32) (x3 : Int64) (x6 : Int32) (x7 : Int32) (x10 : Int32) (x12 : Int32) (x13 : Int32) (ls : Array Slot) (H : Heap) (locs : List Loc), k v0 x2 x3 x6 x7 x10 x12 x13 = some out → lv_has ls 16 [(0, .ref a0_0), (2, .int x2), (3, .long x3), (6, .int x6), (7, .int x7), (10, .int x10), (12, .int x12), (13, .int x13)] → va_P D classes (wd_Model_body cC cI a0_0 a0_1 a0_2 a0_3 a0_4 a0_5 a0_6 a0_7 v0) H → va_D A (wd_Model_body cC cI a0_0 a0_1 a0_2 a0_3 a0_4 a0_5 a0_6 a0_7 v0) → va_S A s.heap H locs → W p l e rm_Model_body s m args below meth c H locs 0 0 (MQ below (q_Model_body D cC cI a0_0 a0_1 a0_2 a0_3 a0_4 a0_5 a0_6 a0_7 out A) args s 0 0 A) (F0 m 407 ls [])
def J_Model_body_408 (p : Program) (l : Launch) (e : Env) (s : State) (m : MethodId) (args : Array Value) (below : List Frame) (meth : Method) (c : Code) (A : Nat → Prop) (D : va_G) (cC cI : ClassId) (a0_0 a0_1 a0_2 a0_3 a0_4 a0_5 a0_6 a0_7 : Nat) (out : O_Model_body) (k : T_Model → Int32 → Int64 → Int32 → Int32 → Int32 → Int32 → Int32 → Int32 → Option O_Model_body) : Prop := ∀ (v0 : T_Model) (x2 : Int32) (x3 : Int64) (x6 : Int32) (x7 : Int32) (x10 : Int32) (x12 : Int32) (x13 : Int32) (s0 : Int32) (ls : Array Slot) (H : Heap) (locs : List Loc), k v0 x2 x3 x6 x7 x10 x12 x13 s0 = some out → lv_has ls 16 [(0, .ref a0_0), (2, .int x2), (3, .long x3), (6, .int x6), (7, .int x7), (10, .int x10), (12, .int x12), (13, .int x13)] → va_P D classes (wd_Model_body cC cI a0_0 a0_1 a0_2 a0_3 a0_4 a0_5 a0_6 a0_7 v0) H → va_D A (wd_Model_body cC cI a0_0 a0_1 a0_2 a0_3 a0_4 a0_5 a0_6 a0_7 v0) → va_S A s.heap H locs → W p l e rm_Model_body s m args below meth c H locs 0 0 (MQ below (q_Model_body D cC cI a0_0 a0_1 a0_2 a0_3 a0_4 a0_5 a0_6 a0_7 out A) args s 0 0 A) (F0 m 408 ls [.int s0])
def J_Model_body_424 (p : Program) (l : Launch) (e : Env) (s : State) (m : MethodId) (args : Array Value) (below : List Frame) (meth : Method) (c : Code) (A : Nat → Prop) (D : va_G) (cC cI : ClassId) (a0_0 a0_1 a0_2 a0_3 a0_4 a0_5 a0_6 a0_7 : Nat) (out : O_Model_body) (k : T_Model → Int32 → Int64 → Int32 → Int32 → Int32 → Int32 → Int32 → Int32 → Option O_Model_body) : Prop := ∀ (v0 : T_Model) (x2 : Int32) (x3 : Int64) (x6 : Int32) (x7 : Int32) (x12 : Int32) (x13 : Int32) (x14 : Int32) (s0 : Int32) (ls : Array Slot) (H : Heap) (locs : List Loc), k v0 x2 x3 x6 x7 x12 x13 x14 s0 = some out → lv_has ls 16 [(0, .ref a0_0), (2, .int x2), (3, .long x3), (6, .int x6), (7, .int x7), (12, .int x12), (13, .int x13), (14, .int x14)] → va_P D classes (wd_Model_body cC cI a0_0 a0_1 a0_2 a0_3 a0_4 a0_5 a0_6 a0_7 v0) H → va_D A (wd_Model_body cC cI a0_0 a0_1 a0_2 a0_3 a0_4 a0_5 a0_6 a0_7 v0) → va_S A s.heap H locs → W p l e rm_Model_body s m args below meth c H locs 0 0 (MQ below (q_Model_body D cC cI a0_0 a0_1 a0_2 a0_3 a0_4 a0_5 a0_6 a0_7 out A) args s 0 0 A) (F0 m 424 ls [.int s0])
def J_Model_body_429 (p : Program) (l : Launch) (e : Env) (s : State) (m : MethodId) (args : Array Value) (below : List Frame) (meth : Method) (c : Code) (A : Nat → Prop) (D : va_G) (cC cI : ClassId) (a0_0 a0_1 a0_2 a0_3 a0_4 a0_5 a0_6 a0_7 : Nat) (out : O_Model_body) (k : T_Model → Int32 → Int64 → Int32 → Int32 → Int32 → Int32 → Int32 → Int32 → Int32 → Option O_Model_body) : Prop := ∀ (v0 : T_Model) (x2 : Int32) (x3 : Int64) (x6 : Int32) (x7 : Int32) (x10 : Int32) (x12 : Int32) (x13 : Int32) (x14 : Int32) (x15 : Int32) (ls : Array Slot) (H : Heap) (locs : List Loc), k v0 x2 x3 x6 x7 x10 x12 x13 x14 x15 = some out → lv_has ls 16 [(0, .ref a0_0), (2, .int x2), (3, .long x3), (6, .int x6), (7, .int x7), (10, .int x10), (12, .int x12), (13, .int x13), (14, .int x14), (15, .int x15)] → va_P D classes (wd_Model_body cC cI a0_0 a0_1 a0_2 a0_3 a0_4 a0_5 a0_6 a0_7 v0) H → va_D A (wd_Model_body cC cI a0_0 a0_1 a0_2 a0_3 a0_4 a0_5 a0_6 a0_7 v0) → va_S A s.heap H locs → W p l e rm_Model_body s m args below meth c H locs 0 0 (MQ below (q_Model_body D cC cI a0_0 a0_1 a0_2 a0_3 a0_4 a0_5 a0_6 a0_7 out A) args s 0 0 A) (F0 m 429 ls [])
def J_Model_body_478 (p : Program) (l : Launch) (e : Env) (s : State) (m : MethodId) (args : Array Value) (below : List Frame) (meth : Method) (c : Code) (A : Nat → Prop) (D : va_G) (cC cI : ClassId) (a0_0 a0_1 a0_2 a0_3 a0_4 a0_5 a0_6 a0_7 : Nat) (out : O_Model_body) (k : T_Model → Int32 → Int64 → Int32 → Int32 → Int32 → Int32 → Int32 → Int32 → Int32 → Option O_Model_body) : Prop := ∀ (v0 : T_Model) (x2 : Int32) (x3 : Int64) (x6 : Int32) (x7 : Int32) (x10 : Int32) (x12 : Int32) (x13 : Int32) (x14 : Int32) (x15 : Int32) (ls : Array Slot) (H : Heap) (locs : List Loc), k v0 x2 x3 x6 x7 x10 x12 x13 x14 x15 = some out → lv_has ls 16 [(0, .ref a0_0), (2, .int x2), (3, .long x3), (6, .int x6), (7, .int x7), (10, .int x10), (12, .int x12), (13, .int x13), (14, .int x14), (15, .int x15)] → va_P D classes (wd_Model_body cC cI a0_0 a0_1 a0_2 a0_3 a0_4 a0_5 a0_6 a0_7 v0) H → va_D A (wd_Model_body cC cI a0_0 a0_1 a0_2 a0_3 a0_4 a0_5 a0_6 a0_7 v0) → va_S A s.heap H locs → W p l e rm_Model_body s m args below meth c H locs 0 0 (MQ below (q_Model_body D cC cI a0_0 a0_1 a0_2 a0_3 a0_4 a0_5 a0_6 a0_7 out A) args s 0 0 A) (F0 m 478 ls [])
def J_Model_body_491 (p : Program) (l : Launch) (e : Env) (s : State) (m : MethodId) (args : Array Value) (below : List Frame) (meth : Method) (c : Code) (A : Nat → Prop) (D : va_G) (cC cI : ClassId) (a0_0 a0_1 a0_2 a0_3 a0_4 a0_5 a0_6 a0_7 : Nat) (out : O_Model_body) (k : T_Model → Int32 → Int64 → Int32 → Int32 → Int32 → Int32 → Int32 → Int32 → Option O_Model_body) : Prop := ∀ (v0 : T_Model) (x2 : Int32) (x3 : Int64) (x6 : Int32) (x7 : Int32) (x10 : Int32) (x13 : Int32) (x15 : Int32) (s0 : Int32) (ls : Array Slot) (H : Heap) (locs : List Loc), k v0 x2 x3 x6 x7 x10 x13 x15 s0 = some out → lv_has ls 16 [(0, .ref a0_0), (2, .int x2), (3, .long x3), (6, .int x6), (7, .int x7), (10, .int x10), (13, .int x13), (15, .int x15)] → va_P D classes (wd_Model_body cC cI a0_0 a0_1 a0_2 a0_3 a0_4 a0_5 a0_6 a0_7 v0) H → va_D A (wd_Model_body cC cI a0_0 a0_1 a0_2 a0_3 a0_4 a0_5 a0_6 a0_7 v0) → va_S A s.heap H locs → W p l e rm_Model_body s m args below meth c H locs 0 0 (MQ below (q_Model_body D cC cI a0_0 a0_1 a0_2 a0_3 a0_4 a0_5 a0_6 a0_7 out A) args s 0 0 A) (F0 m 491 ls [.int s0])
def J_Model_body_507 (p : Program) (l : Launch) (e : Env) (s : State) (m : MethodId) (args : Array Value) (below : List Frame) (meth : Method) (c : Code) (A : Nat → Prop) (D : va_G) (cC cI : ClassId) (a0_0 a0_1 a0_2 a0_3 a0_4 a0_5 a0_6 a0_7 : Nat) (out : O_Model_body) (k : T_Model → Int32 → Int64 → Int32 → Int32 → Int32 → Int32 → Option O_Model_body) : Prop := ∀ (v0 : T_Model) (x2 : Int32) (x3 : Int64) (x6 : Int32) (x7 : Int32) (x10 : Int32) (x12 : Int32) (ls : Array Slot) (H : Heap) (locs : List Loc), k v0 x2 x3 x6 x7 x10 x12 = some out → lv_has ls 16 [(0, .ref a0_0), (2, .int x2), (3, .long x3), (6, .int x6), (7, .int x7), (10, .int x10), (12, .int x12)] → va_P D classes (wd_Model_body cC cI a0_0 a0_1 a0_2 a0_3 a0_4 a0_5 a0_6 a0_7 v0) H → va_D A (wd_Model_body cC cI a0_0 a0_1 a0_2 a0_3 a0_4 a0_5 a0_6 a0_7 v0) → va_S A s.heap H locs → W p l e rm_Model_body s m args below meth c H locs 0 0 (MQ below (q_Model_body D cC cI a0_0 a0_1 a0_2 a0_3 a0_4 a0_5 a0_6 a0_7 out A) args s 0 0 A) (F0 m 507 ls [])
def J_Model_body_508 (p : Program) (l : Launch) (e : Env) (s : State) (m : MethodId) (args : Array Value) (below : List Frame) (meth : Method) (c : Code) (A : Nat → Prop) (D : va_G) (cC cI : ClassId) (a0_0 a0_1 a0_2 a0_3 a0_4 a0_5 a0_6 a0_7 : Nat) (out : O_Model_body) (k : T_Model → Int32 → Int64 → Int32 → Int32 → Int32 → Int32 → Int32 → Option O_Model_body) : Prop := ∀ (v0 : T_Model) (x2 : Int32) (x3 : Int64) (x6 : Int32) (x7 : Int32) (x10 : Int32) (x12 : Int32) (s0 : Int32) (ls : Array Slot) (H : Heap) (locs : List Loc), k v0 x2 x3 x6 x7 x10 x12 s0 = some out → lv_has ls 16 [(0, .ref a0_0), (2, .int x2), (3, .long x3), (6, .int x6), (7, .int x7), (10, .int x10), (12, .int x12)] → va_P D classes (wd_Model_body cC cI a0_0 a0_1 a0_2 a0_3 a0_4 a0_5 a0_6 a0_7 v0) H → va_D A (wd_Model_body cC cI a0_0 a0_1 a0_2 a0_3 a0_4 a0_5 a0_6 a0_7 v0) → va_S A s.heap H locs → W p l e rm_Model_body s m args below meth c H locs 0 0 (MQ below (q_Model_body D cC cI a0_0 a0_1 a0_2 a0_3 a0_4 a0_5 a0_6 a0_7 out A) args s 0 0 A) (F0 m 508 ls [.int s0])
def f_Model_body_508 (v0 : T_Model) (x2 : Int32) (x3 : Int64) (x6 : Int32) (x7 : Int32) (x10 : Int32) (x12 : Int32) (s0 : Int32) : Option O_Model_body := f_Model_body_510 v0 x2 x3 x6 x7 x10 x12 s0
set_option maxHeartbeats 4000000 in
set_option maxRecDepth 100000 in
theorem w_Model_body_508 {p : Program} {l : Launch} {e : Env} {s : State} {m : MethodId} {args : Array Value} {below : List Frame} {meth : Method} {c : Code} {A : Nat → Prop} {D : va_G} {cC cI : ClassId} {a0_0 a0_1 a0_2 a0_3 a0_4 a0_5 a0_6 a0_7 : Nat} (X : xCX p s m args meth c A D cC cI b_Model_body 16 R_Model (some .boolean)) {out : O_Model_body}   : J_Model_body_508 p l e s m args below meth c A D cC cI a0_0 a0_1 a0_2 a0_3 a0_4 a0_5 a0_6 a0_7 out (f_Model_body_508  ) := by
  obtain ⟨hx, hb, hml, hown, htB, ⟨hK, hN⟩, hZ, hA, hr, hlocks⟩ := id X
  intro v0 x2 x3 x6 x7 x10 x12 s0 ls H locs h hl hP hD hS
  refine lv_istore (lv' := [(13, .int s0), (0, .ref a0_0), (2, .int x2), (3, .long x3), (6, .int x6), (7, .int x7), (10, .int x10), (12, .int x12)]) hx hb d_Model_body_508 hl (by decide) rfl (fun ls hl => ?_)
  exact w_Model_body_510 X v0 x2 x3 x6 x7 x10 x12 s0 ls H locs h (lv_sub hl [1, 2, 3, 4, 5, 6, 7, 0] rfl) hP hD hS

def f_Model_body_507 (v0 : T_Model) (x2 : Int32) (x3 : Int64) (x6 : Int32) (x7 : Int32) (x10 : Int32) (x12 : Int32) : Option O_Model_body := f_Model_body_508 v0 x2 x3 x6 x7 x10 x12 (0 : Int32)
set_option maxHeartbeats 4000000 in
set_option maxRecDepth 100000 in
theorem w_Model_body_507 {p : Program} {l : Launch} {e : Env} {s : State} {m : MethodId} {args : Array Value} {below : List Frame} {meth : Method} {c : Code} {A : Nat → Prop} {D : va_G} {cC cI : ClassId} {a0_0 a0_1 a0_2 a0_3 a0_4 a0_5 a0_6 a0_7 : Nat} (X : xCX p s m args meth c A D cC cI b_Model_body 16 R_Model (some .boolean)) {out : O_Model_body}   : J_Model_body_507 p l e s m args below meth c A D cC cI a0_0 a0_1 a0_2 a0_3 a0_4 a0_5 a0_6 a0_7 out (f_Model_body_507  ) := by
  obtain ⟨hx, hb, hml, hown, htB, ⟨hK, hN⟩, hZ, hA, hr, hlocks⟩ := id X
  intro v0 x2 x3 x6 x7 x10 x12 ls H locs h hl hP hD hS
  refine lv_iconst (v := 0) hx hb d_Model_body_507 (by decide) ?_
  exact w_Model_body_508 X v0 x2 x3 x6 x7 x10 x12 (0 : Int32) ls H locs h (lv_sub hl [0, 1, 2, 3, 4, 5, 6] rfl) hP hD hS

def f_Model_body_491 (v0 : T_Model) (x2 : Int32) (x3 : Int64) (x6 : Int32) (x7 : Int32) (x10 : Int32) (x13 : Int32) (x15 : Int32) (s0 : Int32) : Option O_Model_body := (if x13 = 0 then f_Model_body_507 v0 x2 x3 x6 x7 x10 s0 else (if x15 ≤ 0 then f_Model_body_507 v0 x2 x3 x6 x7 x10 s0 else f_Model_body_508 v0 x2 x3 x6 x7 x10 s0 (1 : Int32)))
set_option maxHeartbeats 4000000 in
set_option maxRecDepth 100000 in
theorem w_Model_body_491 {p : Program} {l : Launch} {e : Env} {s : State} {m : MethodId} {args : Array Value} {below : List Frame} {meth : Method} {c : Code} {A : Nat → Prop} {D : va_G} {cC cI : ClassId} {a0_0 a0_1 a0_2 a0_3 a0_4 a0_5 a0_6 a0_7 : Nat} (X : xCX p s m args meth c A D cC cI b_Model_body 16 R_Model (some .boolean)) {out : O_Model_body}   : J_Model_body_491 p l e s m args below meth c A D cC cI a0_0 a0_1 a0_2 a0_3 a0_4 a0_5 a0_6 a0_7 out (f_Model_body_491  ) := by
  obtain ⟨hx, hb, hml, hown, htB, ⟨hK, hN⟩, hZ, hA, hr, hlocks⟩ := id X
  intro v0 x2 x3 x6 x7 x10 x13 x15 s0 ls H locs h hl hP hD hS
  refine lv_istore (lv' := [(12, .int s0), (0, .ref a0_0), (2, .int x2), (3, .long x3), (6, .int x6), (7, .int x7), (10, .int x10), (13, .int x13), (15, .int x15)]) hx hb d_Model_body_491 hl (by decide) rfl (fun ls hl => ?_)
  refine lv_iload hx hb d_Model_body_493 (lv_at hl 7 rfl) ?_
  refine lv_if_eq (tgt := 507) hx hb d_Model_body_495 rfl (fun hc => ?_) (fun hc => ?_)
  · have h := (if_pos hc).symm.trans h
    exact w_Model_body_507 X v0 x2 x3 x6 x7 x10 s0 ls H locs h (lv_sub hl [1, 2, 3, 4, 5, 6, 0] rfl) hP hD hS
  have h := (if_neg hc).symm.trans h
  refine lv_iload hx hb d_Model_body_498 (lv_at hl 8 rfl) ?_
  refine lv_if_le (tgt := 507) hx hb d_Model_body_500 rfl (fun hc => ?_) (fun hc => ?_)
  · have h := (if_pos hc).symm.trans h
    exact w_Model_body_507 X v0 x2 x3 x6 x7 x10 s0 ls H locs h (lv_sub hl [1, 2, 3, 4, 5, 6, 0] rfl) hP hD hS
  have h := (if_neg hc).symm.trans h
  refine lv_iconst (v := 1) hx hb d_Model_body_503 (by decide) ?_
  refine lv_goto (tgt := 508) hx hb d_Model_body_504 rfl ?_
  exact w_Model_body_508 X v0 x2 x3 x6 x7 x10 s0 (1 : Int32) ls H locs h (lv_sub hl [1, 2, 3, 4, 5, 6, 0] rfl) hP hD hS

def f_Model_body_478 (v0 : T_Model) (x2 : Int32) (x3 : Int64) (x6 : Int32) (x7 : Int32) (x10 : Int32) (x12 : Int32) (x13 : Int32) (x14 : Int32) (x15 : Int32) : Option O_Model_body := (if x14 = 0 then f_Model_body_491 v0 x2 x3 x6 x7 x10 x13 x15 x12 else f_Model_body_491 v0 x2 x3 x6 x7 x10 x13 x15 (-x12))
set_option maxHeartbeats 4000000 in
set_option maxRecDepth 100000 in
theorem w_Model_body_478 {p : Program} {l : Launch} {e : Env} {s : State} {m : MethodId} {args : Array Value} {below : List Frame} {meth : Method} {c : Code} {A : Nat → Prop} {D : va_G} {cC cI : ClassId} {a0_0 a0_1 a0_2 a0_3 a0_4 a0_5 a0_6 a0_7 : Nat} (X : xCX p s m args meth c A D cC cI b_Model_body 16 R_Model (some .boolean)) {out : O_Model_body}   : J_Model_body_478 p l e s m args below meth c A D cC cI a0_0 a0_1 a0_2 a0_3 a0_4 a0_5 a0_6 a0_7 out (f_Model_body_478  ) := by
  obtain ⟨hx, hb, hml, hown, htB, ⟨hK, hN⟩, hZ, hA, hr, hlocks⟩ := id X
  intro v0 x2 x3 x6 x7 x10 x12 x13 x14 x15 ls H locs h hl hP hD hS
  refine lv_iload hx hb d_Model_body_478 (lv_at hl 8 rfl) ?_
  refine lv_if_eq (tgt := 489) hx hb d_Model_body_480 rfl (fun hc => ?_) (fun hc => ?_)
  · have h := (if_pos hc).symm.trans h
    refine lv_iload hx hb d_Model_body_489 (lv_at hl 6 rfl) ?_
    exact w_Model_body_491 X v0 x2 x3 x6 x7 x10 x13 x15 x12 ls H locs h (lv_sub hl [0, 1, 2, 3, 4, 5, 7, 9] rfl) hP hD hS
  have h := (if_neg hc).symm.trans h
  refine lv_iload hx hb d_Model_body_483 (lv_at hl 6 rfl) ?_
  refine lv_ineg hx hb d_Model_body_485 ?_
  refine lv_goto (tgt := 491) hx hb d_Model_body_486 rfl ?_
  exact w_Model_body_491 X v0 x2 x3 x6 x7 x10 x13 x15 (-x12) ls H locs h (lv_sub hl [0, 1, 2, 3, 4, 5, 7, 9] rfl) hP hD hS

def f_Model_body_429   : Nat → T_Model → Int32 → Int64 → Int32 → Int32 → Int32 → Int32 → Int32 → Int32 → Int32 → Option O_Model_body
  | 0, _, _, _, _, _, _, _, _, _, _ => none
  | n + 1, v0, x2, x3, x6, x7, x10, x12, x13, x14, x15 => (f_Model_digitAt v0 x10 x2).bind (fun o433 => (if o433 = 0 then f_Model_body_478 v0 x2 x3 x6 x7 x10 x12 x13 x14 x15 else (if (3 : Int32) ≤ x15 then f_Model_body_478 v0 x2 x3 x6 x7 x10 x12 x13 x14 x15 else if ix x10 120 then (f_Model_body_429  n) v0 x2 x3 x6 x7 (x10 + (1 : Int32)) ((((10 : Int32) * x12) + (v0.1 x10.toNatClampNeg)) - (48 : Int32)) x13 x14 (x15 + (1 : Int32)) else none)))
set_option maxHeartbeats 4000000 in
set_option maxRecDepth 100000 in
theorem w_Model_body_429 {p : Program} {l : Launch} {e : Env} {s : State} {m : MethodId} {args : Array Value} {below : List Frame} {meth : Method} {c : Code} {A : Nat → Prop} {D : va_G} {cC cI : ClassId} {a0_0 a0_1 a0_2 a0_3 a0_4 a0_5 a0_6 a0_7 : Nat} (X : xCX p s m args meth c A D cC cI b_Model_body 16 R_Model (some .boolean)) {out : O_Model_body}   : ∀ n : Nat, J_Model_body_429 p l e s m args below meth c A D cC cI a0_0 a0_1 a0_2 a0_3 a0_4 a0_5 a0_6 a0_7 out (f_Model_body_429   n) := by
  obtain ⟨hx, hb, hml, hown, htB, ⟨hK, hN⟩, hZ, hA, hr, hlocks⟩ := id X
  intro n
  induction n with
  | zero =>
    intro v0 x2 x3 x6 x7 x10 x12 x13 x14 x15 ls H locs h hl hP hD hS
    cases h
  | succ n ih =>
    intro v0 x2 x3 x6 x7 x10 x12 x13 x14 x15 ls H locs h hl hP hD hS
    refine lv_aload_n hx hb d_Model_body_429 rfl (lv_at hl 0 rfl) ?_
    refine lv_iload hx hb d_Model_body_430 (lv_at hl 5 rfl) ?_
    refine lv_iload_n hx hb d_Model_body_432 rfl (lv_at hl 1 rfl) ?_
    obtain ⟨o433, ho433, h⟩ := x_bnd h
    refine x_calli (r0 := o433) (ws2 := (wd_Model_body cC cI a0_0 a0_1 a0_2 a0_3 a0_4 a0_5 a0_6 a0_7 v0)) (x_runV (As := [.int x10, .int x2]) (rest := []) X (c_Model_digitAt l D cC cI H.size a0_0 a0_1 a0_2 a0_3 a0_4 a0_5 a0_6 a0_7 v0 x10 x2 o433 ho433) b_450 2 (htB _ b_453) (htB _ b_451) (htB _ b_452) (htB _ b_319) ⟨by decide, by decide, by decide +kernel⟩ ⟨(Nat.le_of_ble_eq_true rfl), (Nat.le_of_ble_eq_true rfl)⟩ 0 rfl rfl hP hD hS [0, 1, 2, 3, 4, 5, 6, 7] rfl (by decide) rfl rfl hl.1 rfl rfl (Nat.le_of_ble_eq_true rfl) d_Model_body_433) hP hD hS hA [0, 1, 2, 3, 4, 5, 6, 7] [] [0, 1, 2, 3, 4, 5, 6, 7] rfl rfl (by decide) (by decide) rfl (by decide) (fun H locs hP hD hS => ?_)
    refine lv_if_eq (tgt := 478) hx hb d_Model_body_436 rfl (fun hc => ?_) (fun hc => ?_)
    · have h := (if_pos hc).symm.trans h
      exact w_Model_body_478 X v0 x2 x3 x6 x7 x10 x12 x13 x14 x15 ls H locs h (lv_sub hl [0, 1, 2, 3, 4, 5, 6, 7, 8, 9] rfl) hP hD hS
    have h := (if_neg hc).symm.trans h
    refine lv_iload hx hb d_Model_body_439 (lv_at hl 9 rfl) ?_
    refine lv_iconst (v := 3) hx hb d_Model_body_441 (by decide) ?_
    refine lv_icmp_ge (tgt := 478) hx hb d_Model_body_442 rfl (fun hc => ?_) (fun hc => ?_)
    · have h := (if_pos hc).symm.trans h
      exact w_Model_body_478 X v0 x2 x3 x6 x7 x10 x12 x13 x14 x15 ls H locs h (lv_sub hl [0, 1, 2, 3, 4, 5, 6, 7, 8, 9] rfl) hP hD hS
    have h := (if_neg hc).symm.trans h
    refine lv_bipush (v := 10) hx hb d_Model_body_445 (by decide) ?_
    refine lv_iload hx hb d_Model_body_447 (lv_at hl 6 rfl) ?_
    refine lv_imul hx hb d_Model_body_449 ?_
    refine lv_aload_n hx hb d_Model_body_450 rfl (lv_at hl 0 rfl) ?_
    refine va_get (D := D) (ci := 11) (v := .ref a0_1) (C := R_Model) (T := F_Model) (N := 23) hx hb htB in_Model hown hK hP 0 rfl rfl 0 (by decide) (htB _ b_310) (fun _ h9 => h9) rfl d_Model_body_451 ?_
    refine lv_iload hx hb d_Model_body_454 (lv_at hl 5 rfl) ?_
    obtain ⟨hc, h⟩ := x_chk h
    refine va_cald hx hb hK hP 1 0 rfl rfl hc d_Model_body_456 ?_
    refine lv_iadd hx hb d_Model_body_457 ?_
    refine lv_bipush (v := 48) hx hb d_Model_body_458 (by decide) ?_
    refine lv_isub hx hb d_Model_body_460 ?_
    refine lv_istore (lv' := [(12, .int ((((10 : Int32) * x12) + (v0.1 x10.toNatClampNeg)) - (48 : Int32))), (0, .ref a0_0), (2, .int x2), (3, .long x3), (6, .int x6), (7, .int x7), (10, .int x10), (13, .int x13), (14, .int x14), (15, .int x15)]) hx hb d_Model_body_461 hl (by decide) rfl (fun ls hl => ?_)
    refine lv_iload hx hb d_Model_body_463 (lv_at hl 9 rfl) ?_
    refine lv_iconst (v := 1) hx hb d_Model_body_465 (by decide) ?_
    refine lv_iadd hx hb d_Model_body_466 ?_
    refine lv_istore (lv' := [(15, .int (x15 + (1 : Int32))), (12, .int ((((10 : Int32) * x12) + (v0.1 x10.toNatClampNeg)) - (48 : Int32))), (0, .ref a0_0), (2, .int x2), (3, .long x3), (6, .int x6), (7, .int x7), (10, .int x10), (13, .int x13), (14, .int x14)]) hx hb d_Model_body_467 hl (by decide) rfl (fun ls hl => ?_)
    refine lv_iload hx hb d_Model_body_469 (lv_at hl 7 rfl) ?_
    refine lv_iconst (v := 1) hx hb d_Model_body_471 (by decide) ?_
    refine lv_iadd hx hb d_Model_body_472 ?_
    refine lv_istore (lv' := [(10, .int (x10 + (1 : Int32))), (15, .int (x15 + (1 : Int32))), (12, .int ((((10 : Int32) * x12) + (v0.1 x10.toNatClampNeg)) - (48 : Int32))), (0, .ref a0_0), (2, .int x2), (3, .long x3), (6, .int x6), (7, .int x7), (13, .int x13), (14, .int x14)]) hx hb d_Model_body_473 hl (by decide) rfl (fun ls hl => ?_)
    refine lv_goto (tgt := 429) hx hb d_Model_body_475 rfl ?_
    exact ih v0 x2 x3 x6 x7 (x10 + (1 : Int32)) ((((10 : Int32) * x12) + (v0.1 x10.toNatClampNeg)) - (48 : Int32)) x13 x14 (x15 + (1 : Int32)) ls H locs h (lv_sub hl [3, 4, 5, 6, 7, 0, 2, 8, 9, 1] rfl) hP hD hS

def f_Model_body_424 (v0 : T_Model) (x2 : Int32) (x3 : Int64) (x6 : Int32) (x7 : Int32) (x12 : Int32) (x13 : Int32) (x14 : Int32) (s0 : Int32) : Option O_Model_body := f_Model_body_429 FU v0 x2 x3 x6 x7 s0 x12 x13 x14 (0 : Int32)
set_option maxHeartbeats 4000000 in
set_option maxRecDepth 100000 in
theorem w_Model_body_424 {p : Program} {l : Launch} {e : Env} {s : State} {m : MethodId} {args : Array Value} {below : List Frame} {meth : Method} {c : Code} {A : Nat → Prop} {D : va_G} {cC cI : ClassId} {a0_0 a0_1 a0_2 a0_3 a0_4 a0_5 a0_6 a0_7 : Nat} (X : xCX p s m args meth c A D cC cI b_Model_body 16 R_Model (some .boolean)) {out : O_Model_body}   : J_Model_body_424 p l e s m args below meth c A D cC cI a0_0 a0_1 a0_2 a0_3 a0_4 a0_5 a0_6 a0_7 out (f_Model_body_424  ) := by
  obtain ⟨hx, hb, hml, hown, htB, ⟨hK, hN⟩, hZ, hA, hr, hlocks⟩ := id X
  intro v0 x2 x3 x6 x7 x12 x13 x14 s0 ls H locs h hl hP hD hS
  refine lv_istore (lv' := [(10, .int s0), (0, .ref a0_0), (2, .int x2), (3, .long x3), (6, .int x6), (7, .int x7), (12, .int x12), (13, .int x13), (14, .int x14)]) hx hb d_Model_body_424 hl (by decide) rfl (fun ls hl => ?_)
  refine lv_iconst (v := 0) hx hb d_Model_body_426 (by decide) ?_
  refine lv_istore (lv' := [(15, .int (0 : Int32)), (10, .int s0), (0, .ref a0_0), (2, .int x2), (3, .long x3), (6, .int x6), (7, .int x7), (12, .int x12), (13, .int x13), (14, .int x14)]) hx hb d_Model_body_427 hl (by decide) rfl (fun ls hl => ?_)
  exact w_Model_body_429 X FU v0 x2 x3 x6 x7 s0 x12 x13 x14 (0 : Int32) ls H locs h (lv_sub hl [2, 3, 4, 5, 6, 1, 7, 8, 9, 0] rfl) hP hD hS

def f_Model_body_408 (v0 : T_Model) (x2 : Int32) (x3 : Int64) (x6 : Int32) (x7 : Int32) (x10 : Int32) (x12 : Int32) (x13 : Int32) (s0 : Int32) : Option O_Model_body := (if s0 = 0 then f_Model_body_424 v0 x2 x3 x6 x7 x12 x13 s0 x10 else f_Model_body_424 v0 x2 x3 x6 x7 x12 x13 s0 (x10 + (1 : Int32)))
set_option maxHeartbeats 4000000 in
set_option maxRecDepth 100000 in
theorem w_Model_body_408 {p : Program} {l : Launch} {e : Env} {s : State} {m : MethodId} {args : Array Value} {below : List Frame} {meth : Method} {c : Code} {A : Nat → Prop} {D : va_G} {cC cI : ClassId} {a0_0 a0_1 a0_2 a0_3 a0_4 a0_5 a0_6 a0_7 : Nat} (X : xCX p s m args meth c A D cC cI b_Model_body 16 R_Model (some .boolean)) {out : O_Model_body}   : J_Model_body_408 p l e s m args below meth c A D cC cI a0_0 a0_1 a0_2 a0_3 a0_4 a0_5 a0_6 a0_7 out (f_Model_body_408  ) := by
  obtain ⟨hx, hb, hml, hown, htB, ⟨hK, hN⟩, hZ, hA, hr, hlocks⟩ := id X
  intro v0 x2 x3 x6 x7 x10 x12 x13 s0 ls H locs h hl hP hD hS
  refine lv_istore (lv' := [(14, .int s0), (0, .ref a0_0), (2, .int x2), (3, .long x3), (6, .int x6), (7, .int x7), (10, .int x10), (12, .int x12), (13, .int x13)]) hx hb d_Model_body_408 hl (by decide) rfl (fun ls hl => ?_)
  refine lv_iload hx hb d_Model_body_410 (lv_at hl 0 rfl) ?_
  refine lv_if_eq (tgt := 422) hx hb d_Model_body_412 rfl (fun hc => ?_) (fun hc => ?_)
  · have h := (if_pos hc).symm.trans h
    refine lv_iload hx hb d_Model_body_422 (lv_at hl 6 rfl) ?_
    exact w_Model_body_424 X v0 x2 x3 x6 x7 x12 x13 s0 x10 ls H locs h (lv_sub hl [1, 2, 3, 4, 5, 7, 8, 0] rfl) hP hD hS
  have h := (if_neg hc).symm.trans h
  refine lv_iload hx hb d_Model_body_415 (lv_at hl 6 rfl) ?_
  refine lv_iconst (v := 1) hx hb d_Model_body_417 (by decide) ?_
  refine lv_iadd hx hb d_Model_body_418 ?_
  refine lv_goto (tgt := 424) hx hb d_Model_body_419 rfl ?_
  exact w_Model_body_424 X v0 x2 x3 x6 x7 x12 x13 s0 (x10 + (1 : Int32)) ls H locs h (lv_sub hl [1, 2, 3, 4, 5, 7, 8, 0] rfl) hP hD hS

def f_Model_body_407 (v0 : T_Model) (x2 : Int32) (x3 : Int64) (x6 : Int32) (x7 : Int32) (x10 : Int32) (x12 : Int32) (x13 : Int32) : Option O_Model_body := f_Model_body_408 v0 x2 x3 x6 x7 x10 x12 x13 (0 : Int32)
set_option maxHeartbeats 4000000 in
set_option maxRecDepth 100000 in
theorem w_Model_body_407 {p : Program} {l : Launch} {e : Env} {s : State} {m : MethodId} {args : Array Value} {below : List Frame} {meth : Method} {c : Code} {A : Nat → Prop} {D : va_G} {cC cI : ClassId} {a0_0 a0_1 a0_2 a0_3 a0_4 a0_5 a0_6 a0_7 : Nat} (X : xCX p s m args meth c A D cC cI b_Model_body 16 R_Model (some .boolean)) {out : O_Model_body}   : J_Model_body_407 p l e s m args below meth c A D cC cI a0_0 a0_1 a0_2 a0_3 a0_4 a0_5 a0_6 a0_7 out (f_Model_body_407  ) := by
  obtain ⟨hx, hb, hml, hown, htB, ⟨hK, hN⟩, hZ, hA, hr, hlocks⟩ := id X
  intro v0 x2 x3 x6 x7 x10 x12 x13 ls H locs h hl hP hD hS
  refine lv_iconst (v := 0) hx hb d_Model_body_407 (by decide) ?_
  exact w_Model_body_408 X v0 x2 x3 x6 x7 x10 x12 x13 (0 : Int32) ls H locs h (lv_sub hl [0, 1, 2, 3, 4, 5, 6, 7] rfl) hP hD hS

def f_Model_body_377 (v0 : T_Model) (x2 : Int32) (x3 : Int64) (x6 : Int32) (x7 : Int32) (x10 : Int32) (x12 : Int32) (s0 : Int32) : Option O_Model_body := (if x2 ≤ (x10 + (1 : Int32)) then f_Model_body_407 v0 x2 x3 x6 x7 (x10 + (1 : Int32)) x12 s0 else if ix (x10 + (1 : Int32)) 120 then (if (v0.1 (x10 + (1 : Int32)).toNatClampNeg) = (45 : Int32) then f_Model_body_408 v0 x2 x3 x6 x7 (x10 + (1 : Int32)) x12 s0 (1 : Int32) else f_Model_body_407 v0 x2 x3 x6 x7 (x10 + (1 : Int32)) x12 s0) else none)
set_option maxHeartbeats 4000000 in
set_option maxRecDepth 100000 in
theorem w_Model_body_377 {p : Program} {l : Launch} {e : Env} {s : State} {m : MethodId} {args : Array Value} {below : List Frame} {meth : Method} {c : Code} {A : Nat → Prop} {D : va_G} {cC cI : ClassId} {a0_0 a0_1 a0_2 a0_3 a0_4 a0_5 a0_6 a0_7 : Nat} (X : xCX p s m args meth c A D cC cI b_Model_body 16 R_Model (some .boolean)) {out : O_Model_body}   : J_Model_body_377 p l e s m args below meth c A D cC cI a0_0 a0_1 a0_2 a0_3 a0_4 a0_5 a0_6 a0_7 out (f_Model_body_377  ) := by
  obtain ⟨hx, hb, hml, hown, htB, ⟨hK, hN⟩, hZ, hA, hr, hlocks⟩ := id X
  intro v0 x2 x3 x6 x7 x10 x12 s0 ls H locs h hl hP hD hS
  refine lv_istore (lv' := [(13, .int s0), (0, .ref a0_0), (2, .int x2), (3, .long x3), (6, .int x6), (7, .int x7), (10, .int x10), (12, .int x12)]) hx hb d_Model_body_377 hl (by decide) rfl (fun ls hl => ?_)
  refine lv_iload hx hb d_Model_body_379 (lv_at hl 6 rfl) ?_
  refine lv_iconst (v := 1) hx hb d_Model_body_381 (by decide) ?_
  refine lv_iadd hx hb d_Model_body_382 ?_
  refine lv_istore (lv' := [(10, .int (x10 + (1 : Int32))), (13, .int s0), (0, .ref a0_0), (2, .int x2), (3, .long x3), (6, .int x6), (7, .int x7), (12, .int x12)]) hx hb d_Model_body_383 hl (by decide) rfl (fun ls hl => ?_)
  refine lv_iload hx hb d_Model_body_385 (lv_at hl 0 rfl) ?_
  refine lv_iload_n hx hb d_Model_body_387 rfl (lv_at hl 3 rfl) ?_
  refine lv_icmp_ge (tgt := 407) hx hb d_Model_body_388 rfl (fun hc => ?_) (fun hc => ?_)
  · have h := (if_pos hc).symm.trans h
    exact w_Model_body_407 X v0 x2 x3 x6 x7 (x10 + (1 : Int32)) x12 s0 ls H locs h (lv_sub hl [2, 3, 4, 5, 6, 0, 7, 1] rfl) hP hD hS
  have h := (if_neg hc).symm.trans h
  refine lv_aload_n hx hb d_Model_body_391 rfl (lv_at hl 2 rfl) ?_
  refine va_get (D := D) (ci := 11) (v := .ref a0_1) (C := R_Model) (T := F_Model) (N := 23) hx hb htB in_Model hown hK hP 0 rfl rfl 0 (by decide) (htB _ b_310) (fun _ h9 => h9) rfl d_Model_body_392 ?_
  refine lv_iload hx hb d_Model_body_395 (lv_at hl 0 rfl) ?_
  obtain ⟨hc, h⟩ := x_chk h
  refine va_cald hx hb hK hP 1 0 rfl rfl hc d_Model_body_397 ?_
  refine lv_bipush (v := 45) hx hb d_Model_body_398 (by decide) ?_
  refine lv_icmp_ne (tgt := 407) hx hb d_Model_body_400 rfl (fun hc => ?_) (fun hc => ?_)
  · have h := (if_neg hc).symm.trans h
    exact w_Model_body_407 X v0 x2 x3 x6 x7 (x10 + (1 : Int32)) x12 s0 ls H locs h (lv_sub hl [2, 3, 4, 5, 6, 0, 7, 1] rfl) hP hD hS
  have h := (if_pos hc).symm.trans h
  refine lv_iconst (v := 1) hx hb d_Model_body_403 (by decide) ?_
  refine lv_goto (tgt := 408) hx hb d_Model_body_404 rfl ?_
  exact w_Model_body_408 X v0 x2 x3 x6 x7 (x10 + (1 : Int32)) x12 s0 (1 : Int32) ls H locs h (lv_sub hl [2, 3, 4, 5, 6, 0, 7, 1] rfl) hP hD hS

def f_Model_body_376 (v0 : T_Model) (x2 : Int32) (x3 : Int64) (x6 : Int32) (x7 : Int32) (x10 : Int32) (x12 : Int32) : Option O_Model_body := f_Model_body_377 v0 x2 x3 x6 x7 x10 x12 (0 : Int32)
set_option maxHeartbeats 4000000 in
set_option maxRecDepth 100000 in
theorem w_Model_body_376 {p : Program} {l : Launch} {e : Env} {s : State} {m : MethodId} {args : Array Value} {below : List Frame} {meth : Method} {c : Code} {A : Nat → Prop} {D : va_G} {cC cI : ClassId} {a0_0 a0_1 a0_2 a0_3 a0_4 a0_5 a0_6 a0_7 : Nat} (X : xCX p s m args meth c A D cC cI b_Model_body 16 R_Model (some .boolean)) {out : O_Model_body}   : J_Model_body_376 p l e s m args below meth c A D cC cI a0_0 a0_1 a0_2 a0_3 a0_4 a0_5 a0_6 a0_7 out (f_Model_body_376  ) := by
  obtain ⟨hx, hb, hml, hown, htB, ⟨hK, hN⟩, hZ, hA, hr, hlocks⟩ := id X
  intro v0 x2 x3 x6 x7 x10 x12 ls H locs h hl hP hD hS
  refine lv_iconst (v := 0) hx hb d_Model_body_376 (by decide) ?_
  exact w_Model_body_377 X v0 x2 x3 x6 x7 x10 x12 (0 : Int32) ls H locs h (lv_sub hl [0, 1, 2, 3, 4, 5, 6] rfl) hP hD hS

def f_Model_body_338 (v0 : T_Model) (x2 : Int32) (x3 : Int64) (x6 : Int32) (x7 : Int32) (x10 : Int32) (x12 : Int32) (s0 : Int32) : Option O_Model_body := (if s0 = 0 then f_Model_body_510 v0 x2 x3 x6 x7 x10 x12 s0 else (if (v0.2.2.2.2.2.2.2.2.1 (4 : Int32).toNatClampNeg) ≤ 0 then f_Model_body_510 v0 x2 x3 x6 x7 x10 x12 s0 else (if x2 ≤ x10 then f_Model_body_376 v0 x2 x3 x6 x7 x10 x12 else if ix x10 120 then (if (v0.1 x10.toNatClampNeg) = (69 : Int32) then f_Model_body_377 v0 x2 x3 x6 x7 x10 x12 (1 : Int32) else f_Model_body_376 v0 x2 x3 x6 x7 x10 x12) else none)))
set_option maxHeartbeats 4000000 in
set_option maxRecDepth 100000 in
theorem w_Model_body_338 {p : Program} {l : Launch} {e : Env} {s : State} {m : MethodId} {args : Array Value} {below : List Frame} {meth : Method} {c : Code} {A : Nat → Prop} {D : va_G} {cC cI : ClassId} {a0_0 a0_1 a0_2 a0_3 a0_4 a0_5 a0_6 a0_7 : Nat} (X : xCX p s m args meth c A D cC cI b_Model_body 16 R_Model (some .boolean)) {out : O_Model_body}   : J_Model_body_338 p l e s m args below meth c A D cC cI a0_0 a0_1 a0_2 a0_3 a0_4 a0_5 a0_6 a0_7 out (f_Model_body_338  ) := by
  obtain ⟨hx, hb, hml, hown, htB, ⟨hK, hN⟩, hZ, hA, hr, hlocks⟩ := id X
  intro v0 x2 x3 x6 x7 x10 x12 s0 ls H locs h hl hP hD hS
  refine lv_istore (lv' := [(13, .int s0), (0, .ref a0_0), (2, .int x2), (3, .long x3), (6, .int x6), (7, .int x7), (10, .int x10), (12, .int x12)]) hx hb d_Model_body_338 hl (by decide) rfl (fun ls hl => ?_)
  refine lv_iload hx hb d_Model_body_340 (lv_at hl 0 rfl) ?_
  refine lv_if_eq (tgt := 510) hx hb d_Model_body_342 rfl (fun hc => ?_) (fun hc => ?_)
  · have h := (if_pos hc).symm.trans h
    exact w_Model_body_510 X v0 x2 x3 x6 x7 x10 x12 s0 ls H locs h (lv_sub hl [1, 2, 3, 4, 5, 6, 7, 0] rfl) hP hD hS
  have h := (if_neg hc).symm.trans h
  refine lv_aload_n hx hb d_Model_body_345 rfl (lv_at hl 1 rfl) ?_
  refine va_get (D := D) (ci := 11) (v := .ref a0_5) (C := R_Model) (T := F_Model) (N := 23) hx hb htB in_Model hown hK hP 0 rfl rfl 8 (by decide) (htB _ b_330) (fun _ h9 => h9) rfl d_Model_body_346 ?_
  refine lv_iconst (v := 4) hx hb d_Model_body_349 (by decide) ?_
  refine va_iald hx hb hK hP 5 1 rfl rfl (show ¬ (((4 : Int32) : Int32) < 0 ∨ 7 ≤ ((4 : Int32) : Int32).toNatClampNeg) by decide) d_Model_body_350 ?_
  refine lv_if_le (tgt := 510) hx hb d_Model_body_351 rfl (fun hc => ?_) (fun hc => ?_)
  · have h := (if_pos hc).symm.trans h
    exact w_Model_body_510 X v0 x2 x3 x6 x7 x10 x12 s0 ls H locs h (lv_sub hl [1, 2, 3, 4, 5, 6, 7, 0] rfl) hP hD hS
  have h := (if_neg hc).symm.trans h
  refine lv_iload hx hb d_Model_body_354 (lv_at hl 6 rfl) ?_
  refine lv_iload_n hx hb d_Model_body_356 rfl (lv_at hl 2 rfl) ?_
  refine lv_icmp_ge (tgt := 376) hx hb d_Model_body_357 rfl (fun hc => ?_) (fun hc => ?_)
  · have h := (if_pos hc).symm.trans h
    exact w_Model_body_376 X v0 x2 x3 x6 x7 x10 x12 ls H locs h (lv_sub hl [1, 2, 3, 4, 5, 6, 7] rfl) hP hD hS
  have h := (if_neg hc).symm.trans h
  refine lv_aload_n hx hb d_Model_body_360 rfl (lv_at hl 1 rfl) ?_
  refine va_get (D := D) (ci := 11) (v := .ref a0_1) (C := R_Model) (T := F_Model) (N := 23) hx hb htB in_Model hown hK hP 0 rfl rfl 0 (by decide) (htB _ b_310) (fun _ h9 => h9) rfl d_Model_body_361 ?_
  refine lv_iload hx hb d_Model_body_364 (lv_at hl 6 rfl) ?_
  obtain ⟨hc, h⟩ := x_chk h
  refine va_cald hx hb hK hP 1 0 rfl rfl hc d_Model_body_366 ?_
  refine lv_bipush (v := 69) hx hb d_Model_body_367 (by decide) ?_
  refine lv_icmp_ne (tgt := 376) hx hb d_Model_body_369 rfl (fun hc => ?_) (fun hc => ?_)
  · have h := (if_neg hc).symm.trans h
    exact w_Model_body_376 X v0 x2 x3 x6 x7 x10 x12 ls H locs h (lv_sub hl [1, 2, 3, 4, 5, 6, 7] rfl) hP hD hS
  have h := (if_pos hc).symm.trans h
  refine lv_iconst (v := 1) hx hb d_Model_body_372 (by decide) ?_
  refine lv_goto (tgt := 377) hx hb d_Model_body_373 rfl ?_
  exact w_Model_body_377 X v0 x2 x3 x6 x7 x10 x12 (1 : Int32) ls H locs h (lv_sub hl [1, 2, 3, 4, 5, 6, 7] rfl) hP hD hS

def J_Model_body_225 (p : Program) (l : Launch) (e : Env) (s : State) (m : MethodId) (args : Array Value) (below : List Frame) (meth : Method) (c : Code) (A : Nat → Prop) (D : va_G) (cC cI : ClassId) (a0_0 a0_1 a0_2 a0_3 a0_4 a0_5 a0_6 a0_7 : Nat) (out : O_Model_body) (k : T_Model → Int32 → Int32 → Int64 → Int32 → Int32 → Int32 → Int32 → Int32 → Int32 → Option O_Model_body) : Prop := ∀ (v0 : T_Model) (x1 : Int32) (x2 : Int32) (x3 : Int64) (x5 : Int32) (x6 : Int32) (x7 : Int32) (x8 : Int32) (x9 : Int32) (x10 : Int32) (ls : Array Slot) (H : Heap) (locs : List Loc), k v0 x1 x2 x3 x5 x6 x7 x8 x9 x10 = some out → lv_has ls 16 [(0, .ref a0_0), (1, .int x1), (2, .int x2), (3, .long x3), (5, .int x5), (6, .int x6), (7, .int x7), (8, .int x8), (9, .int x9), (10, .int x10)] → va_P D classes (wd_Model_body cC cI a0_0 a0_1 a0_2 a0_3 a0_4 a0_5 a0_6 a0_7 v0) H → va_D A (wd_Model_body cC cI a0_0 a0_1 a0_2 a0_3 a0_4 a0_5 a0_6 a0_7 v0) → va_S A s.heap H locs → W p l e rm_Model_body s m args below meth c H locs 0 0 (MQ below (q_Model_body D cC cI a0_0 a0_1 a0_2 a0_3 a0_4 a0_5 a0_6 a0_7 out A) args s 0 0 A) (F0 m 225 ls [])
def J_Model_body_259 (p : Program) (l : Launch) (e : Env) (s : State) (m : MethodId) (args : Array Value) (below : List Frame) (meth : Method) (c : Code) (A : Nat → Prop) (D : va_G) (cC cI : ClassId) (a0_0 a0_1 a0_2 a0_3 a0_4 a0_5 a0_6 a0_7 : Nat) (out : O_Model_body) (k : T_Model → Int32 → Int32 → Int64 → Int32 → Int32 → Int32 → Int32 → Int32 → Int32 → Option O_Model_body) : Prop := ∀ (v0 : T_Model) (x1 : Int32) (x2 : Int32) (x3 : Int64) (x5 : Int32) (x6 : Int32) (x7 : Int32) (x8 : Int32) (x9 : Int32) (x10 : Int32) (ls : Array Slot) (H : Heap) (locs : List Loc), k v0 x1 x2 x3 x5 x6 x7 x8 x9 x10 = some out → lv_has ls 16 [(0, .ref a0_0), (1, .int x1), (2, .int x2), (3, .long x3), (5, .int x5), (6, .int x6), (7, .int x7), (8, .int x8), (9, .int x9), (10, .int x10)] → va_P D classes (wd_Model_body cC cI a0_0 a0_1 a0_2 a0_3 a0_4 a0_5 a0_6 a0_7 v0) H → va_D A (wd_Model_body cC cI a0_0 a0_1 a0_2 a0_3 a0_4 a0_5 a0_6 a0_7 v0) → va_S A s.heap H locs → W p l e rm_Model_body s m args below meth c H locs 0 0 (MQ below (q_Model_body D cC cI a0_0 a0_1 a0_2 a0_3 a0_4 a0_5 a0_6 a0_7 out A) args s 0 0 A) (F0 m 259 ls [])
def J_Model_body_260 (p : Program) (l : Launch) (e : Env) (s : State) (m : MethodId) (args : Array Value) (below : List Frame) (meth : Method) (c : Code) (A : Nat → Prop) (D : va_G) (cC cI : ClassId) (a0_0 a0_1 a0_2 a0_3 a0_4 a0_5 a0_6 a0_7 : Nat) (out : O_Model_body) (k : T_Model → Int32 → Int32 → Int64 → Int32 → Int32 → Int32 → Int32 → Int32 → Int32 → Int32 → Option O_Model_body) : Prop := ∀ (v0 : T_Model) (x1 : Int32) (x2 : Int32) (x3 : Int64) (x5 : Int32) (x6 : Int32) (x7 : Int32) (x8 : Int32) (x9 : Int32) (x10 : Int32) (s0 : Int32) (ls : Array Slot) (H : Heap) (locs : List Loc), k v0 x1 x2 x3 x5 x6 x7 x8 x9 x10 s0 = some out → lv_has ls 16 [(0, .ref a0_0), (1, .int x1), (2, .int x2), (3, .long x3), (5, .int x5), (6, .int x6), (7, .int x7), (8, .int x8), (9, .int x9), (10, .int x10)] → va_P D classes (wd_Model_body cC cI a0_0 a0_1 a0_2 a0_3 a0_4 a0_5 a0_6 a0_7 v0) H → va_D A (wd_Model_body cC cI a0_0 a0_1 a0_2 a0_3 a0_4 a0_5 a0_6 a0_7 v0) → va_S A s.heap H locs → W p l e rm_Model_body s m args below meth c H locs 0 0 (MQ below (q_Model_body D cC cI a0_0 a0_1 a0_2 a0_3 a0_4 a0_5 a0_6 a0_7 out A) args s 0 0 A) (F0 m 260 ls [.int s0])
def J_Model_body_303 (p : Program) (l : Launch) (e : Env) (s : State) (m : MethodId) (args : Array Value) (below : List Frame) (meth : Method) (c : Code) (A : Nat → Prop) (D : va_G) (cC cI : ClassId) (a0_0 a0_1 a0_2 a0_3 a0_4 a0_5 a0_6 a0_7 : Nat) (out : O_Model_body) (k : T_Model → Int32 → Int32 → Int64 → Int32 → Int32 → Int32 → Int32 → Int32 → Int32 → Option O_Model_body) : Prop := ∀ (v0 : T_Model) (x1 : Int32) (x2 : Int32) (x3 : Int64) (x5 : Int32) (x6 : Int32) (x7 : Int32) (x8 : Int32) (x9 : Int32) (x10 : Int32) (ls : Array Slot) (H : Heap) (locs : List Loc), k v0 x1 x2 x3 x5 x6 x7 x8 x9 x10 = some out → lv_has ls 16 [(0, .ref a0_0), (1, .int x1), (2, .int x2), (3, .long x3), (5, .int x5), (6, .int x6), (7, .int x7), (8, .int x8), (9, .int x9), (10, .int x10)] → va_P D classes (wd_Model_body cC cI a0_0 a0_1 a0_2 a0_3 a0_4 a0_5 a0_6 a0_7 v0) H → va_D A (wd_Model_body cC cI a0_0 a0_1 a0_2 a0_3 a0_4 a0_5 a0_6 a0_7 v0) → va_S A s.heap H locs → W p l e rm_Model_body s m args below meth c H locs 0 0 (MQ below (q_Model_body D cC cI a0_0 a0_1 a0_2 a0_3 a0_4 a0_5 a0_6 a0_7 out A) args s 0 0 A) (F0 m 303 ls [])
def J_Model_body_304 (p : Program) (l : Launch) (e : Env) (s : State) (m : MethodId) (args : Array Value) (below : List Frame) (meth : Method) (c : Code) (A : Nat → Prop) (D : va_G) (cC cI : ClassId) (a0_0 a0_1 a0_2 a0_3 a0_4 a0_5 a0_6 a0_7 : Nat) (out : O_Model_body) (k : T_Model → Int32 → Int32 → Int64 → Int32 → Int32 → Int32 → Int32 → Int32 → Int32 → Int32 → Option O_Model_body) : Prop := ∀ (v0 : T_Model) (x1 : Int32) (x2 : Int32) (x3 : Int64) (x5 : Int32) (x6 : Int32) (x7 : Int32) (x8 : Int32) (x9 : Int32) (x10 : Int32) (s0 : Int32) (ls : Array Slot) (H : Heap) (locs : List Loc), k v0 x1 x2 x3 x5 x6 x7 x8 x9 x10 s0 = some out → lv_has ls 16 [(0, .ref a0_0), (1, .int x1), (2, .int x2), (3, .long x3), (5, .int x5), (6, .int x6), (7, .int x7), (8, .int x8), (9, .int x9), (10, .int x10)] → va_P D classes (wd_Model_body cC cI a0_0 a0_1 a0_2 a0_3 a0_4 a0_5 a0_6 a0_7 v0) H → va_D A (wd_Model_body cC cI a0_0 a0_1 a0_2 a0_3 a0_4 a0_5 a0_6 a0_7 v0) → va_S A s.heap H locs → W p l e rm_Model_body s m args below meth c H locs 0 0 (MQ below (q_Model_body D cC cI a0_0 a0_1 a0_2 a0_3 a0_4 a0_5 a0_6 a0_7 out A) args s 0 0 A) (F0 m 304 ls [.int s0])
def J_Model_body_306 (p : Program) (l : Launch) (e : Env) (s : State) (m : MethodId) (args : Array Value) (below : List Frame) (meth : Method) (c : Code) (A : Nat → Prop) (D : va_G) (cC cI : ClassId) (a0_0 a0_1 a0_2 a0_3 a0_4 a0_5 a0_6 a0_7 : Nat) (out : O_Model_body) (k : T_Model → Int32 → Int32 → Int64 → Int32 → Int32 → Int32 → Int32 → Int32 → Int32 → Int32 → Option O_Model_body) : Prop := ∀ (v0 : T_Model) (x1 : Int32) (x2 : Int32) (x3 : Int64) (x5 : Int32) (x6 : Int32) (x7 : Int32) (x8 : Int32) (x9 : Int32) (x10 : Int32) (x11 : Int32) (ls : Array Slot) (H : Heap) (locs : List Loc), k v0 x1 x2 x3 x5 x6 x7 x8 x9 x10 x11 = some out → lv_has ls 16 [(0, .ref a0_0), (1, .int x1), (2, .int x2), (3, .long x3), (5, .int x5), (6, .int x6), (7, .int x7), (8, .int x8), (9, .int x9), (10, .int x10), (11, .int x11)] → va_P D classes (wd_Model_body cC cI a0_0 a0_1 a0_2 a0_3 a0_4 a0_5 a0_6 a0_7 v0) H → va_D A (wd_Model_body cC cI a0_0 a0_1 a0_2 a0_3 a0_4 a0_5 a0_6 a0_7 v0) → va_S A s.heap H locs → W p l e rm_Model_body s m args below meth c H locs 0 0 (MQ below (q_Model_body D cC cI a0_0 a0_1 a0_2 a0_3 a0_4 a0_5 a0_6 a0_7 out A) args s 0 0 A) (F0 m 306 ls [])
def J_Model_body_320 (p : Program) (l : Launch) (e : Env) (s : State) (m : MethodId) (args : Array Value) (below : List Frame) (meth : Method) (c : Code) (A : Nat → Prop) (D : va_G) (cC cI : ClassId) (a0_0 a0_1 a0_2 a0_3 a0_4 a0_5 a0_6 a0_7 : Nat) (out : O_Model_body) (k : T_Model → Int32 → Int32 → Int64 → Int32 → Int32 → Int32 → Int32 → Int32 → Int32 → Int32 → Option O_Model_body) : Prop := ∀ (v0 : T_Model) (x1 : Int32) (x2 : Int32) (x3 : Int64) (x5 : Int32) (x6 : Int32) (x7 : Int32) (x8 : Int32) (x9 : Int32) (x11 : Int32) (s0 : Int32) (ls : Array Slot) (H : Heap) (locs : List Loc), k v0 x1 x2 x3 x5 x6 x7 x8 x9 x11 s0 = some out → lv_has ls 16 [(0, .ref a0_0), (1, .int x1), (2, .int x2), (3, .long x3), (5, .int x5), (6, .int x6), (7, .int x7), (8, .int x8), (9, .int x9), (11, .int x11)] → va_P D classes (wd_Model_body cC cI a0_0 a0_1 a0_2 a0_3 a0_4 a0_5 a0_6 a0_7 v0) H → va_D A (wd_Model_body cC cI a0_0 a0_1 a0_2 a0_3 a0_4 a0_5 a0_6 a0_7 v0) → va_S A s.heap H locs → W p l e rm_Model_body s m args below meth c H locs 0 0 (MQ below (q_Model_body D cC cI a0_0 a0_1 a0_2 a0_3 a0_4 a0_5 a0_6 a0_7 out A) args s 0 0 A) (F0 m 320 ls [.int s0])
def f_Model_body_320 (k28 : T_Model → Int32 → Int32 → Int64 → Int32 → Int32 → Int32 → Int32 → Int32 → Int32 → Int32 → Option O_Model_body) (v0 : T_Model) (x1 : Int32) (x2 : Int32) (x3 : Int64) (x5 : Int32) (x6 : Int32) (x7 : Int32) (x8 : Int32) (x9 : Int32) (x11 : Int32) (s0 : Int32) : Option O_Model_body := k28 v0 x1 x2 x3 x5 x6 x7 x8 x9 s0 x11
set_option maxHeartbeats 4000000 in
set_option maxRecDepth 100000 in
theorem w_Model_body_320 {p : Program} {l : Launch} {e : Env} {s : State} {m : MethodId} {args : Array Value} {below : List Frame} {meth : Method} {c : Code} {A : Nat → Prop} {D : va_G} {cC cI : ClassId} {a0_0 a0_1 a0_2 a0_3 a0_4 a0_5 a0_6 a0_7 : Nat} (X : xCX p s m args meth c A D cC cI b_Model_body 16 R_Model (some .boolean)) {out : O_Model_body} {k28 : T_Model → Int32 → Int32 → Int64 → Int32 → Int32 → Int32 → Int32 → Int32 → Int32 → Int32 → Option O_Model_body} (hk28 : J_Model_body_28 p l e s m args below meth c A D cC cI a0_0 a0_1 a0_2 a0_3 a0_4 a0_5 a0_6 a0_7 out k28) : J_Model_body_320 p l e s m args below meth c A D cC cI a0_0 a0_1 a0_2 a0_3 a0_4 a0_5 a0_6 a0_7 out (f_Model_body_320  k28) := by
  obtain ⟨hx, hb, hml, hown, htB, ⟨hK, hN⟩, hZ, hA, hr, hlocks⟩ := id X
  intro v0 x1 x2 x3 x5 x6 x7 x8 x9 x11 s0 ls H locs h hl hP hD hS
  refine lv_istore (lv' := [(10, .int s0), (0, .ref a0_0), (1, .int x1), (2, .int x2), (3, .long x3), (5, .int x5), (6, .int x6), (7, .int x7), (8, .int x8), (9, .int x9), (11, .int x11)]) hx hb d_Model_body_320 hl (by decide) rfl (fun ls hl => ?_)
  refine lv_goto (tgt := 28) hx hb d_Model_body_322 rfl ?_
  exact hk28 v0 x1 x2 x3 x5 x6 x7 x8 x9 s0 x11 ls H locs h (lv_sub hl [1, 2, 3, 4, 5, 6, 7, 8, 9, 0, 10] rfl) hP hD hS

def f_Model_body_306 (k28 : T_Model → Int32 → Int32 → Int64 → Int32 → Int32 → Int32 → Int32 → Int32 → Int32 → Int32 → Option O_Model_body) (v0 : T_Model) (x1 : Int32) (x2 : Int32) (x3 : Int64) (x5 : Int32) (x6 : Int32) (x7 : Int32) (x8 : Int32) (x9 : Int32) (x10 : Int32) (x11 : Int32) : Option O_Model_body := (if x11 = 0 then f_Model_body_320 k28 v0 x1 x2 x3 x5 x6 x7 x8 x9 x11 x10 else f_Model_body_320 k28 v0 x1 x2 x3 x5 x6 x7 x8 x9 x11 (x10 + (1 : Int32)))
set_option maxHeartbeats 4000000 in
set_option maxRecDepth 100000 in
theorem w_Model_body_306 {p : Program} {l : Launch} {e : Env} {s : State} {m : MethodId} {args : Array Value} {below : List Frame} {meth : Method} {c : Code} {A : Nat → Prop} {D : va_G} {cC cI : ClassId} {a0_0 a0_1 a0_2 a0_3 a0_4 a0_5 a0_6 a0_7 : Nat} (X : xCX p s m args meth c A D cC cI b_Model_body 16 R_Model (some .boolean)) {out : O_Model_body} {k28 : T_Model → Int32 → Int32 → Int64 → Int32 → Int32 → Int32 → Int32 → Int32 → Int32 → Int32 → Option O_Model_body} (hk28 : J_Model_body_28 p l e s m args below meth c A D cC cI a0_0 a0_1 a0_2 a0_3 a0_4 a0_5 a0_6 a0_7 out k28) : J_Model_body_306 p l e s m args below meth c A D cC cI a0_0 a0_1 a0_2 a0_3 a0_4 a0_5 a0_6 a0_7 out (f_Model_body_306  k28) := by
  obtain ⟨hx, hb, hml, hown, htB, ⟨hK, hN⟩, hZ, hA, hr, hlocks⟩ := id X
  intro v0 x1 x2 x3 x5 x6 x7 x8 x9 x10 x11 ls H locs h hl hP hD hS
  refine lv_iload hx hb d_Model_body_306 (lv_at hl 10 rfl) ?_
  refine lv_if_eq (tgt := 318) hx hb d_Model_body_308 rfl (fun hc => ?_) (fun hc => ?_)
  · have h := (if_pos hc).symm.trans h
    refine lv_iload hx hb d_Model_body_318 (lv_at hl 9 rfl) ?_
    exact w_Model_body_320 X hk28 v0 x1 x2 x3 x5 x6 x7 x8 x9 x11 x10 ls H locs h (lv_sub hl [0, 1, 2, 3, 4, 5, 6, 7, 8, 10] rfl) hP hD hS
  have h := (if_neg hc).symm.trans h
  refine lv_iload hx hb d_Model_body_311 (lv_at hl 9 rfl) ?_
  refine lv_iconst (v := 1) hx hb d_Model_body_313 (by decide) ?_
  refine lv_iadd hx hb d_Model_body_314 ?_
  refine lv_goto (tgt := 320) hx hb d_Model_body_315 rfl ?_
  exact w_Model_body_320 X hk28 v0 x1 x2 x3 x5 x6 x7 x8 x9 x11 (x10 + (1 : Int32)) ls H locs h (lv_sub hl [0, 1, 2, 3, 4, 5, 6, 7, 8, 10] rfl) hP hD hS

def f_Model_body_304 (k28 : T_Model → Int32 → Int32 → Int64 → Int32 → Int32 → Int32 → Int32 → Int32 → Int32 → Int32 → Option O_Model_body) (v0 : T_Model) (x1 : Int32) (x2 : Int32) (x3 : Int64) (x5 : Int32) (x6 : Int32) (x7 : Int32) (x8 : Int32) (x9 : Int32) (x10 : Int32) (s0 : Int32) : Option O_Model_body := f_Model_body_306 k28 v0 x1 x2 x3 x5 x6 x7 x8 x9 x10 s0
set_option maxHeartbeats 4000000 in
set_option maxRecDepth 100000 in
theorem w_Model_body_304 {p : Program} {l : Launch} {e : Env} {s : State} {m : MethodId} {args : Array Value} {below : List Frame} {meth : Method} {c : Code} {A : Nat → Prop} {D : va_G} {cC cI : ClassId} {a0_0 a0_1 a0_2 a0_3 a0_4 a0_5 a0_6 a0_7 : Nat} (X : xCX p s m args meth c A D cC cI b_Model_body 16 R_Model (some .boolean)) {out : O_Model_body} {k28 : T_Model → Int32 → Int32 → Int64 → Int32 → Int32 → Int32 → Int32 → Int32 → Int32 → Int32 → Option O_Model_body} (hk28 : J_Model_body_28 p l e s m args below meth c A D cC cI a0_0 a0_1 a0_2 a0_3 a0_4 a0_5 a0_6 a0_7 out k28) : J_Model_body_304 p l e s m args below meth c A D cC cI a0_0 a0_1 a0_2 a0_3 a0_4 a0_5 a0_6 a0_7 out (f_Model_body_304  k28) := by
  obtain ⟨hx, hb, hml, hown, htB, ⟨hK, hN⟩, hZ, hA, hr, hlocks⟩ := id X
  intro v0 x1 x2 x3 x5 x6 x7 x8 x9 x10 s0 ls H locs h hl hP hD hS
  refine lv_istore (lv' := [(11, .int s0), (0, .ref a0_0), (1, .int x1), (2, .int x2), (3, .long x3), (5, .int x5), (6, .int x6), (7, .int x7), (8, .int x8), (9, .int x9), (10, .int x10)]) hx hb d_Model_body_304 hl (by decide) rfl (fun ls hl => ?_)
  exact w_Model_body_306 X hk28 v0 x1 x2 x3 x5 x6 x7 x8 x9 x10 s0 ls H locs h (lv_sub hl [1, 2, 3, 4, 5, 6, 7, 8, 9, 10, 0] rfl) hP hD hS

def f_Model_body_303 (k28 : T_Model → Int32 → Int32 → Int64 → Int32 → Int32 → Int32 → Int32 → Int32 → Int32 → Int32 → Option O_Model_body) (v0 : T_Model) (x1 : Int32) (x2 : Int32) (x3 : Int64) (x5 : Int32) (x6 : Int32) (x7 : Int32) (x8 : Int32) (x9 : Int32) (x10 : Int32) : Option O_Model_body := f_Model_body_304 k28 v0 x1 x2 x3 x5 x6 x7 x8 x9 x10 (0 : Int32)
set_option maxHeartbeats 4000000 in
set_option maxRecDepth 100000 in
theorem w_Model_body_303 {p : Program} {l : Launch} {e : Env} {s : State} {m : MethodId} {args : Array Value} {below : List Frame} {meth : Method} {c : Code} {A : Nat → Prop} {D : va_G} {cC cI : ClassId} {a0_0 a0_1 a0_2 a0_3 a0_4 a0_5 a0_6 a0_7 : Nat} (X : xCX p s m args meth c A D cC cI b_Model_body 16 R_Model (some .boolean)) {out : O_Model_body} {k28 : T_Model → Int32 → Int32 → Int64 → Int32 → Int32 → Int32 → Int32 → Int32 → Int32 → Int32 → Option O_Model_body} (hk28 : J_Model_body_28 p l e s m args below meth c A D cC cI a0_0 a0_1 a0_2 a0_3 a0_4 a0_5 a0_6 a0_7 out k28) : J_Model_body_303 p l e s m args below meth c A D cC cI a0_0 a0_1 a0_2 a0_3 a0_4 a0_5 a0_6 a0_7 out (f_Model_body_303  k28) := by
  obtain ⟨hx, hb, hml, hown, htB, ⟨hK, hN⟩, hZ, hA, hr, hlocks⟩ := id X
  intro v0 x1 x2 x3 x5 x6 x7 x8 x9 x10 ls H locs h hl hP hD hS
  refine lv_iconst (v := 0) hx hb d_Model_body_303 (by decide) ?_
  exact w_Model_body_304 X hk28 v0 x1 x2 x3 x5 x6 x7 x8 x9 x10 (0 : Int32) ls H locs h (lv_sub hl [0, 1, 2, 3, 4, 5, 6, 7, 8, 9] rfl) hP hD hS

def f_Model_body_260 (k28 : T_Model → Int32 → Int32 → Int64 → Int32 → Int32 → Int32 → Int32 → Int32 → Int32 → Int32 → Option O_Model_body) (v0 : T_Model) (x1 : Int32) (x2 : Int32) (x3 : Int64) (x5 : Int32) (x6 : Int32) (x7 : Int32) (x8 : Int32) (x9 : Int32) (x10 : Int32) (s0 : Int32) : Option O_Model_body := (if x2 ≤ x10 then f_Model_body_303 k28 v0 x1 x2 x3 x5 x6 x7 x8 x9 x10 else if ix x10 120 then (if (v0.1 x10.toNatClampNeg) = (44 : Int32) then (if (v0.2.2.2.2.2.2.2.2.1 (3 : Int32).toNatClampNeg) ≤ 0 then f_Model_body_303 k28 v0 x1 x2 x3 x5 x6 x7 x8 x9 x10 else (if x9 = 0 then (if s0 = 0 then f_Model_body_303 k28 v0 x1 x2 x3 x5 x6 x7 x8 x9 x10 else f_Model_body_304 k28 v0 x1 x2 x3 x5 x6 x7 x8 x9 x10 (1 : Int32)) else f_Model_body_303 k28 v0 x1 x2 x3 x5 x6 x7 x8 x9 x10)) else f_Model_body_303 k28 v0 x1 x2 x3 x5 x6 x7 x8 x9 x10) else none)
set_option maxHeartbeats 4000000 in
set_option maxRecDepth 100000 in
theorem w_Model_body_260 {p : Program} {l : Launch} {e : Env} {s : State} {m : MethodId} {args : Array Value} {below : List Frame} {meth : Method} {c : Code} {A : Nat → Prop} {D : va_G} {cC cI : ClassId} {a0_0 a0_1 a0_2 a0_3 a0_4 a0_5 a0_6 a0_7 : Nat} (X : xCX p s m args meth c A D cC cI b_Model_body 16 R_Model (some .boolean)) {out : O_Model_body} {k28 : T_Model → Int32 → Int32 → Int64 → Int32 → Int32 → Int32 → Int32 → Int32 → Int32 → Int32 → Option O_Model_body} (hk28 : J_Model_body_28 p l e s m args below meth c A D cC cI a0_0 a0_1 a0_2 a0_3 a0_4 a0_5 a0_6 a0_7 out k28) : J_Model_body_260 p l e s m args below meth c A D cC cI a0_0 a0_1 a0_2 a0_3 a0_4 a0_5 a0_6 a0_7 out (f_Model_body_260  k28) := by
  obtain ⟨hx, hb, hml, hown, htB, ⟨hK, hN⟩, hZ, hA, hr, hlocks⟩ := id X
  intro v0 x1 x2 x3 x5 x6 x7 x8 x9 x10 s0 ls H locs h hl hP hD hS
  refine lv_istore (lv' := [(12, .int s0), (0, .ref a0_0), (1, .int x1), (2, .int x2), (3, .long x3), (5, .int x5), (6, .int x6), (7, .int x7), (8, .int x8), (9, .int x9), (10, .int x10)]) hx hb d_Model_body_260 hl (by decide) rfl (fun ls hl => ?_)
  refine lv_iload hx hb d_Model_body_262 (lv_at hl 10 rfl) ?_
  refine lv_iload_n hx hb d_Model_body_264 rfl (lv_at hl 3 rfl) ?_
  refine lv_icmp_ge (tgt := 303) hx hb d_Model_body_265 rfl (fun hc => ?_) (fun hc => ?_)
  · have h := (if_pos hc).symm.trans h
    exact w_Model_body_303 X hk28 v0 x1 x2 x3 x5 x6 x7 x8 x9 x10 ls H locs h (lv_sub hl [1, 2, 3, 4, 5, 6, 7, 8, 9, 10] rfl) hP hD hS
  have h := (if_neg hc).symm.trans h
  refine lv_aload_n hx hb d_Model_body_268 rfl (lv_at hl 1 rfl) ?_
  refine va_get (D := D) (ci := 11) (v := .ref a0_1) (C := R_Model) (T := F_Model) (N := 23) hx hb htB in_Model hown hK hP 0 rfl rfl 0 (by decide) (htB _ b_310) (fun _ h9 => h9) rfl d_Model_body_269 ?_
  refine lv_iload hx hb d_Model_body_272 (lv_at hl 10 rfl) ?_
  obtain ⟨hc, h⟩ := x_chk h
  refine va_cald hx hb hK hP 1 0 rfl rfl hc d_Model_body_274 ?_
  refine lv_bipush (v := 44) hx hb d_Model_body_275 (by decide) ?_
  refine lv_icmp_ne (tgt := 303) hx hb d_Model_body_277 rfl (fun hc => ?_) (fun hc => ?_)
  · have h := (if_neg hc).symm.trans h
    exact w_Model_body_303 X hk28 v0 x1 x2 x3 x5 x6 x7 x8 x9 x10 ls H locs h (lv_sub hl [1, 2, 3, 4, 5, 6, 7, 8, 9, 10] rfl) hP hD hS
  have h := (if_pos hc).symm.trans h
  refine lv_aload_n hx hb d_Model_body_280 rfl (lv_at hl 1 rfl) ?_
  refine va_get (D := D) (ci := 11) (v := .ref a0_5) (C := R_Model) (T := F_Model) (N := 23) hx hb htB in_Model hown hK hP 0 rfl rfl 8 (by decide) (htB _ b_330) (fun _ h9 => h9) rfl d_Model_body_281 ?_
  refine lv_iconst (v := 3) hx hb d_Model_body_284 (by decide) ?_
  refine va_iald hx hb hK hP 5 1 rfl rfl (show ¬ (((3 : Int32) : Int32) < 0 ∨ 7 ≤ ((3 : Int32) : Int32).toNatClampNeg) by decide) d_Model_body_285 ?_
  refine lv_if_le (tgt := 303) hx hb d_Model_body_286 rfl (fun hc => ?_) (fun hc => ?_)
  · have h := (if_pos hc).symm.trans h
    exact w_Model_body_303 X hk28 v0 x1 x2 x3 x5 x6 x7 x8 x9 x10 ls H locs h (lv_sub hl [1, 2, 3, 4, 5, 6, 7, 8, 9, 10] rfl) hP hD hS
  have h := (if_neg hc).symm.trans h
  refine lv_iload hx hb d_Model_body_289 (lv_at hl 9 rfl) ?_
  refine lv_if_ne (tgt := 303) hx hb d_Model_body_291 rfl (fun hc => ?_) (fun hc => ?_)
  · have h := (if_neg hc).symm.trans h
    exact w_Model_body_303 X hk28 v0 x1 x2 x3 x5 x6 x7 x8 x9 x10 ls H locs h (lv_sub hl [1, 2, 3, 4, 5, 6, 7, 8, 9, 10] rfl) hP hD hS
  have h := (if_pos hc).symm.trans h
  refine lv_iload hx hb d_Model_body_294 (lv_at hl 0 rfl) ?_
  refine lv_if_eq (tgt := 303) hx hb d_Model_body_296 rfl (fun hc => ?_) (fun hc => ?_)
  · have h := (if_pos hc).symm.trans h
    exact w_Model_body_303 X hk28 v0 x1 x2 x3 x5 x6 x7 x8 x9 x10 ls H locs h (lv_sub hl [1, 2, 3, 4, 5, 6, 7, 8, 9, 10] rfl) hP hD hS
  have h := (if_neg hc).symm.trans h
  refine lv_iconst (v := 1) hx hb d_Model_body_299 (by decide) ?_
  refine lv_goto (tgt := 304) hx hb d_Model_body_300 rfl ?_
  exact w_Model_body_304 X hk28 v0 x1 x2 x3 x5 x6 x7 x8 x9 x10 (1 : Int32) ls H locs h (lv_sub hl [1, 2, 3, 4, 5, 6, 7, 8, 9, 10] rfl) hP hD hS

def f_Model_body_259 (k28 : T_Model → Int32 → Int32 → Int64 → Int32 → Int32 → Int32 → Int32 → Int32 → Int32 → Int32 → Option O_Model_body) (v0 : T_Model) (x1 : Int32) (x2 : Int32) (x3 : Int64) (x5 : Int32) (x6 : Int32) (x7 : Int32) (x8 : Int32) (x9 : Int32) (x10 : Int32) : Option O_Model_body := f_Model_body_260 k28 v0 x1 x2 x3 x5 x6 x7 x8 x9 x10 (0 : Int32)
set_option maxHeartbeats 4000000 in
set_option maxRecDepth 100000 in
theorem w_Model_body_259 {p : Program} {l : Launch} {e : Env} {s : State} {m : MethodId} {args : Array Value} {below : List Frame} {meth : Method} {c : Code} {A : Nat → Prop} {D : va_G} {cC cI : ClassId} {a0_0 a0_1 a0_2 a0_3 a0_4 a0_5 a0_6 a0_7 : Nat} (X : xCX p s m args meth c A D cC cI b_Model_body 16 R_Model (some .boolean)) {out : O_Model_body} {k28 : T_Model → Int32 → Int32 → Int64 → Int32 → Int32 → Int32 → Int32 → Int32 → Int32 → Int32 → Option O_Model_body} (hk28 : J_Model_body_28 p l e s m args below meth c A D cC cI a0_0 a0_1 a0_2 a0_3 a0_4 a0_5 a0_6 a0_7 out k28) : J_Model_body_259 p l e s m args below meth c A D cC cI a0_0 a0_1 a0_2 a0_3 a0_4 a0_5 a0_6 a0_7 out (f_Model_body_259  k28) := by
  obtain ⟨hx, hb, hml, hown, htB, ⟨hK, hN⟩, hZ, hA, hr, hlocks⟩ := id X
  intro v0 x1 x2 x3 x5 x6 x7 x8 x9 x10 ls H locs h hl hP hD hS
  refine lv_iconst (v := 0) hx hb d_Model_body_259 (by decide) ?_
  exact w_Model_body_260 X hk28 v0 x1 x2 x3 x5 x6 x7 x8 x9 x10 (0 : Int32) ls H locs h (lv_sub hl [0, 1, 2, 3, 4, 5, 6, 7, 8, 9] rfl) hP hD hS

def f_Model_body_225 (k28 : T_Model → Int32 → Int32 → Int64 → Int32 → Int32 → Int32 → Int32 → Int32 → Int32 → Int32 → Option O_Model_body) (v0 : T_Model) (x1 : Int32) (x2 : Int32) (x3 : Int64) (x5 : Int32) (x6 : Int32) (x7 : Int32) (x8 : Int32) (x9 : Int32) (x10 : Int32) : Option O_Model_body := (if x10 ≤ x1 then f_Model_body_259 k28 v0 x1 x2 x3 x5 x6 x7 x8 x9 x10 else (f_Model_digitAt v0 (x10 - (1 : Int32)) x2).bind (fun o237 => (if o237 = 0 then f_Model_body_259 k28 v0 x1 x2 x3 x5 x6 x7 x8 x9 x10 else (f_Model_digitAt v0 (x10 + (1 : Int32)) x2).bind (fun o249 => (if o249 = 0 then f_Model_body_259 k28 v0 x1 x2 x3 x5 x6 x7 x8 x9 x10 else f_Model_body_260 k28 v0 x1 x2 x3 x5 x6 x7 x8 x9 x10 (1 : Int32))))))
set_option maxHeartbeats 4000000 in
set_option maxRecDepth 100000 in
theorem w_Model_body_225 {p : Program} {l : Launch} {e : Env} {s : State} {m : MethodId} {args : Array Value} {below : List Frame} {meth : Method} {c : Code} {A : Nat → Prop} {D : va_G} {cC cI : ClassId} {a0_0 a0_1 a0_2 a0_3 a0_4 a0_5 a0_6 a0_7 : Nat} (X : xCX p s m args meth c A D cC cI b_Model_body 16 R_Model (some .boolean)) {out : O_Model_body} {k28 : T_Model → Int32 → Int32 → Int64 → Int32 → Int32 → Int32 → Int32 → Int32 → Int32 → Int32 → Option O_Model_body} (hk28 : J_Model_body_28 p l e s m args below meth c A D cC cI a0_0 a0_1 a0_2 a0_3 a0_4 a0_5 a0_6 a0_7 out k28) : J_Model_body_225 p l e s m args below meth c A D cC cI a0_0 a0_1 a0_2 a0_3 a0_4 a0_5 a0_6 a0_7 out (f_Model_body_225  k28) := by
  obtain ⟨hx, hb, hml, hown, htB, ⟨hK, hN⟩, hZ, hA, hr, hlocks⟩ := id X
  intro v0 x1 x2 x3 x5 x6 x7 x8 x9 x10 ls H locs h hl hP hD hS
  refine lv_iload hx hb d_Model_body_225 (lv_at hl 9 rfl) ?_
  refine lv_iload_n hx hb d_Model_body_227 rfl (lv_at hl 1 rfl) ?_
  refine lv_icmp_le (tgt := 259) hx hb d_Model_body_228 rfl (fun hc => ?_) (fun hc => ?_)
  · have h := (if_pos hc).symm.trans h
    exact w_Model_body_259 X hk28 v0 x1 x2 x3 x5 x6 x7 x8 x9 x10 ls H locs h (lv_sub hl [0, 1, 2, 3, 4, 5, 6, 7, 8, 9] rfl) hP hD hS
  have h := (if_neg hc).symm.trans h
  refine lv_aload_n hx hb d_Model_body_231 rfl (lv_at hl 0 rfl) ?_
  refine lv_iload hx hb d_Model_body_232 (lv_at hl 9 rfl) ?_
  refine lv_iconst (v := 1) hx hb d_Model_body_234 (by decide) ?_
  refine lv_isub hx hb d_Model_body_235 ?_
  refine lv_iload_n hx hb d_Model_body_236 rfl (lv_at hl 2 rfl) ?_
  obtain ⟨o237, ho237, h⟩ := x_bnd h
  refine x_calli (r0 := o237) (ws2 := (wd_Model_body cC cI a0_0 a0_1 a0_2 a0_3 a0_4 a0_5 a0_6 a0_7 v0)) (x_runV (As := [.int (x10 - (1 : Int32)), .int x2]) (rest := []) X (c_Model_digitAt l D cC cI H.size a0_0 a0_1 a0_2 a0_3 a0_4 a0_5 a0_6 a0_7 v0 (x10 - (1 : Int32)) x2 o237 ho237) b_450 2 (htB _ b_453) (htB _ b_451) (htB _ b_452) (htB _ b_319) ⟨by decide, by decide, by decide +kernel⟩ ⟨(Nat.le_of_ble_eq_true rfl), (Nat.le_of_ble_eq_true rfl)⟩ 0 rfl rfl hP hD hS [0, 1, 2, 3, 4, 5, 6, 7] rfl (by decide) rfl rfl hl.1 rfl rfl (Nat.le_of_ble_eq_true rfl) d_Model_body_237) hP hD hS hA [0, 1, 2, 3, 4, 5, 6, 7] [] [0, 1, 2, 3, 4, 5, 6, 7] rfl rfl (by decide) (by decide) rfl (by decide) (fun H locs hP hD hS => ?_)
  refine lv_if_eq (tgt := 259) hx hb d_Model_body_240 rfl (fun hc => ?_) (fun hc => ?_)
  · have h := (if_pos hc).symm.trans h
    exact w_Model_body_259 X hk28 v0 x1 x2 x3 x5 x6 x7 x8 x9 x10 ls H locs h (lv_sub hl [0, 1, 2, 3, 4, 5, 6, 7, 8, 9] rfl) hP hD hS
  have h := (if_neg hc).symm.trans h
  refine lv_aload_n hx hb d_Model_body_243 rfl (lv_at hl 0 rfl) ?_
  refine lv_iload hx hb d_Model_body_244 (lv_at hl 9 rfl) ?_
  refine lv_iconst (v := 1) hx hb d_Model_body_246 (by decide) ?_
  refine lv_iadd hx hb d_Model_body_247 ?_
  refine lv_iload_n hx hb d_Model_body_248 rfl (lv_at hl 2 rfl) ?_
  obtain ⟨o249, ho249, h⟩ := x_bnd h
  refine x_calli (r0 := o249) (ws2 := (wd_Model_body cC cI a0_0 a0_1 a0_2 a0_3 a0_4 a0_5 a0_6 a0_7 v0)) (x_runV (As := [.int (x10 + (1 : Int32)), .int x2]) (rest := []) X (c_Model_digitAt l D cC cI H.size a0_0 a0_1 a0_2 a0_3 a0_4 a0_5 a0_6 a0_7 v0 (x10 + (1 : Int32)) x2 o249 ho249) b_450 2 (htB _ b_453) (htB _ b_451) (htB _ b_452) (htB _ b_319) ⟨by decide, by decide, by decide +kernel⟩ ⟨(Nat.le_of_ble_eq_true rfl), (Nat.le_of_ble_eq_true rfl)⟩ 0 rfl rfl hP hD hS [0, 1, 2, 3, 4, 5, 6, 7] rfl (by decide) rfl rfl hl.1 rfl rfl (Nat.le_of_ble_eq_true rfl) d_Model_body_249) hP hD hS hA [0, 1, 2, 3, 4, 5, 6, 7] [] [0, 1, 2, 3, 4, 5, 6, 7] rfl rfl (by decide) (by decide) rfl (by decide) (fun H locs hP hD hS => ?_)
  refine lv_if_eq (tgt := 259) hx hb d_Model_body_252 rfl (fun hc => ?_) (fun hc => ?_)
  · have h := (if_pos hc).symm.trans h
    exact w_Model_body_259 X hk28 v0 x1 x2 x3 x5 x6 x7 x8 x9 x10 ls H locs h (lv_sub hl [0, 1, 2, 3, 4, 5, 6, 7, 8, 9] rfl) hP hD hS
  have h := (if_neg hc).symm.trans h
  refine lv_iconst (v := 1) hx hb d_Model_body_255 (by decide) ?_
  refine lv_goto (tgt := 260) hx hb d_Model_body_256 rfl ?_
  exact w_Model_body_260 X hk28 v0 x1 x2 x3 x5 x6 x7 x8 x9 x10 (1 : Int32) ls H locs h (lv_sub hl [0, 1, 2, 3, 4, 5, 6, 7, 8, 9] rfl) hP hD hS

def J_Model_body_75 (p : Program) (l : Launch) (e : Env) (s : State) (m : MethodId) (args : Array Value) (below : List Frame) (meth : Method) (c : Code) (A : Nat → Prop) (D : va_G) (cC cI : ClassId) (a0_0 a0_1 a0_2 a0_3 a0_4 a0_5 a0_6 a0_7 : Nat) (out : O_Model_body) (k : T_Model → Int32 → Int32 → Int64 → Int32 → Int32 → Int32 → Int32 → Int32 → Int32 → Int32 → Int32 → Option O_Model_body) : Prop := ∀ (v0 : T_Model) (x1 : Int32) (x2 : Int32) (x3 : Int64) (x5 : Int32) (x6 : Int32) (x8 : Int32) (x9 : Int32) (x10 : Int32) (x11 : Int32) (x12 : Int32) (s0 : Int32) (ls : Array Slot) (H : Heap) (locs : List Loc), k v0 x1 x2 x3 x5 x6 x8 x9 x10 x11 x12 s0 = some out → lv_has ls 16 [(0, .ref a0_0), (1, .int x1), (2, .int x2), (3, .long x3), (5, .int x5), (6, .int x6), (8, .int x8), (9, .int x9), (10, .int x10), (11, .int x11), (12, .int x12)] → va_P D classes (wd_Model_body cC cI a0_0 a0_1 a0_2 a0_3 a0_4 a0_5 a0_6 a0_7 v0) H → va_D A (wd_Model_body cC cI a0_0 a0_1 a0_2 a0_3 a0_4 a0_5 a0_6 a0_7 v0) → va_S A s.heap H locs → W p l e rm_Model_body s m args below meth c H locs 0 0 (MQ below (q_Model_body D cC cI a0_0 a0_1 a0_2 a0_3 a0_4 a0_5 a0_6 a0_7 out A) args s 0 0 A) (F0 m 75 ls [.int s0])
def J_Model_body_91 (p : Program) (l : Launch) (e : Env) (s : State) (m : MethodId) (args : Array Value) (below : List Frame) (meth : Method) (c : Code) (A : Nat → Prop) (D : va_G) (cC cI : ClassId) (a0_0 a0_1 a0_2 a0_3 a0_4 a0_5 a0_6 a0_7 : Nat) (out : O_Model_body) (k : T_Model → Int32 → Int32 → Int64 → Int32 → Int32 → Int32 → Int32 → Int32 → Int32 → Int32 → Int32 → Option O_Model_body) : Prop := ∀ (v0 : T_Model) (x1 : Int32) (x2 : Int32) (x3 : Int64) (x5 : Int32) (x7 : Int32) (x8 : Int32) (x9 : Int32) (x10 : Int32) (x11 : Int32) (x12 : Int32) (s0 : Int32) (ls : Array Slot) (H : Heap) (locs : List Loc), k v0 x1 x2 x3 x5 x7 x8 x9 x10 x11 x12 s0 = some out → lv_has ls 16 [(0, .ref a0_0), (1, .int x1), (2, .int x2), (3, .long x3), (5, .int x5), (7, .int x7), (8, .int x8), (9, .int x9), (10, .int x10), (11, .int x11), (12, .int x12)] → va_P D classes (wd_Model_body cC cI a0_0 a0_1 a0_2 a0_3 a0_4 a0_5 a0_6 a0_7 v0) H → va_D A (wd_Model_body cC cI a0_0 a0_1 a0_2 a0_3 a0_4 a0_5 a0_6 a0_7 v0) → va_S A s.heap H locs → W p l e rm_Model_body s m args below meth c H locs 0 0 (MQ below (q_Model_body D cC cI a0_0 a0_1 a0_2 a0_3 a0_4 a0_5 a0_6 a0_7 out A) args s 0 0 A) (F0 m 91 ls [.int s0])
def J_Model_body_193 (p : Program) (l : Launch) (e : Env) (s : State) (m : MethodId) (args : Array Value) (below : List Frame) (meth : Method) (c : Code) (A : Nat → Prop) (D : va_G) (cC cI : ClassId) (a0_0 a0_1 a0_2 a0_3 a0_4 a0_5 a0_6 a0_7 : Nat) (out : O_Model_body) (k : T_Model → Int32 → Int32 → Int64 → Int32 → Int32 → Int32 → Int32 → Int32 → Int32 → Int32 → Option O_Model_body) : Prop := ∀ (v0 : T_Model) (x1 : Int32) (x2 : Int32) (x3 : Int64) (x5 : Int32) (x6 : Int32) (x7 : Int32) (x8 : Int32) (x9 : Int32) (x10 : Int32) (x11 : Int32) (ls : Array Slot) (H : Heap) (locs : List Loc), k v0 x1 x2 x3 x5 x6 x7 x8 x9 x10 x11 = some out → lv_has ls 16 [(0, .ref a0_0), (1, .int x1), (2, .int x2), (3, .long x3), (5, .int x5), (6, .int x6), (7, .int x7), (8, .int x8), (9, .int x9), (10, .int x10), (11, .int x11)] → va_P D classes (wd_Model_body cC cI a0_0 a0_1 a0_2 a0_3 a0_4 a0_5 a0_6 a0_7 v0) H → va_D A (wd_Model_body cC cI a0_0 a0_1 a0_2 a0_3 a0_4 a0_5 a0_6 a0_7 v0) → va_S A s.heap H locs → W p l e rm_Model_body s m args below meth c H locs 0 0 (MQ below (q_Model_body D cC cI a0_0 a0_1 a0_2 a0_3 a0_4 a0_5 a0_6 a0_7 out A) args s 0 0 A) (F0 m 193 ls [])
def f_Model_body_193 (k28 : T_Model → Int32 → Int32 → Int64 → Int32 → Int32 → Int32 → Int32 → Int32 → Int32 → Int32 → Option O_Model_body) (v0 : T_Model) (x1 : Int32) (x2 : Int32) (x3 : Int64) (x5 : Int32) (x6 : Int32) (x7 : Int32) (x8 : Int32) (x9 : Int32) (x10 : Int32) (x11 : Int32) : Option O_Model_body := f_Model_body_306 k28 v0 x1 x2 x3 x5 x6 x7 x8 x9 x10 x11
set_option maxHeartbeats 4000000 in
set_option maxRecDepth 100000 in
theorem w_Model_body_193 {p : Program} {l : Launch} {e : Env} {s : State} {m : MethodId} {args : Array Value} {below : List Frame} {meth : Method} {c : Code} {A : Nat → Prop} {D : va_G} {cC cI : ClassId} {a0_0 a0_1 a0_2 a0_3 a0_4 a0_5 a0_6 a0_7 : Nat} (X : xCX p s m args meth c A D cC cI b_Model_body 16 R_Model (some .boolean)) {out : O_Model_body} {k28 : T_Model → Int32 → Int32 → Int64 → Int32 → Int32 → Int32 → Int32 → Int32 → Int32 → Int32 → Option O_Model_body} (hk28 : J_Model_body_28 p l e s m args below meth c A D cC cI a0_0 a0_1 a0_2 a0_3 a0_4 a0_5 a0_6 a0_7 out k28) : J_Model_body_193 p l e s m args below meth c A D cC cI a0_0 a0_1 a0_2 a0_3 a0_4 a0_5 a0_6 a0_7 out (f_Model_body_193  k28) := by
  obtain ⟨hx, hb, hml, hown, htB, ⟨hK, hN⟩, hZ, hA, hr, hlocks⟩ := id X
  intro v0 x1 x2 x3 x5 x6 x7 x8 x9 x10 x11 ls H locs h hl hP hD hS
  refine lv_goto (tgt := 306) hx hb d_Model_body_193 rfl ?_
  exact w_Model_body_306 X hk28 v0 x1 x2 x3 x5 x6 x7 x8 x9 x10 x11 ls H locs h (lv_sub hl [0, 1, 2, 3, 4, 5, 6, 7, 8, 9, 10] rfl) hP hD hS

def J_Model_body_110 (p : Program) (l : Launch) (e : Env) (s : State) (m : MethodId) (args : Array Value) (below : List Frame) (meth : Method) (c : Code) (A : Nat → Prop) (D : va_G) (cC cI : ClassId) (a0_0 a0_1 a0_2 a0_3 a0_4 a0_5 a0_6 a0_7 : Nat) (out : O_Model_body) (k : T_Model → Int32 → Int32 → Int64 → Int32 → Int32 → Int32 → Int32 → Int32 → Int32 → Int32 → Int32 → Option O_Model_body) : Prop := ∀ (v0 : T_Model) (x1 : Int32) (x2 : Int32) (x3 : Int64) (x5 : Int32) (x7 : Int32) (x8 : Int32) (x9 : Int32) (x10 : Int32) (x11 : Int32) (x12 : Int32) (s0 : Int32) (ls : Array Slot) (H : Heap) (locs : List Loc), k v0 x1 x2 x3 x5 x7 x8 x9 x10 x11 x12 s0 = some out → lv_has ls 16 [(0, .ref a0_0), (1, .int x1), (2, .int x2), (3, .long x3), (5, .int x5), (7, .int x7), (8, .int x8), (9, .int x9), (10, .int x10), (11, .int x11), (12, .int x12)] → va_P D classes (wd_Model_body cC cI a0_0 a0_1 a0_2 a0_3 a0_4 a0_5 a0_6 a0_7 v0) H → va_D A (wd_Model_body cC cI a0_0 a0_1 a0_2 a0_3 a0_4 a0_5 a0_6 a0_7 v0) → va_S A s.heap H locs → W p l e rm_Model_body s m args below meth c H locs 0 0 (MQ below (q_Model_body D cC cI a0_0 a0_1 a0_2 a0_3 a0_4 a0_5 a0_6 a0_7 out A) args s 0 0 A) (F0 m 110 ls [.int s0])
def J_Model_body_136 (p : Program) (l : Launch) (e : Env) (s : State) (m : MethodId) (args : Array Value) (below : List Frame) (meth : Method) (c : Code) (A : Nat → Prop) (D : va_G) (cC cI : ClassId) (a0_0 a0_1 a0_2 a0_3 a0_4 a0_5 a0_6 a0_7 : Nat) (out : O_Model_body) (k : T_Model → Int32 → Int32 → Int64 → Int32 → Int32 → Int32 → Int32 → Int32 → Int32 → Int32 → Int32 → Option O_Model_body) : Prop := ∀ (v0 : T_Model) (x1 : Int32) (x2 : Int32) (x3 : Int64) (x5 : Int32) (x6 : Int32) (x7 : Int32) (x8 : Int32) (x9 : Int32) (x10 : Int32) (x11 : Int32) (x12 : Int32) (ls : Array Slot) (H : Heap) (locs : List Loc), k v0 x1 x2 x3 x5 x6 x7 x8 x9 x10 x11 x12 = some out → lv_has ls 16 [(0, .ref a0_0), (1, .int x1), (2, .int x2), (3, .long x3), (5, .int x5), (6, .int x6), (7, .int x7), (8, .int x8), (9, .int x9), (10, .int x10), (11, .int x11), (12, .int x12)] → va_P D classes (wd_Model_body cC cI a0_0 a0_1 a0_2 a0_3 a0_4 a0_5 a0_6 a0_7 v0) H → va_D A (wd_Model_body cC cI a0_0 a0_1 a0_2 a0_3 a0_4 a0_5 a0_6 a0_7 v0) → va_S A s.heap H locs → W p l e rm_Model_body s m args below meth c H locs 0 0 (MQ below (q_Model_body D cC cI a0_0 a0_1 a0_2 a0_3 a0_4 a0_5 a0_6 a0_7 out A) args s 0 0 A) (F0 m 136 ls [.ref a0_0])
def J_Model_body_141 (p : Program) (l : Launch) (e : Env) (s : State) (m : MethodId) (args : Array Value) (below : List Frame) (meth : Method) (c : Code) (A : Nat → Prop) (D : va_G) (cC cI : ClassId) (a0_0 a0_1 a0_2 a0_3 a0_4 a0_5 a0_6 a0_7 : Nat) (out : O_Model_body) (k : T_Model → Int32 → Int32 → Int64 → Int32 → Int32 → Int32 → Int32 → Int32 → Int32 → Int32 → Int32 → Int32 → Option O_Model_body) : Prop := ∀ (v0 : T_Model) (x1 : Int32) (x2 : Int32) (x3 : Int64) (x5 : Int32) (x6 : Int32) (x7 : Int32) (x8 : Int32) (x9 : Int32) (x10 : Int32) (x11 : Int32) (x12 : Int32) (s1 : Int32) (ls : Array Slot) (H : Heap) (locs : List Loc), k v0 x1 x2 x3 x5 x6 x7 x8 x9 x10 x11 x12 s1 = some out → lv_has ls 16 [(0, .ref a0_0), (1, .int x1), (2, .int x2), (3, .long x3), (5, .int x5), (6, .int x6), (7, .int x7), (8, .int x8), (9, .int x9), (10, .int x10), (11, .int x11), (12, .int x12)] → va_P D classes (wd_Model_body cC cI a0_0 a0_1 a0_2 a0_3 a0_4 a0_5 a0_6 a0_7 v0) H → va_D A (wd_Model_body cC cI a0_0 a0_1 a0_2 a0_3 a0_4 a0_5 a0_6 a0_7 v0) → va_S A s.heap H locs → W p l e rm_Model_body s m args below meth c H locs 0 0 (MQ below (q_Model_body D cC cI a0_0 a0_1 a0_2 a0_3 a0_4 a0_5 a0_6 a0_7 out A) args s 0 0 A) (F0 m 141 ls [.int s1, .ref a0_0])
def J_Model_body_147 (p : Program) (l : Launch) (e : Env) (s : State) (m : MethodId) (args : Array Value) (below : List Frame) (meth : Method) (c : Code) (A : Nat → Prop) (D : va_G) (cC cI : ClassId) (a0_0 a0_1 a0_2 a0_3 a0_4 a0_5 a0_6 a0_7 : Nat) (out : O_Model_body) (k : T_Model → Int32 → Int32 → Int64 → Int32 → Int32 → Int32 → Int32 → Int32 → Int32 → Int32 → Int32 → Int32 → Option O_Model_body) : Prop := ∀ (v0 : T_Model) (x1 : Int32) (x2 : Int32) (x3 : Int64) (x5 : Int32) (x6 : Int32) (x7 : Int32) (x8 : Int32) (x9 : Int32) (x10 : Int32) (x11 : Int32) (x12 : Int32) (x13 : Int32) (ls : Array Slot) (H : Heap) (locs : List Loc), k v0 x1 x2 x3 x5 x6 x7 x8 x9 x10 x11 x12 x13 = some out → lv_has ls 16 [(0, .ref a0_0), (1, .int x1), (2, .int x2), (3, .long x3), (5, .int x5), (6, .int x6), (7, .int x7), (8, .int x8), (9, .int x9), (10, .int x10), (11, .int x11), (12, .int x12), (13, .int x13)] → va_P D classes (wd_Model_body cC cI a0_0 a0_1 a0_2 a0_3 a0_4 a0_5 a0_6 a0_7 v0) H → va_D A (wd_Model_body cC cI a0_0 a0_1 a0_2 a0_3 a0_4 a0_5 a0_6 a0_7 v0) → va_S A s.heap H locs → W p l e rm_Model_body s m args below meth c H locs 0 0 (MQ below (q_Model_body D cC cI a0_0 a0_1 a0_2 a0_3 a0_4 a0_5 a0_6 a0_7 out A) args s 0 0 A) (F0 m 147 ls [])
def J_Model_body_173 (p : Program) (l : Launch) (e : Env) (s : State) (m : MethodId) (args : Array Value) (below : List Frame) (meth : Method) (c : Code) (A : Nat → Prop) (D : va_G) (cC cI : ClassId) (a0_0 a0_1 a0_2 a0_3 a0_4 a0_5 a0_6 a0_7 : Nat) (out : O_Model_body) (k : T_Model → Int32 → Int32 → Int64 → Int32 → Int32 → Int32 → Int32 → Int32 → Int32 → Int32 → Option O_Model_body) : Prop := ∀ (v0 : T_Model) (x1 : Int32) (x2 : Int32) (x3 : Int64) (x5 : Int32) (x7 : Int32) (x8 : Int32) (x9 : Int32) (x10 : Int32) (x11 : Int32) (x12 : Int32) (ls : Array Slot) (H : Heap) (locs : List Loc), k v0 x1 x2 x3 x5 x7 x8 x9 x10 x11 x12 = some out → lv_has ls 16 [(0, .ref a0_0), (1, .int x1), (2, .int x2), (3, .long x3), (5, .int x5), (7, .int x7), (8, .int x8), (9, .int x9), (10, .int x10), (11, .int x11), (12, .int x12)] → va_P D classes (wd_Model_body cC cI a0_0 a0_1 a0_2 a0_3 a0_4 a0_5 a0_6 a0_7 v0) H → va_D A (wd_Model_body cC cI a0_0 a0_1 a0_2 a0_3 a0_4 a0_5 a0_6 a0_7 v0) → va_S A s.heap H locs → W p l e rm_Model_body s m args below meth c H locs 0 0 (MQ below (q_Model_body D cC cI a0_0 a0_1 a0_2 a0_3 a0_4 a0_5 a0_6 a0_7 out A) args s 0 0 A) (F0 m 173 ls [])
def J_Model_body_189 (p : Program) (l : Launch) (e : Env) (s : State) (m : MethodId) (args : Array Value) (below : List Frame) (meth : Method) (c : Code) (A : Nat → Prop) (D : va_G) (cC cI : ClassId) (a0_0 a0_1 a0_2 a0_3 a0_4 a0_5 a0_6 a0_7 : Nat) (out : O_Model_body) (k : T_Model → Int32 → Int32 → Int32 → Int32 → Int32 → Int32 → Int32 → Int32 → Int64 → Option O_Model_body) : Prop := ∀ (v0 : T_Model) (x1 : Int32) (x2 : Int32) (x5 : Int32) (x7 : Int32) (x8 : Int32) (x9 : Int32) (x10 : Int32) (x11 : Int32) (s0 : Int64) (ls : Array Slot) (H : Heap) (locs : List Loc), k v0 x1 x2 x5 x7 x8 x9 x10 x11 s0 = some out → lv_has ls 16 [(0, .ref a0_0), (1, .int x1), (2, .int x2), (5, .int x5), (7, .int x7), (8, .int x8), (9, .int x9), (10, .int x10), (11, .int x11)] → va_P D classes (wd_Model_body cC cI a0_0 a0_1 a0_2 a0_3 a0_4 a0_5 a0_6 a0_7 v0) H → va_D A (wd_Model_body cC cI a0_0 a0_1 a0_2 a0_3 a0_4 a0_5 a0_6 a0_7 v0) → va_S A s.heap H locs → W p l e rm_Model_body s m args below meth c H locs 0 0 (MQ below (q_Model_body D cC cI a0_0 a0_1 a0_2 a0_3 a0_4 a0_5 a0_6 a0_7 out A) args s 0 0 A) (F0 m 189 ls [.long s0])
def f_Model_body_189 (k28 : T_Model → Int32 → Int32 → Int64 → Int32 → Int32 → Int32 → Int32 → Int32 → Int32 → Int32 → Option O_Model_body) (v0 : T_Model) (x1 : Int32) (x2 : Int32) (x5 : Int32) (x7 : Int32) (x8 : Int32) (x9 : Int32) (x10 : Int32) (x11 : Int32) (s0 : Int64) : Option O_Model_body := f_Model_body_193 k28 v0 x1 x2 s0 x5 (0 : Int32) x7 x8 x9 x10 x11
set_option maxHeartbeats 4000000 in
set_option maxRecDepth 100000 in
theorem w_Model_body_189 {p : Program} {l : Launch} {e : Env} {s : State} {m : MethodId} {args : Array Value} {below : List Frame} {meth : Method} {c : Code} {A : Nat → Prop} {D : va_G} {cC cI : ClassId} {a0_0 a0_1 a0_2 a0_3 a0_4 a0_5 a0_6 a0_7 : Nat} (X : xCX p s m args meth c A D cC cI b_Model_body 16 R_Model (some .boolean)) {out : O_Model_body} {k28 : T_Model → Int32 → Int32 → Int64 → Int32 → Int32 → Int32 → Int32 → Int32 → Int32 → Int32 → Option O_Model_body} (hk28 : J_Model_body_28 p l e s m args below meth c A D cC cI a0_0 a0_1 a0_2 a0_3 a0_4 a0_5 a0_6 a0_7 out k28) : J_Model_body_189 p l e s m args below meth c A D cC cI a0_0 a0_1 a0_2 a0_3 a0_4 a0_5 a0_6 a0_7 out (f_Model_body_189  k28) := by
  obtain ⟨hx, hb, hml, hown, htB, ⟨hK, hN⟩, hZ, hA, hr, hlocks⟩ := id X
  intro v0 x1 x2 x5 x7 x8 x9 x10 x11 s0 ls H locs h hl hP hD hS
  refine lv_lstore_n (lv' := [(3, .long s0), (0, .ref a0_0), (1, .int x1), (2, .int x2), (5, .int x5), (7, .int x7), (8, .int x8), (9, .int x9), (10, .int x10), (11, .int x11)]) hx hb d_Model_body_189 rfl hl (by decide) rfl (fun ls hl => ?_)
  refine lv_iconst (v := 0) hx hb d_Model_body_190 (by decide) ?_
  refine lv_istore (lv' := [(6, .int (0 : Int32)), (3, .long s0), (0, .ref a0_0), (1, .int x1), (2, .int x2), (5, .int x5), (7, .int x7), (8, .int x8), (9, .int x9), (10, .int x10), (11, .int x11)]) hx hb d_Model_body_191 hl (by decide) rfl (fun ls hl => ?_)
  exact w_Model_body_193 X hk28 v0 x1 x2 s0 x5 (0 : Int32) x7 x8 x9 x10 x11 ls H locs h (lv_sub hl [2, 3, 4, 1, 5, 0, 6, 7, 8, 9, 10] rfl) hP hD hS

def f_Model_body_173 (k28 : T_Model → Int32 → Int32 → Int64 → Int32 → Int32 → Int32 → Int32 → Int32 → Int32 → Int32 → Option O_Model_body) (v0 : T_Model) (x1 : Int32) (x2 : Int32) (x3 : Int64) (x5 : Int32) (x7 : Int32) (x8 : Int32) (x9 : Int32) (x10 : Int32) (x11 : Int32) (x12 : Int32) : Option O_Model_body := (if v0.2.2.2.2.2.2.2.2.2.2.2.2.2.2.2.2.2.2.2.2.2.2 = 0 then f_Model_body_189 k28 v0 x1 x2 x5 x7 x8 x9 x10 x11 (x3 + x12.toInt64) else f_Model_body_189 k28 v0 x1 x2 x5 x7 x8 x9 x10 x11 x3)
set_option maxHeartbeats 4000000 in
set_option maxRecDepth 100000 in
theorem w_Model_body_173 {p : Program} {l : Launch} {e : Env} {s : State} {m : MethodId} {args : Array Value} {below : List Frame} {meth : Method} {c : Code} {A : Nat → Prop} {D : va_G} {cC cI : ClassId} {a0_0 a0_1 a0_2 a0_3 a0_4 a0_5 a0_6 a0_7 : Nat} (X : xCX p s m args meth c A D cC cI b_Model_body 16 R_Model (some .boolean)) {out : O_Model_body} {k28 : T_Model → Int32 → Int32 → Int64 → Int32 → Int32 → Int32 → Int32 → Int32 → Int32 → Int32 → Option O_Model_body} (hk28 : J_Model_body_28 p l e s m args below meth c A D cC cI a0_0 a0_1 a0_2 a0_3 a0_4 a0_5 a0_6 a0_7 out k28) : J_Model_body_173 p l e s m args below meth c A D cC cI a0_0 a0_1 a0_2 a0_3 a0_4 a0_5 a0_6 a0_7 out (f_Model_body_173  k28) := by
  obtain ⟨hx, hb, hml, hown, htB, ⟨hK, hN⟩, hZ, hA, hr, hlocks⟩ := id X
  intro v0 x1 x2 x3 x5 x7 x8 x9 x10 x11 x12 ls H locs h hl hP hD hS
  refine lv_aload_n hx hb d_Model_body_173 rfl (lv_at hl 0 rfl) ?_
  refine va_get (D := D) (ci := 11) (v := .int v0.2.2.2.2.2.2.2.2.2.2.2.2.2.2.2.2.2.2.2.2.2.2) (C := R_Model) (T := F_Model) (N := 23) hx hb htB in_Model hown hK hP 0 rfl rfl 22 (by decide) (htB _ b_447) (fun _ h9 => h9) rfl d_Model_body_174 ?_
  refine lv_if_eq (tgt := 184) hx hb d_Model_body_177 rfl (fun hc => ?_) (fun hc => ?_)
  · have h := (if_pos hc).symm.trans h
    refine lv_lload_n hx hb d_Model_body_184 rfl (lv_at hl 3 rfl) ?_
    refine lv_iload hx hb d_Model_body_185 (lv_at hl 10 rfl) ?_
    refine lv_i2l hx hb d_Model_body_187 rfl ?_
    refine lv_ladd hx hb d_Model_body_188 ?_
    exact w_Model_body_189 X hk28 v0 x1 x2 x5 x7 x8 x9 x10 x11 (x3 + x12.toInt64) ls H locs h (lv_sub hl [0, 1, 2, 4, 5, 6, 7, 8, 9] rfl) hP hD hS
  have h := (if_neg hc).symm.trans h
  refine lv_lload_n hx hb d_Model_body_180 rfl (lv_at hl 3 rfl) ?_
  refine lv_goto (tgt := 189) hx hb d_Model_body_181 rfl ?_
  exact w_Model_body_189 X hk28 v0 x1 x2 x5 x7 x8 x9 x10 x11 x3 ls H locs h (lv_sub hl [0, 1, 2, 4, 5, 6, 7, 8, 9] rfl) hP hD hS

def f_Model_body_147  (k28 : T_Model → Int32 → Int32 → Int64 → Int32 → Int32 → Int32 → Int32 → Int32 → Int32 → Int32 → Option O_Model_body) : Nat → T_Model → Int32 → Int32 → Int64 → Int32 → Int32 → Int32 → Int32 → Int32 → Int32 → Int32 → Int32 → Int32 → Option O_Model_body
  | 0, _, _, _, _, _, _, _, _, _, _, _, _, _ => none
  | n + 1, v0, x1, x2, x3, x5, x6, x7, x8, x9, x10, x11, x12, x13 => (if x6 < x13 then f_Model_body_173 k28 v0 x1 x2 x3 x5 x7 x8 x9 x10 x11 x12 else (if v0.2.2.2.2.2.2.2.2.2.2.2.2.2.2.2.2.2.2.2.2.2.2 = 0 then (f_Model_body_147 k28 n) v0 x1 x2 (x3 * (10 : Int64)) x5 x6 x7 x8 x9 x10 x11 x12 (x13 + (1 : Int32)) else f_Model_body_173 k28 v0 x1 x2 x3 x5 x7 x8 x9 x10 x11 x12))
set_option maxHeartbeats 4000000 in
set_option maxRecDepth 100000 in
theorem w_Model_body_147 {p : Program} {l : Launch} {e : Env} {s : State} {m : MethodId} {args : Array Value} {below : List Frame} {meth : Method} {c : Code} {A : Nat → Prop} {D : va_G} {cC cI : ClassId} {a0_0 a0_1 a0_2 a0_3 a0_4 a0_5 a0_6 a0_7 : Nat} (X : xCX p s m args meth c A D cC cI b_Model_body 16 R_Model (some .boolean)) {out : O_Model_body} {k28 : T_Model → Int32 → Int32 → Int64 → Int32 → Int32 → Int32 → Int32 → Int32 → Int32 → Int32 → Option O_Model_body} (hk28 : J_Model_body_28 p l e s m args below meth c A D cC cI a0_0 a0_1 a0_2 a0_3 a0_4 a0_5 a0_6 a0_7 out k28) : ∀ n : Nat, J_Model_body_147 p l e s m args below meth c A D cC cI a0_0 a0_1 a0_2 a0_3 a0_4 a0_5 a0_6 a0_7 out (f_Model_body_147  k28 n) := by
  obtain ⟨hx, hb, hml, hown, htB, ⟨hK, hN⟩, hZ, hA, hr, hlocks⟩ := id X
  intro n
  induction n with
  | zero =>
    intro v0 x1 x2 x3 x5 x6 x7 x8 x9 x10 x11 x12 x13 ls H locs h hl hP hD hS
    cases h
  | succ n ih =>
    intro v0 x1 x2 x3 x5 x6 x7 x8 x9 x10 x11 x12 x13 ls H locs h hl hP hD hS
    refine lv_iload hx hb d_Model_body_147 (lv_at hl 12 rfl) ?_
    refine lv_iload hx hb d_Model_body_149 (lv_at hl 5 rfl) ?_
    refine lv_icmp_gt (tgt := 173) hx hb d_Model_body_151 rfl (fun hc => ?_) (fun hc => ?_)
    · have h := (if_pos hc).symm.trans h
      exact w_Model_body_173 X hk28 v0 x1 x2 x3 x5 x7 x8 x9 x10 x11 x12 ls H locs h (lv_sub hl [0, 1, 2, 3, 4, 6, 7, 8, 9, 10, 11] rfl) hP hD hS
    have h := (if_neg hc).symm.trans h
    refine lv_aload_n hx hb d_Model_body_154 rfl (lv_at hl 0 rfl) ?_
    refine va_get (D := D) (ci := 11) (v := .int v0.2.2.2.2.2.2.2.2.2.2.2.2.2.2.2.2.2.2.2.2.2.2) (C := R_Model) (T := F_Model) (N := 23) hx hb htB in_Model hown hK hP 0 rfl rfl 22 (by decide) (htB _ b_447) (fun _ h9 => h9) rfl d_Model_body_155 ?_
    refine lv_if_ne (tgt := 173) hx hb d_Model_body_158 rfl (fun hc => ?_) (fun hc => ?_)
    · have h := (if_neg hc).symm.trans h
      exact w_Model_body_173 X hk28 v0 x1 x2 x3 x5 x7 x8 x9 x10 x11 x12 ls H locs h (lv_sub hl [0, 1, 2, 3, 4, 6, 7, 8, 9, 10, 11] rfl) hP hD hS
    have h := (if_pos hc).symm.trans h
    refine lv_lload_n hx hb d_Model_body_161 rfl (lv_at hl 3 rfl) ?_
    refine lv_ldc2 (v := 10) hx hb hown (htB _ b_384) d_Model_body_162 ?_
    refine lv_lmul hx hb d_Model_body_165 ?_
    refine lv_lstore_n (lv' := [(3, .long (x3 * (10 : Int64))), (0, .ref a0_0), (1, .int x1), (2, .int x2), (5, .int x5), (6, .int x6), (7, .int x7), (8, .int x8), (9, .int x9), (10, .int x10), (11, .int x11), (12, .int x12), (13, .int x13)]) hx hb d_Model_body_166 rfl hl (by decide) rfl (fun ls hl => ?_)
    refine lv_iinc (k := 12) (v := (x13 + (1 : Int32))) (lv' := [(13, .int (x13 + (1 : Int32))), (3, .long (x3 * (10 : Int64))), (0, .ref a0_0), (1, .int x1), (2, .int x2), (5, .int x5), (6, .int x6), (7, .int x7), (8, .int x8), (9, .int x9), (10, .int x10), (11, .int x11), (12, .int x12)]) hx hb d_Model_body_167 hl rfl (congrArg (fun z => x13 + z) (by decide : Int32.ofInt 1 = (1 : Int32))) (by decide) rfl (fun ls hl => ?_)
    refine lv_goto (tgt := 147) hx hb d_Model_body_170 rfl ?_
    exact ih v0 x1 x2 (x3 * (10 : Int64)) x5 x6 x7 x8 x9 x10 x11 x12 (x13 + (1 : Int32)) ls H locs h (lv_sub hl [2, 3, 4, 1, 5, 6, 7, 8, 9, 10, 11, 12, 0] rfl) hP hD hS

def f_Model_body_141 (k28 : T_Model → Int32 → Int32 → Int64 → Int32 → Int32 → Int32 → Int32 → Int32 → Int32 → Int32 → Option O_Model_body) (v0 : T_Model) (x1 : Int32) (x2 : Int32) (x3 : Int64) (x5 : Int32) (x6 : Int32) (x7 : Int32) (x8 : Int32) (x9 : Int32) (x10 : Int32) (x11 : Int32) (x12 : Int32) (s1 : Int32) : Option O_Model_body := if (s1 = 0 ∨ s1 = 1) then f_Model_body_147 k28 FU (v0.1, v0.2.1, v0.2.2.1, v0.2.2.2.1, v0.2.2.2.2.1, v0.2.2.2.2.2.1, v0.2.2.2.2.2.2.1, v0.2.2.2.2.2.2.2.1, v0.2.2.2.2.2.2.2.2.1, v0.2.2.2.2.2.2.2.2.2.1, v0.2.2.2.2.2.2.2.2.2.2.1, v0.2.2.2.2.2.2.2.2.2.2.2.1, v0.2.2.2.2.2.2.2.2.2.2.2.2.1, v0.2.2.2.2.2.2.2.2.2.2.2.2.2.1, v0.2.2.2.2.2.2.2.2.2.2.2.2.2.2.1, v0.2.2.2.2.2.2.2.2.2.2.2.2.2.2.2.1, v0.2.2.2.2.2.2.2.2.2.2.2.2.2.2.2.2.1, v0.2.2.2.2.2.2.2.2.2.2.2.2.2.2.2.2.2.1, v0.2.2.2.2.2.2.2.2.2.2.2.2.2.2.2.2.2.2.1, v0.2.2.2.2.2.2.2.2.2.2.2.2.2.2.2.2.2.2.2.1, v0.2.2.2.2.2.2.2.2.2.2.2.2.2.2.2.2.2.2.2.2.1, v0.2.2.2.2.2.2.2.2.2.2.2.2.2.2.2.2.2.2.2.2.2.1, s1) x1 x2 x3 x5 x6 x7 x8 x9 x10 x11 x12 (0 : Int32) else none
set_option maxHeartbeats 4000000 in
set_option maxRecDepth 100000 in
theorem w_Model_body_141 {p : Program} {l : Launch} {e : Env} {s : State} {m : MethodId} {args : Array Value} {below : List Frame} {meth : Method} {c : Code} {A : Nat → Prop} {D : va_G} {cC cI : ClassId} {a0_0 a0_1 a0_2 a0_3 a0_4 a0_5 a0_6 a0_7 : Nat} (X : xCX p s m args meth c A D cC cI b_Model_body 16 R_Model (some .boolean)) {out : O_Model_body} {k28 : T_Model → Int32 → Int32 → Int64 → Int32 → Int32 → Int32 → Int32 → Int32 → Int32 → Int32 → Option O_Model_body} (hk28 : J_Model_body_28 p l e s m args below meth c A D cC cI a0_0 a0_1 a0_2 a0_3 a0_4 a0_5 a0_6 a0_7 out k28) : J_Model_body_141 p l e s m args below meth c A D cC cI a0_0 a0_1 a0_2 a0_3 a0_4 a0_5 a0_6 a0_7 out (f_Model_body_141  k28) := by
  obtain ⟨hx, hb, hml, hown, htB, ⟨hK, hN⟩, hZ, hA, hr, hlocks⟩ := id X
  intro v0 x1 x2 x3 x5 x6 x7 x8 x9 x10 x11 x12 s1 ls H locs h hl hP hD hS
  obtain ⟨hc, h⟩ := x_chk h
  refine va_put (D := D) (ci := 11) (v := .int s1) (ty := .boolean) (C := R_Model) (T := F_Model) (N := 23) hx hb htB in_Model t_Model t_Model_ok n_Model hown hK hP hD hS 0 rfl rfl 22 (by decide) (htB _ b_447) (fun _ h9 => h9) rfl (by decide +kernel) (x_zn hc) (x_zf hc) (Nat.le_of_ble_eq_true rfl) d_Model_body_141 (fun H locs hP hD hS => ?_)
  have hP : va_P D classes (wd_Model_body cC cI a0_0 a0_1 a0_2 a0_3 a0_4 a0_5 a0_6 a0_7 (v0.1, v0.2.1, v0.2.2.1, v0.2.2.2.1, v0.2.2.2.2.1, v0.2.2.2.2.2.1, v0.2.2.2.2.2.2.1, v0.2.2.2.2.2.2.2.1, v0.2.2.2.2.2.2.2.2.1, v0.2.2.2.2.2.2.2.2.2.1, v0.2.2.2.2.2.2.2.2.2.2.1, v0.2.2.2.2.2.2.2.2.2.2.2.1, v0.2.2.2.2.2.2.2.2.2.2.2.2.1, v0.2.2.2.2.2.2.2.2.2.2.2.2.2.1, v0.2.2.2.2.2.2.2.2.2.2.2.2.2.2.1, v0.2.2.2.2.2.2.2.2.2.2.2.2.2.2.2.1, v0.2.2.2.2.2.2.2.2.2.2.2.2.2.2.2.2.1, v0.2.2.2.2.2.2.2.2.2.2.2.2.2.2.2.2.2.1, v0.2.2.2.2.2.2.2.2.2.2.2.2.2.2.2.2.2.2.1, v0.2.2.2.2.2.2.2.2.2.2.2.2.2.2.2.2.2.2.2.1, v0.2.2.2.2.2.2.2.2.2.2.2.2.2.2.2.2.2.2.2.2.1, v0.2.2.2.2.2.2.2.2.2.2.2.2.2.2.2.2.2.2.2.2.2.1, s1)) H := hP
  have hD : va_D A (wd_Model_body cC cI a0_0 a0_1 a0_2 a0_3 a0_4 a0_5 a0_6 a0_7 (v0.1, v0.2.1, v0.2.2.1, v0.2.2.2.1, v0.2.2.2.2.1, v0.2.2.2.2.2.1, v0.2.2.2.2.2.2.1, v0.2.2.2.2.2.2.2.1, v0.2.2.2.2.2.2.2.2.1, v0.2.2.2.2.2.2.2.2.2.1, v0.2.2.2.2.2.2.2.2.2.2.1, v0.2.2.2.2.2.2.2.2.2.2.2.1, v0.2.2.2.2.2.2.2.2.2.2.2.2.1, v0.2.2.2.2.2.2.2.2.2.2.2.2.2.1, v0.2.2.2.2.2.2.2.2.2.2.2.2.2.2.1, v0.2.2.2.2.2.2.2.2.2.2.2.2.2.2.2.1, v0.2.2.2.2.2.2.2.2.2.2.2.2.2.2.2.2.1, v0.2.2.2.2.2.2.2.2.2.2.2.2.2.2.2.2.2.1, v0.2.2.2.2.2.2.2.2.2.2.2.2.2.2.2.2.2.2.1, v0.2.2.2.2.2.2.2.2.2.2.2.2.2.2.2.2.2.2.2.1, v0.2.2.2.2.2.2.2.2.2.2.2.2.2.2.2.2.2.2.2.2.1, v0.2.2.2.2.2.2.2.2.2.2.2.2.2.2.2.2.2.2.2.2.2.1, s1)) := hD
  refine lv_iconst (v := 0) hx hb d_Model_body_144 (by decide) ?_
  refine lv_istore (lv' := [(13, .int (0 : Int32)), (0, .ref a0_0), (1, .int x1), (2, .int x2), (3, .long x3), (5, .int x5), (6, .int x6), (7, .int x7), (8, .int x8), (9, .int x9), (10, .int x10), (11, .int x11), (12, .int x12)]) hx hb d_Model_body_145 hl (by decide) rfl (fun ls hl => ?_)
  exact w_Model_body_147 X hk28 FU (v0.1, v0.2.1, v0.2.2.1, v0.2.2.2.1, v0.2.2.2.2.1, v0.2.2.2.2.2.1, v0.2.2.2.2.2.2.1, v0.2.2.2.2.2.2.2.1, v0.2.2.2.2.2.2.2.2.1, v0.2.2.2.2.2.2.2.2.2.1, v0.2.2.2.2.2.2.2.2.2.2.1, v0.2.2.2.2.2.2.2.2.2.2.2.1, v0.2.2.2.2.2.2.2.2.2.2.2.2.1, v0.2.2.2.2.2.2.2.2.2.2.2.2.2.1, v0.2.2.2.2.2.2.2.2.2.2.2.2.2.2.1, v0.2.2.2.2.2.2.2.2.2.2.2.2.2.2.2.1, v0.2.2.2.2.2.2.2.2.2.2.2.2.2.2.2.2.1, v0.2.2.2.2.2.2.2.2.2.2.2.2.2.2.2.2.2.1, v0.2.2.2.2.2.2.2.2.2.2.2.2.2.2.2.2.2.2.1, v0.2.2.2.2.2.2.2.2.2.2.2.2.2.2.2.2.2.2.2.1, v0.2.2.2.2.2.2.2.2.2.2.2.2.2.2.2.2.2.2.2.2.1, v0.2.2.2.2.2.2.2.2.2.2.2.2.2.2.2.2.2.2.2.2.2.1, s1) x1 x2 x3 x5 x6 x7 x8 x9 x10 x11 x12 (0 : Int32) ls H locs h (lv_sub hl [1, 2, 3, 4, 5, 6, 7, 8, 9, 10, 11, 12, 0] rfl) hP hD hS

def f_Model_body_136 (k28 : T_Model → Int32 → Int32 → Int64 → Int32 → Int32 → Int32 → Int32 → Int32 → Int32 → Int32 → Option O_Model_body) (v0 : T_Model) (x1 : Int32) (x2 : Int32) (x3 : Int64) (x5 : Int32) (x6 : Int32) (x7 : Int32) (x8 : Int32) (x9 : Int32) (x10 : Int32) (x11 : Int32) (x12 : Int32) : Option O_Model_body := f_Model_body_141 k28 v0 x1 x2 x3 x5 x6 x7 x8 x9 x10 x11 x12 (1 : Int32)
set_option maxHeartbeats 4000000 in
set_option maxRecDepth 100000 in
theorem w_Model_body_136 {p : Program} {l : Launch} {e : Env} {s : State} {m : MethodId} {args : Array Value} {below : List Frame} {meth : Method} {c : Code} {A : Nat → Prop} {D : va_G} {cC cI : ClassId} {a0_0 a0_1 a0_2 a0_3 a0_4 a0_5 a0_6 a0_7 : Nat} (X : xCX p s m args meth c A D cC cI b_Model_body 16 R_Model (some .boolean)) {out : O_Model_body} {k28 : T_Model → Int32 → Int32 → Int64 → Int32 → Int32 → Int32 → Int32 → Int32 → Int32 → Int32 → Option O_Model_body} (hk28 : J_Model_body_28 p l e s m args below meth c A D cC cI a0_0 a0_1 a0_2 a0_3 a0_4 a0_5 a0_6 a0_7 out k28) : J_Model_body_136 p l e s m args below meth c A D cC cI a0_0 a0_1 a0_2 a0_3 a0_4 a0_5 a0_6 a0_7 out (f_Model_body_136  k28) := by
  obtain ⟨hx, hb, hml, hown, htB, ⟨hK, hN⟩, hZ, hA, hr, hlocks⟩ := id X
  intro v0 x1 x2 x3 x5 x6 x7 x8 x9 x10 x11 x12 ls H locs h hl hP hD hS
  refine lv_iconst (v := 1) hx hb d_Model_body_136 (by decide) ?_
  refine lv_goto (tgt := 141) hx hb d_Model_body_137 rfl ?_
  exact w_Model_body_141 X hk28 v0 x1 x2 x3 x5 x6 x7 x8 x9 x10 x11 x12 (1 : Int32) ls H locs h (lv_sub hl [0, 1, 2, 3, 4, 5, 6, 7, 8, 9, 10, 11] rfl) hP hD hS

def f_Model_body_110 (k28 : T_Model → Int32 → Int32 → Int64 → Int32 → Int32 → Int32 → Int32 → Int32 → Int32 → Int32 → Option O_Model_body) (v0 : T_Model) (x1 : Int32) (x2 : Int32) (x3 : Int64) (x5 : Int32) (x7 : Int32) (x8 : Int32) (x9 : Int32) (x10 : Int32) (x11 : Int32) (x12 : Int32) (s0 : Int32) : Option O_Model_body := (if v0.2.2.2.2.2.2.2.2.2.2.2.2.2.2.2.2.2.2.2.2.2.2 = 0 then (if ((x5 + s0) + (1 : Int32)) ≤ (17 : Int32) then f_Model_body_141 k28 v0 x1 x2 x3 ((x5 + s0) + (1 : Int32)) s0 x7 x8 x9 x10 x11 x12 (0 : Int32) else f_Model_body_136 k28 v0 x1 x2 x3 ((x5 + s0) + (1 : Int32)) s0 x7 x8 x9 x10 x11 x12) else f_Model_body_136 k28 v0 x1 x2 x3 ((x5 + s0) + (1 : Int32)) s0 x7 x8 x9 x10 x11 x12)
set_option maxHeartbeats 4000000 in
set_option maxRecDepth 100000 in
theorem w_Model_body_110 {p : Program} {l : Launch} {e : Env} {s : State} {m : MethodId} {args : Array Value} {below : List Frame} {meth : Method} {c : Code} {A : Nat → Prop} {D : va_G} {cC cI : ClassId} {a0_0 a0_1 a0_2 a0_3 a0_4 a0_5 a0_6 a0_7 : Nat} (X : xCX p s m args meth c A D cC cI b_Model_body 16 R_Model (some .boolean)) {out : O_Model_body} {k28 : T_Model → Int32 → Int32 → Int64 → Int32 → Int32 → Int32 → Int32 → Int32 → Int32 → Int32 → Option O_Model_body} (hk28 : J_Model_body_28 p l e s m args below meth c A D cC cI a0_0 a0_1 a0_2 a0_3 a0_4 a0_5 a0_6 a0_7 out k28) : J_Model_body_110 p l e s m args below meth c A D cC cI a0_0 a0_1 a0_2 a0_3 a0_4 a0_5 a0_6 a0_7 out (f_Model_body_110  k28) := by
  obtain ⟨hx, hb, hml, hown, htB, ⟨hK, hN⟩, hZ, hA, hr, hlocks⟩ := id X
  intro v0 x1 x2 x3 x5 x7 x8 x9 x10 x11 x12 s0 ls H locs h hl hP hD hS
  refine lv_istore (lv' := [(6, .int s0), (0, .ref a0_0), (1, .int x1), (2, .int x2), (3, .long x3), (5, .int x5), (7, .int x7), (8, .int x8), (9, .int x9), (10, .int x10), (11, .int x11), (12, .int x12)]) hx hb d_Model_body_110 hl (by decide) rfl (fun ls hl => ?_)
  refine lv_iload hx hb d_Model_body_112 (lv_at hl 5 rfl) ?_
  refine lv_iload hx hb d_Model_body_114 (lv_at hl 0 rfl) ?_
  refine lv_iadd hx hb d_Model_body_116 ?_
  refine lv_iconst (v := 1) hx hb d_Model_body_117 (by decide) ?_
  refine lv_iadd hx hb d_Model_body_118 ?_
  refine lv_istore (lv' := [(5, .int ((x5 + s0) + (1 : Int32))), (6, .int s0), (0, .ref a0_0), (1, .int x1), (2, .int x2), (3, .long x3), (7, .int x7), (8, .int x8), (9, .int x9), (10, .int x10), (11, .int x11), (12, .int x12)]) hx hb d_Model_body_119 hl (by decide) rfl (fun ls hl => ?_)
  refine lv_aload_n hx hb d_Model_body_121 rfl (lv_at hl 2 rfl) ?_
  refine lv_aload_n hx hb d_Model_body_122 rfl (lv_at hl 2 rfl) ?_
  refine va_get (D := D) (ci := 11) (v := .int v0.2.2.2.2.2.2.2.2.2.2.2.2.2.2.2.2.2.2.2.2.2.2) (C := R_Model) (T := F_Model) (N := 23) hx hb htB in_Model hown hK hP 0 rfl rfl 22 (by decide) (htB _ b_447) (fun _ h9 => h9) rfl d_Model_body_123 ?_
  refine lv_if_ne (tgt := 136) hx hb d_Model_body_126 rfl (fun hc => ?_) (fun hc => ?_)
  · have h := (if_neg hc).symm.trans h
    exact w_Model_body_136 X hk28 v0 x1 x2 x3 ((x5 + s0) + (1 : Int32)) s0 x7 x8 x9 x10 x11 x12 ls H locs h (lv_sub hl [2, 3, 4, 5, 0, 1, 6, 7, 8, 9, 10, 11] rfl) hP hD hS
  have h := (if_pos hc).symm.trans h
  refine lv_iload hx hb d_Model_body_129 (lv_at hl 0 rfl) ?_
  refine lv_bipush (v := 17) hx hb d_Model_body_131 (by decide) ?_
  refine lv_icmp_le (tgt := 140) hx hb d_Model_body_133 rfl (fun hc => ?_) (fun hc => ?_)
  · have h := (if_pos hc).symm.trans h
    refine lv_iconst (v := 0) hx hb d_Model_body_140 (by decide) ?_
    exact w_Model_body_141 X hk28 v0 x1 x2 x3 ((x5 + s0) + (1 : Int32)) s0 x7 x8 x9 x10 x11 x12 (0 : Int32) ls H locs h (lv_sub hl [2, 3, 4, 5, 0, 1, 6, 7, 8, 9, 10, 11] rfl) hP hD hS
  have h := (if_neg hc).symm.trans h
  exact w_Model_body_136 X hk28 v0 x1 x2 x3 ((x5 + s0) + (1 : Int32)) s0 x7 x8 x9 x10 x11 x12 ls H locs h (lv_sub hl [2, 3, 4, 5, 0, 1, 6, 7, 8, 9, 10, 11] rfl) hP hD hS

def f_Model_body_91 (k28 : T_Model → Int32 → Int32 → Int64 → Int32 → Int32 → Int32 → Int32 → Int32 → Int32 → Int32 → Option O_Model_body) (v0 : T_Model) (x1 : Int32) (x2 : Int32) (x3 : Int64) (x5 : Int32) (x7 : Int32) (x8 : Int32) (x9 : Int32) (x10 : Int32) (x11 : Int32) (x12 : Int32) (s0 : Int32) : Option O_Model_body := (if x12 ≤ 0 then f_Model_body_193 k28 v0 x1 x2 x3 x5 s0 x7 x8 x9 x10 x11 else (if (lg_cmp x3 (0 : Int64)) = 0 then f_Model_body_110 k28 v0 x1 x2 x3 x5 x7 x8 x9 x10 x11 x12 (0 : Int32) else f_Model_body_110 k28 v0 x1 x2 x3 x5 x7 x8 x9 x10 x11 x12 s0))
set_option maxHeartbeats 4000000 in
set_option maxRecDepth 100000 in
theorem w_Model_body_91 {p : Program} {l : Launch} {e : Env} {s : State} {m : MethodId} {args : Array Value} {below : List Frame} {meth : Method} {c : Code} {A : Nat → Prop} {D : va_G} {cC cI : ClassId} {a0_0 a0_1 a0_2 a0_3 a0_4 a0_5 a0_6 a0_7 : Nat} (X : xCX p s m args meth c A D cC cI b_Model_body 16 R_Model (some .boolean)) {out : O_Model_body} {k28 : T_Model → Int32 → Int32 → Int64 → Int32 → Int32 → Int32 → Int32 → Int32 → Int32 → Int32 → Option O_Model_body} (hk28 : J_Model_body_28 p l e s m args below meth c A D cC cI a0_0 a0_1 a0_2 a0_3 a0_4 a0_5 a0_6 a0_7 out k28) : J_Model_body_91 p l e s m args below meth c A D cC cI a0_0 a0_1 a0_2 a0_3 a0_4 a0_5 a0_6 a0_7 out (f_Model_body_91  k28) := by
  obtain ⟨hx, hb, hml, hown, htB, ⟨hK, hN⟩, hZ, hA, hr, hlocks⟩ := id X
  intro v0 x1 x2 x3 x5 x7 x8 x9 x10 x11 x12 s0 ls H locs h hl hP hD hS
  refine lv_istore (lv' := [(6, .int s0), (0, .ref a0_0), (1, .int x1), (2, .int x2), (3, .long x3), (5, .int x5), (7, .int x7), (8, .int x8), (9, .int x9), (10, .int x10), (11, .int x11), (12, .int x12)]) hx hb d_Model_body_91 hl (by decide) rfl (fun ls hl => ?_)
  refine lv_iload hx hb d_Model_body_93 (lv_at hl 11 rfl) ?_
  refine lv_if_le (tgt := 193) hx hb d_Model_body_95 rfl (fun hc => ?_) (fun hc => ?_)
  · have h := (if_pos hc).symm.trans h
    exact w_Model_body_193 X hk28 v0 x1 x2 x3 x5 s0 x7 x8 x9 x10 x11 ls H locs h (lv_sub hl [1, 2, 3, 4, 5, 0, 6, 7, 8, 9, 10] rfl) hP hD hS
  have h := (if_neg hc).symm.trans h
  refine lv_lload_n hx hb d_Model_body_98 rfl (lv_at hl 4 rfl) ?_
  refine lv_lconst (v := 0) hx hb d_Model_body_99 (by decide) ?_
  refine W.lcmp hx hb d_Model_body_100 ?_
  refine lv_if_ne (tgt := 108) hx hb d_Model_body_101 rfl (fun hc => ?_) (fun hc => ?_)
  · have h := (if_neg hc).symm.trans h
    refine lv_iload hx hb d_Model_body_108 (lv_at hl 0 rfl) ?_
    exact w_Model_body_110 X hk28 v0 x1 x2 x3 x5 x7 x8 x9 x10 x11 x12 s0 ls H locs h (lv_sub hl [1, 2, 3, 4, 5, 6, 7, 8, 9, 10, 11] rfl) hP hD hS
  have h := (if_pos hc).symm.trans h
  refine lv_iconst (v := 0) hx hb d_Model_body_104 (by decide) ?_
  refine lv_goto (tgt := 110) hx hb d_Model_body_105 rfl ?_
  exact w_Model_body_110 X hk28 v0 x1 x2 x3 x5 x7 x8 x9 x10 x11 x12 (0 : Int32) ls H locs h (lv_sub hl [1, 2, 3, 4, 5, 6, 7, 8, 9, 10, 11] rfl) hP hD hS

def f_Model_body_75 (k28 : T_Model → Int32 → Int32 → Int64 → Int32 → Int32 → Int32 → Int32 → Int32 → Int32 → Int32 → Option O_Model_body) (v0 : T_Model) (x1 : Int32) (x2 : Int32) (x3 : Int64) (x5 : Int32) (x6 : Int32) (x8 : Int32) (x9 : Int32) (x10 : Int32) (x11 : Int32) (x12 : Int32) (s0 : Int32) : Option O_Model_body := (if x12 = 0 then f_Model_body_91 k28 v0 x1 x2 x3 x5 s0 x8 x9 x10 x11 x12 (x6 + (1 : Int32)) else f_Model_body_91 k28 v0 x1 x2 x3 x5 s0 x8 x9 x10 x11 x12 x6)
set_option maxHeartbeats 4000000 in
set_option maxRecDepth 100000 in
theorem w_Model_body_75 {p : Program} {l : Launch} {e : Env} {s : State} {m : MethodId} {args : Array Value} {below : List Frame} {meth : Method} {c : Code} {A : Nat → Prop} {D : va_G} {cC cI : ClassId} {a0_0 a0_1 a0_2 a0_3 a0_4 a0_5 a0_6 a0_7 : Nat} (X : xCX p s m args meth c A D cC cI b_Model_body 16 R_Model (some .boolean)) {out : O_Model_body} {k28 : T_Model → Int32 → Int32 → Int64 → Int32 → Int32 → Int32 → Int32 → Int32 → Int32 → Int32 → Option O_Model_body} (hk28 : J_Model_body_28 p l e s m args below meth c A D cC cI a0_0 a0_1 a0_2 a0_3 a0_4 a0_5 a0_6 a0_7 out k28) : J_Model_body_75 p l e s m args below meth c A D cC cI a0_0 a0_1 a0_2 a0_3 a0_4 a0_5 a0_6 a0_7 out (f_Model_body_75  k28) := by
  obtain ⟨hx, hb, hml, hown, htB, ⟨hK, hN⟩, hZ, hA, hr, hlocks⟩ := id X
  intro v0 x1 x2 x3 x5 x6 x8 x9 x10 x11 x12 s0 ls H locs h hl hP hD hS
  refine lv_istore (lv' := [(7, .int s0), (0, .ref a0_0), (1, .int x1), (2, .int x2), (3, .long x3), (5, .int x5), (6, .int x6), (8, .int x8), (9, .int x9), (10, .int x10), (11, .int x11), (12, .int x12)]) hx hb d_Model_body_75 hl (by decide) rfl (fun ls hl => ?_)
  refine lv_iload hx hb d_Model_body_77 (lv_at hl 11 rfl) ?_
  refine lv_if_ne (tgt := 89) hx hb d_Model_body_79 rfl (fun hc => ?_) (fun hc => ?_)
  · have h := (if_neg hc).symm.trans h
    refine lv_iload hx hb d_Model_body_89 (lv_at hl 6 rfl) ?_
    exact w_Model_body_91 X hk28 v0 x1 x2 x3 x5 s0 x8 x9 x10 x11 x12 x6 ls H locs h (lv_sub hl [1, 2, 3, 4, 5, 0, 7, 8, 9, 10, 11] rfl) hP hD hS
  have h := (if_pos hc).symm.trans h
  refine lv_iload hx hb d_Model_body_82 (lv_at hl 6 rfl) ?_
  refine lv_iconst (v := 1) hx hb d_Model_body_84 (by decide) ?_
  refine lv_iadd hx hb d_Model_body_85 ?_
  refine lv_goto (tgt := 91) hx hb d_Model_body_86 rfl ?_
  exact w_Model_body_91 X hk28 v0 x1 x2 x3 x5 s0 x8 x9 x10 x11 x12 (x6 + (1 : Int32)) ls H locs h (lv_sub hl [1, 2, 3, 4, 5, 0, 7, 8, 9, 10, 11] rfl) hP hD hS

def f_Model_body_28   : Nat → T_Model → Int32 → Int32 → Int64 → Int32 → Int32 → Int32 → Int32 → Int32 → Int32 → Int32 → Option O_Model_body
  | 0, _, _, _, _, _, _, _, _, _, _, _ => none
  | n + 1, v0, x1, x2, x3, x5, x6, x7, x8, x9, x10, x11 => (if x11 = 0 then (if x8 ≤ 0 then f_Model_body_338 v0 x2 x3 x6 x7 x10 (0 : Int32) (0 : Int32) else f_Model_body_338 v0 x2 x3 x6 x7 x10 (0 : Int32) (1 : Int32)) else (f_Model_digitAt v0 x10 x2).bind (fun o37 => (if o37 = 0 then (if x2 ≤ x10 then f_Model_body_225 (f_Model_body_28  n) v0 x1 x2 x3 x5 x6 x7 x8 x9 x10 else if ix x10 120 then (if (v0.1 x10.toNatClampNeg) = (46 : Int32) then (if x9 = 0 then f_Model_body_306 (f_Model_body_28  n) v0 x1 x2 x3 x5 x6 x7 x8 (1 : Int32) x10 x11 else f_Model_body_225 (f_Model_body_28  n) v0 x1 x2 x3 x5 x6 x7 x8 x9 x10) else f_Model_body_225 (f_Model_body_28  n) v0 x1 x2 x3 x5 x6 x7 x8 x9 x10) else none) else if ix x10 120 then (if x9 = 0 then f_Model_body_75 (f_Model_body_28  n) v0 x1 x2 x3 x5 x6 (x8 + (1 : Int32)) x9 x10 x11 ((v0.1 x10.toNatClampNeg) - (48 : Int32)) x7 else f_Model_body_75 (f_Model_body_28  n) v0 x1 x2 x3 x5 x6 (x8 + (1 : Int32)) x9 x10 x11 ((v0.1 x10.toNatClampNeg) - (48 : Int32)) (x7 + (1 : Int32))) else none)))
set_option maxHeartbeats 4000000 in
set_option maxRecDepth 100000 in
theorem w_Model_body_28 {p : Program} {l : Launch} {e : Env} {s : State} {m : MethodId} {args : Array Value} {below : List Frame} {meth : Method} {c : Code} {A : Nat → Prop} {D : va_G} {cC cI : ClassId} {a0_0 a0_1 a0_2 a0_3 a0_4 a0_5 a0_6 a0_7 : Nat} (X : xCX p s m args meth c A D cC cI b_Model_body 16 R_Model (some .boolean)) {out : O_Model_body}   : ∀ n : Nat, J_Model_body_28 p l e s m args below meth c A D cC cI a0_0 a0_1 a0_2 a0_3 a0_4 a0_5 a0_6 a0_7 out (f_Model_body_28   n) := by
  obtain ⟨hx, hb, hml, hown, htB, ⟨hK, hN⟩, hZ, hA, hr, hlocks⟩ := id X
  intro n
  induction n with
  | zero =>
    intro v0 x1 x2 x3 x5 x6 x7 x8 x9 x10 x11 ls H locs h hl hP hD hS
    cases h
  | succ n ih =>
    intro v0 x1 x2 x3 x5 x6 x7 x8 x9 x10 x11 ls H locs h hl hP hD hS
    refine lv_iload hx hb d_Model_body_28 (lv_at hl 10 rfl) ?_
    refine lv_if_eq (tgt := 325) hx hb d_Model_body_30 rfl (fun hc => ?_) (fun hc => ?_)
    · have h := (if_pos hc).symm.trans h
      refine lv_iconst (v := 0) hx hb d_Model_body_325 (by decide) ?_
      refine lv_istore (lv' := [(12, .int (0 : Int32)), (0, .ref a0_0), (1, .int x1), (2, .int x2), (3, .long x3), (5, .int x5), (6, .int x6), (7, .int x7), (8, .int x8), (9, .int x9), (10, .int x10), (11, .int x11)]) hx hb d_Model_body_326 hl (by decide) rfl (fun ls hl => ?_)
      refine lv_iload hx hb d_Model_body_328 (lv_at hl 8 rfl) ?_
      refine lv_if_le (tgt := 337) hx hb d_Model_body_330 rfl (fun hc => ?_) (fun hc => ?_)
      · have h := (if_pos hc).symm.trans h
        refine lv_iconst (v := 0) hx hb d_Model_body_337 (by decide) ?_
        exact w_Model_body_338 X v0 x2 x3 x6 x7 x10 (0 : Int32) (0 : Int32) ls H locs h (lv_sub hl [1, 3, 4, 6, 7, 10, 0] rfl) hP hD hS
      have h := (if_neg hc).symm.trans h
      refine lv_iconst (v := 1) hx hb d_Model_body_333 (by decide) ?_
      refine lv_goto (tgt := 338) hx hb d_Model_body_334 rfl ?_
      exact w_Model_body_338 X v0 x2 x3 x6 x7 x10 (0 : Int32) (1 : Int32) ls H locs h (lv_sub hl [1, 3, 4, 6, 7, 10, 0] rfl) hP hD hS
    have h := (if_neg hc).symm.trans h
    refine lv_aload_n hx hb d_Model_body_33 rfl (lv_at hl 0 rfl) ?_
    refine lv_iload hx hb d_Model_body_34 (lv_at hl 9 rfl) ?_
    refine lv_iload_n hx hb d_Model_body_36 rfl (lv_at hl 2 rfl) ?_
    obtain ⟨o37, ho37, h⟩ := x_bnd h
    refine x_calli (r0 := o37) (ws2 := (wd_Model_body cC cI a0_0 a0_1 a0_2 a0_3 a0_4 a0_5 a0_6 a0_7 v0)) (x_runV (As := [.int x10, .int x2]) (rest := []) X (c_Model_digitAt l D cC cI H.size a0_0 a0_1 a0_2 a0_3 a0_4 a0_5 a0_6 a0_7 v0 x10 x2 o37 ho37) b_450 2 (htB _ b_453) (htB _ b_451) (htB _ b_452) (htB _ b_319) ⟨by decide, by decide, by decide +kernel⟩ ⟨(Nat.le_of_ble_eq_true rfl), (Nat.le_of_ble_eq_true rfl)⟩ 0 rfl rfl hP hD hS [0, 1, 2, 3, 4, 5, 6, 7] rfl (by decide) rfl rfl hl.1 rfl rfl (Nat.le_of_ble_eq_true rfl) d_Model_body_37) hP hD hS hA [0, 1, 2, 3, 4, 5, 6, 7] [] [0, 1, 2, 3, 4, 5, 6, 7] rfl rfl (by decide) (by decide) rfl (by decide) (fun H locs hP hD hS => ?_)
    refine lv_if_eq (tgt := 196) hx hb d_Model_body_40 rfl (fun hc => ?_) (fun hc => ?_)
    · have h := (if_pos hc).symm.trans h
      refine lv_iload hx hb d_Model_body_196 (lv_at hl 9 rfl) ?_
      refine lv_iload_n hx hb d_Model_body_198 rfl (lv_at hl 2 rfl) ?_
      refine lv_icmp_ge (tgt := 225) hx hb d_Model_body_199 rfl (fun hc => ?_) (fun hc => ?_)
      · have h := (if_pos hc).symm.trans h
        exact w_Model_body_225 X ih v0 x1 x2 x3 x5 x6 x7 x8 x9 x10 ls H locs h (lv_sub hl [0, 1, 2, 3, 4, 5, 6, 7, 8, 9] rfl) hP hD hS
      have h := (if_neg hc).symm.trans h
      refine lv_aload_n hx hb d_Model_body_202 rfl (lv_at hl 0 rfl) ?_
      refine va_get (D := D) (ci := 11) (v := .ref a0_1) (C := R_Model) (T := F_Model) (N := 23) hx hb htB in_Model hown hK hP 0 rfl rfl 0 (by decide) (htB _ b_310) (fun _ h9 => h9) rfl d_Model_body_203 ?_
      refine lv_iload hx hb d_Model_body_206 (lv_at hl 9 rfl) ?_
      obtain ⟨hc, h⟩ := x_chk h
      refine va_cald hx hb hK hP 1 0 rfl rfl hc d_Model_body_208 ?_
      refine lv_bipush (v := 46) hx hb d_Model_body_209 (by decide) ?_
      refine lv_icmp_ne (tgt := 225) hx hb d_Model_body_211 rfl (fun hc => ?_) (fun hc => ?_)
      · have h := (if_neg hc).symm.trans h
        exact w_Model_body_225 X ih v0 x1 x2 x3 x5 x6 x7 x8 x9 x10 ls H locs h (lv_sub hl [0, 1, 2, 3, 4, 5, 6, 7, 8, 9] rfl) hP hD hS
      have h := (if_pos hc).symm.trans h
      refine lv_iload hx hb d_Model_body_214 (lv_at hl 8 rfl) ?_
      refine lv_if_ne (tgt := 225) hx hb d_Model_body_216 rfl (fun hc => ?_) (fun hc => ?_)
      · have h := (if_neg hc).symm.trans h
        exact w_Model_body_225 X ih v0 x1 x2 x3 x5 x6 x7 x8 x9 x10 ls H locs h (lv_sub hl [0, 1, 2, 3, 4, 5, 6, 7, 8, 9] rfl) hP hD hS
      have h := (if_pos hc).symm.trans h
      refine lv_iconst (v := 1) hx hb d_Model_body_219 (by decide) ?_
      refine lv_istore (lv' := [(9, .int (1 : Int32)), (0, .ref a0_0), (1, .int x1), (2, .int x2), (3, .long x3), (5, .int x5), (6, .int x6), (7, .int x7), (8, .int x8), (10, .int x10), (11, .int x11)]) hx hb d_Model_body_220 hl (by decide) rfl (fun ls hl => ?_)
      refine lv_goto (tgt := 306) hx hb d_Model_body_222 rfl ?_
      exact w_Model_body_306 X ih v0 x1 x2 x3 x5 x6 x7 x8 (1 : Int32) x10 x11 ls H locs h (lv_sub hl [1, 2, 3, 4, 5, 6, 7, 8, 0, 9, 10] rfl) hP hD hS
    have h := (if_neg hc).symm.trans h
    refine lv_aload_n hx hb d_Model_body_43 rfl (lv_at hl 0 rfl) ?_
    refine va_get (D := D) (ci := 11) (v := .ref a0_1) (C := R_Model) (T := F_Model) (N := 23) hx hb htB in_Model hown hK hP 0 rfl rfl 0 (by decide) (htB _ b_310) (fun _ h9 => h9) rfl d_Model_body_44 ?_
    refine lv_iload hx hb d_Model_body_47 (lv_at hl 9 rfl) ?_
    obtain ⟨hc, h⟩ := x_chk h
    refine va_cald hx hb hK hP 1 0 rfl rfl hc d_Model_body_49 ?_
    refine lv_bipush (v := 48) hx hb d_Model_body_50 (by decide) ?_
    refine lv_isub hx hb d_Model_body_52 ?_
    refine lv_istore (lv' := [(12, .int ((v0.1 x10.toNatClampNeg) - (48 : Int32))), (0, .ref a0_0), (1, .int x1), (2, .int x2), (3, .long x3), (5, .int x5), (6, .int x6), (7, .int x7), (8, .int x8), (9, .int x9), (10, .int x10), (11, .int x11)]) hx hb d_Model_body_53 hl (by decide) rfl (fun ls hl => ?_)
    refine lv_iload hx hb d_Model_body_55 (lv_at hl 8 rfl) ?_
    refine lv_iconst (v := 1) hx hb d_Model_body_57 (by decide) ?_
    refine lv_iadd hx hb d_Model_body_58 ?_
    refine lv_istore (lv' := [(8, .int (x8 + (1 : Int32))), (12, .int ((v0.1 x10.toNatClampNeg) - (48 : Int32))), (0, .ref a0_0), (1, .int x1), (2, .int x2), (3, .long x3), (5, .int x5), (6, .int x6), (7, .int x7), (9, .int x9), (10, .int x10), (11, .int x11)]) hx hb d_Model_body_59 hl (by decide) rfl (fun ls hl => ?_)
    refine lv_iload hx hb d_Model_body_61 (lv_at hl 9 rfl) ?_
    refine lv_if_eq (tgt := 73) hx hb d_Model_body_63 rfl (fun hc => ?_) (fun hc => ?_)
    · have h := (if_pos hc).symm.trans h
      refine lv_iload hx hb d_Model_body_73 (lv_at hl 8 rfl) ?_
      exact w_Model_body_75 X ih v0 x1 x2 x3 x5 x6 (x8 + (1 : Int32)) x9 x10 x11 ((v0.1 x10.toNatClampNeg) - (48 : Int32)) x7 ls H locs h (lv_sub hl [2, 3, 4, 5, 6, 7, 0, 9, 10, 11, 1] rfl) hP hD hS
    have h := (if_neg hc).symm.trans h
    refine lv_iload hx hb d_Model_body_66 (lv_at hl 8 rfl) ?_
    refine lv_iconst (v := 1) hx hb d_Model_body_68 (by decide) ?_
    refine lv_iadd hx hb d_Model_body_69 ?_
    refine lv_goto (tgt := 75) hx hb d_Model_body_70 rfl ?_
    exact w_Model_body_75 X ih v0 x1 x2 x3 x5 x6 (x8 + (1 : Int32)) x9 x10 x11 ((v0.1 x10.toNatClampNeg) - (48 : Int32)) (x7 + (1 : Int32)) ls H locs h (lv_sub hl [2, 3, 4, 5, 6, 7, 0, 9, 10, 11, 1] rfl) hP hD hS

def f_Model_body (v0 : T_Model) (v1 : Int32) (v2 : Int32) : Option O_Model_body := f_Model_body_28 FU (v0.1, v0.2.1, v0.2.2.1, v0.2.2.2.1, v0.2.2.2.2.1, v0.2.2.2.2.2.1, v0.2.2.2.2.2.2.1, v0.2.2.2.2.2.2.2.1, v0.2.2.2.2.2.2.2.2.1, v0.2.2.2.2.2.2.2.2.2.1, v0.2.2.2.2.2.2.2.2.2.2.1, v0.2.2.2.2.2.2.2.2.2.2.2.1, v0.2.2.2.2.2.2.2.2.2.2.2.2.1, v0.2.2.2.2.2.2.2.2.2.2.2.2.2.1, v0.2.2.2.2.2.2.2.2.2.2.2.2.2.2.1, v0.2.2.2.2.2.2.2.2.2.2.2.2.2.2.2.1, v0.2.2.2.2.2.2.2.2.2.2.2.2.2.2.2.2.1, v0.2.2.2.2.2.2.2.2.2.2.2.2.2.2.2.2.2.1, v0.2.2.2.2.2.2.2.2.2.2.2.2.2.2.2.2.2.2.1, v0.2.2.2.2.2.2.2.2.2.2.2.2.2.2.2.2.2.2.2.1, v0.2.2.2.2.2.2.2.2.2.2.2.2.2.2.2.2.2.2.2.2.1, v0.2.2.2.2.2.2.2.2.2.2.2.2.2.2.2.2.2.2.2.2.2.1, (0 : Int32)) v1 v2 (0 : Int64) (0 : Int32) (0 : Int32) (0 : Int32) (0 : Int32) (0 : Int32) v1 (1 : Int32)
set_option maxHeartbeats 4000000 in
set_option maxRecDepth 100000 in
theorem w_Model_body {p : Program} {l : Launch} {e : Env} {s : State} {m : MethodId} {args : Array Value} {below : List Frame} {meth : Method} {c : Code} {A : Nat → Prop} {D : va_G} {cC cI : ClassId} {a0_0 a0_1 a0_2 a0_3 a0_4 a0_5 a0_6 a0_7 : Nat} (X : xCX p s m args meth c A D cC cI b_Model_body 16 R_Model (some .boolean)) {out : O_Model_body} (v0 : T_Model) (v1 : Int32) (v2 : Int32) {ls : Array Slot} {H : Heap} {locs : List Loc} (h : f_Model_body v0 v1 v2 = some out) (hl : lv_has ls 16 [(0, .ref a0_0), (1, .int v1), (2, .int v2)]) (hP : va_P D classes (wd_Model_body cC cI a0_0 a0_1 a0_2 a0_3 a0_4 a0_5 a0_6 a0_7 v0) H) (hD : va_D A (wd_Model_body cC cI a0_0 a0_1 a0_2 a0_3 a0_4 a0_5 a0_6 a0_7 v0)) (hS : va_S A s.heap H locs) : W p l e rm_Model_body s m args below meth c H locs 0 0 (MQ below (q_Model_body D cC cI a0_0 a0_1 a0_2 a0_3 a0_4 a0_5 a0_6 a0_7 out A) args s 0 0 A) (F0 m 0 ls []) := by
  obtain ⟨hx, hb, hml, hown, htB, ⟨hK, hN⟩, hZ, hA, hr, hlocks⟩ := id X
  refine lv_lconst (v := 0) hx hb d_Model_body_0 (by decide) ?_
  refine lv_lstore_n (lv' := [(3, .long (0 : Int64)), (0, .ref a0_0), (1, .int v1), (2, .int v2)]) hx hb d_Model_body_1 rfl hl (by decide) rfl (fun ls hl => ?_)
  refine lv_iconst (v := 0) hx hb d_Model_body_2 (by decide) ?_
  refine lv_istore (lv' := [(5, .int (0 : Int32)), (3, .long (0 : Int64)), (0, .ref a0_0), (1, .int v1), (2, .int v2)]) hx hb d_Model_body_3 hl (by decide) rfl (fun ls hl => ?_)
  refine lv_iconst (v := 0) hx hb d_Model_body_5 (by decide) ?_
  refine lv_istore (lv' := [(6, .int (0 : Int32)), (5, .int (0 : Int32)), (3, .long (0 : Int64)), (0, .ref a0_0), (1, .int v1), (2, .int v2)]) hx hb d_Model_body_6 hl (by decide) rfl (fun ls hl => ?_)
  refine lv_iconst (v := 0) hx hb d_Model_body_8 (by decide) ?_
  refine lv_istore (lv' := [(7, .int (0 : Int32)), (6, .int (0 : Int32)), (5, .int (0 : Int32)), (3, .long (0 : Int64)), (0, .ref a0_0), (1, .int v1), (2, .int v2)]) hx hb d_Model_body_9 hl (by decide) rfl (fun ls hl => ?_)
  refine lv_iconst (v := 0) hx hb d_Model_body_11 (by decide) ?_
  refine lv_istore (lv' := [(8, .int (0 : Int32)), (7, .int (0 : Int32)), (6, .int (0 : Int32)), (5, .int (0 : Int32)), (3, .long (0 : Int64)), (0, .ref a0_0), (1, .int v1), (2, .int v2)]) hx hb d_Model_body_12 hl (by decide) rfl (fun ls hl => ?_)
  refine lv_iconst (v := 0) hx hb d_Model_body_14 (by decide) ?_
  refine lv_istore (lv' := [(9, .int (0 : Int32)), (8, .int (0 : Int32)), (7, .int (0 : Int32)), (6, .int (0 : Int32)), (5, .int (0 : Int32)), (3, .long (0 : Int64)), (0, .ref a0_0), (1, .int v1), (2, .int v2)]) hx hb d_Model_body_15 hl (by decide) rfl (fun ls hl => ?_)
  refine lv_iload_n hx hb d_Model_body_17 rfl (lv_at hl 7 rfl) ?_
  refine lv_istore (lv' := [(10, .int v1), (9, .int (0 : Int32)), (8, .int (0 : Int32)), (7, .int (0 : Int32)), (6, .int (0 : Int32)), (5, .int (0 : Int32)), (3, .long (0 : Int64)), (0, .ref a0_0), (1, .int v1), (2, .int v2)]) hx hb d_Model_body_18 hl (by decide) rfl (fun ls hl => ?_)
  refine lv_aload_n hx hb d_Model_body_20 rfl (lv_at hl 7 rfl) ?_
  refine lv_iconst (v := 0) hx hb d_Model_body_21 (by decide) ?_
  refine va_put (D := D) (ci := 11) (v := .int (0 : Int32)) (ty := .boolean) (C := R_Model) (T := F_Model) (N := 23) hx hb htB in_Model t_Model t_Model_ok n_Model hown hK hP hD hS 0 rfl rfl 22 (by decide) (htB _ b_447) (fun _ h9 => h9) rfl (by decide +kernel) rfl rfl (Nat.le_of_ble_eq_true rfl) d_Model_body_22 (fun H locs hP hD hS => ?_)
  have hP : va_P D classes (wd_Model_body cC cI a0_0 a0_1 a0_2 a0_3 a0_4 a0_5 a0_6 a0_7 (v0.1, v0.2.1, v0.2.2.1, v0.2.2.2.1, v0.2.2.2.2.1, v0.2.2.2.2.2.1, v0.2.2.2.2.2.2.1, v0.2.2.2.2.2.2.2.1, v0.2.2.2.2.2.2.2.2.1, v0.2.2.2.2.2.2.2.2.2.1, v0.2.2.2.2.2.2.2.2.2.2.1, v0.2.2.2.2.2.2.2.2.2.2.2.1, v0.2.2.2.2.2.2.2.2.2.2.2.2.1, v0.2.2.2.2.2.2.2.2.2.2.2.2.2.1, v0.2.2.2.2.2.2.2.2.2.2.2.2.2.2.1, v0.2.2.2.2.2.2.2.2.2.2.2.2.2.2.2.1, v0.2.2.2.2.2.2.2.2.2.2.2.2.2.2.2.2.1, v0.2.2.2.2.2.2.2.2.2.2.2.2.2.2.2.2.2.1, v0.2.2.2.2.2.2.2.2.2.2.2.2.2.2.2.2.2.2.1, v0.2.2.2.2.2.2.2.2.2.2.2.2.2.2.2.2.2.2.2.1, v0.2.2.2.2.2.2.2.2.2.2.2.2.2.2.2.2.2.2.2.2.1, v0.2.2.2.2.2.2.2.2.2.2.2.2.2.2.2.2.2.2.2.2.2.1, (0 : Int32))) H := hP
  have hD : va_D A (wd_Model_body cC cI a0_0 a0_1 a0_2 a0_3 a0_4 a0_5 a0_6 a0_7 (v0.1, v0.2.1, v0.2.2.1, v0.2.2.2.1, v0.2.2.2.2.1, v0.2.2.2.2.2.1, v0.2.2.2.2.2.2.1, v0.2.2.2.2.2.2.2.1, v0.2.2.2.2.2.2.2.2.1, v0.2.2.2.2.2.2.2.2.2.1, v0.2.2.2.2.2.2.2.2.2.2.1, v0.2.2.2.2.2.2.2.2.2.2.2.1, v0.2.2.2.2.2.2.2.2.2.2.2.2.1, v0.2.2.2.2.2.2.2.2.2.2.2.2.2.1, v0.2.2.2.2.2.2.2.2.2.2.2.2.2.2.1, v0.2.2.2.2.2.2.2.2.2.2.2.2.2.2.2.1, v0.2.2.2.2.2.2.2.2.2.2.2.2.2.2.2.2.1, v0.2.2.2.2.2.2.2.2.2.2.2.2.2.2.2.2.2.1, v0.2.2.2.2.2.2.2.2.2.2.2.2.2.2.2.2.2.2.1, v0.2.2.2.2.2.2.2.2.2.2.2.2.2.2.2.2.2.2.2.1, v0.2.2.2.2.2.2.2.2.2.2.2.2.2.2.2.2.2.2.2.2.1, v0.2.2.2.2.2.2.2.2.2.2.2.2.2.2.2.2.2.2.2.2.2.1, (0 : Int32))) := hD
  refine lv_iconst (v := 1) hx hb d_Model_body_25 (by decide) ?_
  refine lv_istore (lv' := [(11, .int (1 : Int32)), (10, .int v1), (9, .int (0 : Int32)), (8, .int (0 : Int32)), (7, .int (0 : Int32)), (6, .int (0 : Int32)), (5, .int (0 : Int32)), (3, .long (0 : Int64)), (0, .ref a0_0), (1, .int v1), (2, .int v2)]) hx hb d_Model_body_26 hl (by decide) rfl (fun ls hl => ?_)
  exact w_Model_body_28 X FU (v0.1, v0.2.1, v0.2.2.1, v0.2.2.2.1, v0.2.2.2.2.1, v0.2.2.2.2.2.1, v0.2.2.2.2.2.2.1, v0.2.2.2.2.2.2.2.1, v0.2.2.2.2.2.2.2.2.1, v0.2.2.2.2.2.2.2.2.2.1, v0.2.2.2.2.2.2.2.2.2.2.1, v0.2.2.2.2.2.2.2.2.2.2.2.1, v0.2.2.2.2.2.2.2.2.2.2.2.2.1, v0.2.2.2.2.2.2.2.2.2.2.2.2.2.1, v0.2.2.2.2.2.2.2.2.2.2.2.2.2.2.1, v0.2.2.2.2.2.2.2.2.2.2.2.2.2.2.2.1, v0.2.2.2.2.2.2.2.2.2.2.2.2.2.2.2.2.1, v0.2.2.2.2.2.2.2.2.2.2.2.2.2.2.2.2.2.1, v0.2.2.2.2.2.2.2.2.2.2.2.2.2.2.2.2.2.2.1, v0.2.2.2.2.2.2.2.2.2.2.2.2.2.2.2.2.2.2.2.1, v0.2.2.2.2.2.2.2.2.2.2.2.2.2.2.2.2.2.2.2.2.1, v0.2.2.2.2.2.2.2.2.2.2.2.2.2.2.2.2.2.2.2.2.2.1, (0 : Int32)) v1 v2 (0 : Int64) (0 : Int32) (0 : Int32) (0 : Int32) (0 : Int32) (0 : Int32) v1 (1 : Int32) ls H locs h (lv_sub hl [8, 9, 10, 7, 6, 5, 4, 3, 2, 1, 0] rfl) hP hD hS

set_option maxHeartbeats 4000000 in
set_option maxRecDepth 100000 in
theorem c_Model_body (l : Launch) (D : va_G) (cC cI : ClassId) (sz : Nat) (a0_0 a0_1 a0_2 a0_3 a0_4 a0_5 a0_6 a0_7 : Nat) (v0 : T_Model) (v1 : Int32) (v2 : Int32) (out : O_Model_body) (h : f_Model_body v0 v1 v2 = some out) : Met l y_Model_body (.code y_Model_body b_Model_body 16 (some .boolean) :: BIG) rm_Model_body (va_Pc [.ref a0_0, .int v1, .int v2] (xPre D cC cI (wd_Model_body cC cI a0_0 a0_1 a0_2 a0_3 a0_4 a0_5 a0_6 a0_7 v0) sz)) (q_Model_body D cC cI a0_0 a0_1 a0_2 a0_3 a0_4 a0_5 a0_6 a0_7 out (va_A (wd_Model_body cC cI a0_0 a0_1 a0_2 a0_3 a0_4 a0_5 a0_6 a0_7 v0) sz)) 0 0 (va_A (wd_Model_body cC cI a0_0 a0_1 a0_2 a0_3 a0_4 a0_5 a0_6 a0_7 v0) sz) := by
  refine Met.ofW (cc := b_Model_body) (maxL := 16) (ret := (some .boolean)) (by decide) rfl ?_
  intro p e s m args below meth c s₁ B hml hv
  obtain ⟨rfl, rfl, hP, hD0, hG, hZ⟩ := hv
  have hl := lv_entry [.ref a0_0, .int v1, .int v2] (n := 16) (Nat.le_of_ble_eq_true rfl)
  rw [lg_entry_eq]
  exact w_Model_body (x_cx B hml hG hZ) v0 v1 v2 h hl hP hD0.self va_S.rf

