abbrev wd_Row_size (cC cI : ClassId) (a0_0 a0_1 : Nat) (v0 : T_Row) : va_W := [(a0_0, .inr (0, [.ref a0_1, .int v0.2])), (a0_1, .inl (cC, 120, .inl v0.1))]
abbrev O_Row_size : Type := Int32
abbrev q_Row_size (D : va_G) (cC cI : ClassId) (a0_0 a0_1 : Nat) (v0 : T_Row) (out : O_Row_size) (A : Nat → Prop) : Array Value → State → Outcome → State → Prop := va_Qi (fun r (_ : Unit) => r = out) (fun _ t => va_P D classes (wd_Row_size cC cI a0_0 a0_1 v0) t.heap ∧ va_D A (wd_Row_size cC cI a0_0 a0_1 v0)) A
abbrev rm_Row_size : Room := { frames := 0, cells := 0, slots := 0, locals := 0 }
def f_Row_size (v0 : T_Row) : Option O_Row_size := some v0.2
set_option maxHeartbeats 4000000 in
set_option maxRecDepth 100000 in
theorem w_Row_size {p : Program} {l : Launch} {e : Env} {s : State} {m : MethodId} {args : Array Value} {below : List Frame} {meth : Method} {c : Code} {A : Nat → Prop} {D : va_G} {cC cI : ClassId} {a0_0 a0_1 : Nat} {v0 : T_Row} (X : xCX p s m args meth c A D cC cI b_Row_size 1 R_Row (some .int)) {out : O_Row_size}  {ls : Array Slot} {H : Heap} {locs : List Loc} (h : f_Row_size v0 = some out) (hl : lv_has ls 1 [(0, .ref a0_0)]) (hP : va_P D classes (wd_Row_size cC cI a0_0 a0_1 v0) H) (hD : va_D A (wd_Row_size cC cI a0_0 a0_1 v0)) (hS : va_S A s.heap H locs) : W p l e rm_Row_size s m args below meth c H locs 0 0 (MQ below (q_Row_size D cC cI a0_0 a0_1 v0 out A) args s 0 0 A) (F0 m 0 ls []) := by
  obtain ⟨hx, hb, hml, hown, htB, ⟨hK, hN⟩, hZ, hA, hr, hlocks⟩ := id X
  refine lv_aload_n hx hb d_Row_size_0 rfl (lv_at hl 0 rfl) ?_
  refine va_get (D := D) (ci := 0) (v := .int v0.2) (C := R_Row) (T := F_Row) (N := 2) hx hb htB in_Row hown hK hP 0 rfl rfl 1 (by decide) (htB _ b_0) (fun _ h9 => h9) rfl d_Row_size_1 ?_
  obtain rfl := Option.some.inj h
  exact W.iret (v := v0.2) hx hb hr (fun t ht hW => ⟨⟨v0.2, (), rfl, rfl, by rw [ht]; exact hP, hD⟩, hS.F ht⟩) hS.2.2 d_Row_size_4 hlocks

set_option maxHeartbeats 4000000 in
set_option maxRecDepth 100000 in
theorem c_Row_size (l : Launch) (D : va_G) (cC cI : ClassId) (sz : Nat) (a0_0 a0_1 : Nat) (v0 : T_Row) (out : O_Row_size) (h : f_Row_size v0 = some out) : Met l y_Row_size (.code y_Row_size b_Row_size 1 (some .int) :: BIG) rm_Row_size (va_Pc [.ref a0_0] (xPre D cC cI (wd_Row_size cC cI a0_0 a0_1 v0) sz)) (q_Row_size D cC cI a0_0 a0_1 v0 out (va_A (wd_Row_size cC cI a0_0 a0_1 v0) sz)) 0 0 (va_A (wd_Row_size cC cI a0_0 a0_1 v0) sz) := by
  refine Met.ofW (cc := b_Row_size) (maxL := 1) (ret := (some .int)) (by decide) rfl ?_
  intro p e s m args below meth c s₁ B hml hv
  obtain ⟨rfl, rfl, hP, hD0, hG, hZ⟩ := hv
  have hl := lv_entry [.ref a0_0] (n := 1) (Nat.le_of_ble_eq_true rfl)
  rw [lg_entry_eq]
  exact w_Row_size (x_cx B hml hG hZ) h hl hP hD0.self va_S.rf

abbrev wd_Row_at (cC cI : ClassId) (a0_0 a0_1 : Nat) (v0 : T_Row) : va_W := [(a0_0, .inr (0, [.ref a0_1, .int v0.2])), (a0_1, .inl (cC, 120, .inl v0.1))]
abbrev O_Row_at : Type := Int32
abbrev q_Row_at (D : va_G) (cC cI : ClassId) (a0_0 a0_1 : Nat) (v0 : T_Row) (out : O_Row_at) (A : Nat → Prop) : Array Value → State → Outcome → State → Prop := va_Qi (fun r (_ : Unit) => r = out) (fun _ t => va_P D classes (wd_Row_at cC cI a0_0 a0_1 v0) t.heap ∧ va_D A (wd_Row_at cC cI a0_0 a0_1 v0)) A
abbrev rm_Row_at : Room := { frames := 0, cells := 0, slots := 0, locals := 0 }
def J_Row_at_21 (p : Program) (l : Launch) (e : Env) (s : State) (m : MethodId) (args : Array Value) (below : List Frame) (meth : Method) (c : Code) (A : Nat → Prop) (D : va_G) (cC cI : ClassId) (a0_0 a0_1 : Nat) (v0 : T_Row) (out : O_Row_at) (k : Option O_Row_at) : Prop := ∀  (ls : Array Slot) (H : Heap) (locs : List Loc), k  = some out → lv_has ls 2 [] → va_P D classes (wd_Row_at cC cI a0_0 a0_1 v0) H → va_D A (wd_Row_at cC cI a0_0 a0_1 v0) → va_S A s.heap H locs → W p l e rm_Row_at s m args below meth c H locs 0 0 (MQ below (q_Row_at D cC cI a0_0 a0_1 v0 out A) args s 0 0 A) (F0 m 21 ls [])
def J_Row_at_22 (p : Program) (l : Launch) (e : Env) (s : State) (m : MethodId) (args : Array Value) (below : List Frame) (meth : Method) (c : Code) (A : Nat → Prop) (D : va_G) (cC cI : ClassId) (a0_0 a0_1 : Nat) (v0 : T_Row) (out : O_Row_at) (k : Int32 → Option O_Row_at) : Prop := ∀ (s0 : Int32) (ls : Array Slot) (H : Heap) (locs : List Loc), k s0 = some out → lv_has ls 2 [] → va_P D classes (wd_Row_at cC cI a0_0 a0_1 v0) H → va_D A (wd_Row_at cC cI a0_0 a0_1 v0) → va_S A s.heap H locs → W p l e rm_Row_at s m args below meth c H locs 0 0 (MQ below (q_Row_at D cC cI a0_0 a0_1 v0 out A) args s 0 0 A) (F0 m 22 ls [.int s0])
def f_Row_at_22 (v0 : T_Row) (s0 : Int32) : Option O_Row_at := some s0
set_option maxHeartbeats 4000000 in
set_option maxRecDepth 100000 in
theorem w_Row_at_22 {p : Program} {l : Launch} {e : Env} {s : State} {m : MethodId} {args : Array Value} {below : List Frame} {meth : Method} {c : Code} {A : Nat → Prop} {D : va_G} {cC cI : ClassId} {a0_0 a0_1 : Nat} {v0 : T_Row} (X : xCX p s m args meth c A D cC cI b_Row_at 2 R_Row (some .int)) {out : O_Row_at}   : J_Row_at_22 p l e s m args below meth c A D cC cI a0_0 a0_1 v0 out (f_Row_at_22 v0 ) := by
  obtain ⟨hx, hb, hml, hown, htB, ⟨hK, hN⟩, hZ, hA, hr, hlocks⟩ := id X
  intro s0 ls H locs h hl hP hD hS
  obtain rfl := Option.some.inj h
  exact W.iret (v := s0) hx hb hr (fun t ht hW => ⟨⟨s0, (), rfl, rfl, by rw [ht]; exact hP, hD⟩, hS.F ht⟩) hS.2.2 d_Row_at_22 hlocks

def f_Row_at_21 (v0 : T_Row) : Option O_Row_at := f_Row_at_22 v0 (-1 : Int32)
set_option maxHeartbeats 4000000 in
set_option maxRecDepth 100000 in
theorem w_Row_at_21 {p : Program} {l : Launch} {e : Env} {s : State} {m : MethodId} {args : Array Value} {below : List Frame} {meth : Method} {c : Code} {A : Nat → Prop} {D : va_G} {cC cI : ClassId} {a0_0 a0_1 : Nat} {v0 : T_Row} (X : xCX p s m args meth c A D cC cI b_Row_at 2 R_Row (some .int)) {out : O_Row_at}   : J_Row_at_21 p l e s m args below meth c A D cC cI a0_0 a0_1 v0 out (f_Row_at_21 v0 ) := by
  obtain ⟨hx, hb, hml, hown, htB, ⟨hK, hN⟩, hZ, hA, hr, hlocks⟩ := id X
  intro  ls H locs h hl hP hD hS
  refine lv_iconst (v := -1) hx hb d_Row_at_21 (by decide) ?_
  exact w_Row_at_22 X (-1 : Int32) ls H locs h (lv_sub hl [] rfl) hP hD hS

def f_Row_at (v0 : T_Row) (v1 : Int32) : Option O_Row_at := (if v1 < 0 then f_Row_at_21 v0 else (if v0.2 ≤ v1 then f_Row_at_21 v0 else if ix v1 120 then f_Row_at_22 v0 (v0.1 v1.toNatClampNeg) else none))
set_option maxHeartbeats 4000000 in
set_option maxRecDepth 100000 in
theorem w_Row_at {p : Program} {l : Launch} {e : Env} {s : State} {m : MethodId} {args : Array Value} {below : List Frame} {meth : Method} {c : Code} {A : Nat → Prop} {D : va_G} {cC cI : ClassId} {a0_0 a0_1 : Nat} {v0 : T_Row} (X : xCX p s m args meth c A D cC cI b_Row_at 2 R_Row (some .int)) {out : O_Row_at} (v1 : Int32) {ls : Array Slot} {H : Heap} {locs : List Loc} (h : f_Row_at v0 v1 = some out) (hl : lv_has ls 2 [(0, .ref a0_0), (1, .int v1)]) (hP : va_P D classes (wd_Row_at cC cI a0_0 a0_1 v0) H) (hD : va_D A (wd_Row_at cC cI a0_0 a0_1 v0)) (hS : va_S A s.heap H locs) : W p l e rm_Row_at s m args below meth c H locs 0 0 (MQ below (q_Row_at D cC cI a0_0 a0_1 v0 out A) args s 0 0 A) (F0 m 0 ls []) := by
  obtain ⟨hx, hb, hml, hown, htB, ⟨hK, hN⟩, hZ, hA, hr, hlocks⟩ := id X
  refine lv_iload_n hx hb d_Row_at_0 rfl (lv_at hl 1 rfl) ?_
  refine lv_if_lt (tgt := 21) hx hb d_Row_at_1 rfl (fun hc => ?_) (fun hc => ?_)
  · have h := (if_pos hc).symm.trans h
    exact w_Row_at_21 X ls H locs h (lv_sub hl [] rfl) hP hD hS
  have h := (if_neg hc).symm.trans h
  refine lv_iload_n hx hb d_Row_at_4 rfl (lv_at hl 1 rfl) ?_
  refine lv_aload_n hx hb d_Row_at_5 rfl (lv_at hl 0 rfl) ?_
  refine va_get (D := D) (ci := 0) (v := .int v0.2) (C := R_Row) (T := F_Row) (N := 2) hx hb htB in_Row hown hK hP 0 rfl rfl 1 (by decide) (htB _ b_0) (fun _ h9 => h9) rfl d_Row_at_6 ?_
  refine lv_icmp_ge (tgt := 21) hx hb d_Row_at_9 rfl (fun hc => ?_) (fun hc => ?_)
  · have h := (if_pos hc).symm.trans h
    exact w_Row_at_21 X ls H locs h (lv_sub hl [] rfl) hP hD hS
  have h := (if_neg hc).symm.trans h
  refine lv_aload_n hx hb d_Row_at_12 rfl (lv_at hl 0 rfl) ?_
  refine va_get (D := D) (ci := 0) (v := .ref a0_1) (C := R_Row) (T := F_Row) (N := 2) hx hb htB in_Row hown hK hP 0 rfl rfl 0 (by decide) (htB _ b_1) (fun _ h9 => h9) rfl d_Row_at_13 ?_
  refine lv_iload_n hx hb d_Row_at_16 rfl (lv_at hl 1 rfl) ?_
  obtain ⟨hc, h⟩ := x_chk h
  refine va_cald hx hb hK hP 1 0 rfl rfl hc d_Row_at_17 ?_
  refine lv_goto (tgt := 22) hx hb d_Row_at_18 rfl ?_
  exact w_Row_at_22 X (v0.1 v1.toNatClampNeg) ls H locs h (lv_sub hl [] rfl) hP hD hS

set_option maxHeartbeats 4000000 in
set_option maxRecDepth 100000 in
theorem c_Row_at (l : Launch) (D : va_G) (cC cI : ClassId) (sz : Nat) (a0_0 a0_1 : Nat) (v0 : T_Row) (v1 : Int32) (out : O_Row_at) (h : f_Row_at v0 v1 = some out) : Met l y_Row_at (.code y_Row_at b_Row_at 2 (some .int) :: BIG) rm_Row_at (va_Pc [.ref a0_0, .int v1] (xPre D cC cI (wd_Row_at cC cI a0_0 a0_1 v0) sz)) (q_Row_at D cC cI a0_0 a0_1 v0 out (va_A (wd_Row_at cC cI a0_0 a0_1 v0) sz)) 0 0 (va_A (wd_Row_at cC cI a0_0 a0_1 v0) sz) := by
  refine Met.ofW (cc := b_Row_at) (maxL := 2) (ret := (some .int)) (by decide) rfl ?_
  intro p e s m args below meth c s₁ B hml hv
  obtain ⟨rfl, rfl, hP, hD0, hG, hZ⟩ := hv
  have hl := lv_entry [.ref a0_0, .int v1] (n := 2) (Nat.le_of_ble_eq_true rfl)
  rw [lg_entry_eq]
  exact w_Row_at (x_cx B hml hG hZ) v1 h hl hP hD0.self va_S.rf

abbrev wd_Row_add (cC cI : ClassId) (a0_0 a0_1 : Nat) (v0 : T_Row) : va_W := [(a0_0, .inr (0, [.ref a0_1, .int v0.2])), (a0_1, .inl (cC, 120, .inl v0.1))]
abbrev O_Row_add : Type := Int32 × T_Row
abbrev q_Row_add (D : va_G) (cC cI : ClassId) (a0_0 a0_1 : Nat)  (out : O_Row_add) (A : Nat → Prop) : Array Value → State → Outcome → State → Prop := va_Qi (fun r (_ : Unit) => r = out.1) (fun _ t => va_P D classes (wd_Row_add cC cI a0_0 a0_1 out.2) t.heap ∧ va_D A (wd_Row_add cC cI a0_0 a0_1 out.2)) A
abbrev rm_Row_add : Room := { frames := 0, cells := 0, slots := 0, locals := 0 }
def f_Row_add (v0 : T_Row) (v1 : Int32) : Option O_Row_add := (if v0.2 < (120 : Int32) then if ix v0.2 120 then some ((1 : Int32), ((upd v0.1 v0.2.toNatClampNeg (vp_nar .char v1)), (v0.2 + (1 : Int32)))) else none else some ((0 : Int32), v0))
set_option maxHeartbeats 4000000 in
set_option maxRecDepth 100000 in
theorem w_Row_add {p : Program} {l : Launch} {e : Env} {s : State} {m : MethodId} {args : Array Value} {below : List Frame} {meth : Method} {c : Code} {A : Nat → Prop} {D : va_G} {cC cI : ClassId} {a0_0 a0_1 : Nat} (X : xCX p s m args meth c A D cC cI b_Row_add 2 R_Row (some .boolean)) {out : O_Row_add} (v0 : T_Row) (v1 : Int32) {ls : Array Slot} {H : Heap} {locs : List Loc} (h : f_Row_add v0 v1 = some out) (hl : lv_has ls 2 [(0, .ref a0_0), (1, .int v1)]) (hP : va_P D classes (wd_Row_add cC cI a0_0 a0_1 v0) H) (hD : va_D A (wd_Row_add cC cI a0_0 a0_1 v0)) (hS : va_S A s.heap H locs) : W p l e rm_Row_add s m args below meth c H locs 0 0 (MQ below (q_Row_add D cC cI a0_0 a0_1 out A) args s 0 0 A) (F0 m 0 ls []) := by
  obtain ⟨hx, hb, hml, hown, htB, ⟨hK, hN⟩, hZ, hA, hr, hlocks⟩ := id X
  refine lv_aload_n hx hb d_Row_add_0 rfl (lv_at hl 0 rfl) ?_
  refine va_get (D := D) (ci := 0) (v := .int v0.2) (C := R_Row) (T := F_Row) (N := 2) hx hb htB in_Row hown hK hP 0 rfl rfl 1 (by decide) (htB _ b_0) (fun _ h9 => h9) rfl d_Row_add_1 ?_
  refine lv_aload_n hx hb d_Row_add_4 rfl (lv_at hl 0 rfl) ?_
  refine va_get (D := D) (ci := 0) (v := .ref a0_1) (C := R_Row) (T := F_Row) (N := 2) hx hb htB in_Row hown hK hP 0 rfl rfl 0 (by decide) (htB _ b_1) (fun _ h9 => h9) rfl d_Row_add_5 ?_
  refine va_alen hx hb hK hP 1 0 rfl rfl (v := 120) rfl d_Row_add_8 ?_
  refine lv_icmp_lt (tgt := 14) hx hb d_Row_add_9 rfl (fun hc => ?_) (fun hc => ?_)
  · have h := (if_pos hc).symm.trans h
    refine lv_aload_n hx hb d_Row_add_14 rfl (lv_at hl 0 rfl) ?_
    refine va_get (D := D) (ci := 0) (v := .ref a0_1) (C := R_Row) (T := F_Row) (N := 2) hx hb htB in_Row hown hK hP 0 rfl rfl 0 (by decide) (htB _ b_1) (fun _ h9 => h9) rfl d_Row_add_15 ?_
    refine lv_aload_n hx hb d_Row_add_18 rfl (lv_at hl 0 rfl) ?_
    refine va_get (D := D) (ci := 0) (v := .int v0.2) (C := R_Row) (T := F_Row) (N := 2) hx hb htB in_Row hown hK hP 0 rfl rfl 1 (by decide) (htB _ b_0) (fun _ h9 => h9) rfl d_Row_add_19 ?_
    refine lv_iload_n hx hb d_Row_add_22 rfl (lv_at hl 1 rfl) ?_
    obtain ⟨hc, h⟩ := x_chk h
    refine va_cast hx hb hK hP hD hS 1 0 rfl rfl hc d_Row_add_23 (fun H locs hP hD hS => ?_)
    have hP : va_P D classes (wd_Row_add cC cI a0_0 a0_1 ((upd v0.1 v0.2.toNatClampNeg (vp_nar .char v1)), v0.2)) H := hP
    have hD : va_D A (wd_Row_add cC cI a0_0 a0_1 ((upd v0.1 v0.2.toNatClampNeg (vp_nar .char v1)), v0.2)) := hD
    refine lv_aload_n hx hb d_Row_add_24 rfl (lv_at hl 0 rfl) ?_
    refine lv_dup hx hb d_Row_add_25 rfl ?_
    refine va_get (D := D) (ci := 0) (v := .int v0.2) (C := R_Row) (T := F_Row) (N := 2) hx hb htB in_Row hown hK hP 0 rfl rfl 1 (by decide) (htB _ b_0) (fun _ h9 => h9) rfl d_Row_add_26 ?_
    refine lv_iconst (v := 1) hx hb d_Row_add_29 (by decide) ?_
    refine lv_iadd hx hb d_Row_add_30 ?_
    refine va_put (D := D) (ci := 0) (v := .int (v0.2 + (1 : Int32))) (ty := .int) (C := R_Row) (T := F_Row) (N := 2) hx hb htB in_Row t_Row t_Row_ok n_Row hown hK hP hD hS 0 rfl rfl 1 (by decide) (htB _ b_0) (fun _ h9 => h9) rfl (by decide +kernel) rfl rfl (Nat.le_of_ble_eq_true rfl) d_Row_add_31 (fun H locs hP hD hS => ?_)
    have hP : va_P D classes (wd_Row_add cC cI a0_0 a0_1 ((upd v0.1 v0.2.toNatClampNeg (vp_nar .char v1)), (v0.2 + (1 : Int32)))) H := hP
    have hD : va_D A (wd_Row_add cC cI a0_0 a0_1 ((upd v0.1 v0.2.toNatClampNeg (vp_nar .char v1)), (v0.2 + (1 : Int32)))) := hD
    refine lv_iconst (v := 1) hx hb d_Row_add_34 (by decide) ?_
    obtain rfl := Option.some.inj h
    exact W.zret (v := (1 : Int32)) (ty := .boolean) hx hb hr rfl (fun t ht hW => ⟨⟨(1 : Int32), (), rfl, rfl, by rw [ht]; exact hP, hD⟩, hS.F ht⟩) hS.2.2 d_Row_add_35 hlocks
  have h := (if_neg hc).symm.trans h
  refine lv_iconst (v := 0) hx hb d_Row_add_12 (by decide) ?_
  obtain rfl := Option.some.inj h
  exact W.zret (v := (0 : Int32)) (ty := .boolean) hx hb hr rfl (fun t ht hW => ⟨⟨(0 : Int32), (), rfl, rfl, by rw [ht]; exact hP, hD⟩, hS.F ht⟩) hS.2.2 d_Row_add_13 hlocks

set_option maxHeartbeats 4000000 in
set_option maxRecDepth 100000 in
theorem c_Row_add (l : Launch) (D : va_G) (cC cI : ClassId) (sz : Nat) (a0_0 a0_1 : Nat) (v0 : T_Row) (v1 : Int32) (out : O_Row_add) (h : f_Row_add v0 v1 = some out) : Met l y_Row_add (.code y_Row_add b_Row_add 2 (some .boolean) :: BIG) rm_Row_add (va_Pc [.ref a0_0, .int v1] (xPre D cC cI (wd_Row_add cC cI a0_0 a0_1 v0) sz)) (q_Row_add D cC cI a0_0 a0_1 out (va_A (wd_Row_add cC cI a0_0 a0_1 v0) sz)) 0 0 (va_A (wd_Row_add cC cI a0_0 a0_1 v0) sz) := by
  refine Met.ofW (cc := b_Row_add) (maxL := 2) (ret := (some .boolean)) (by decide) rfl ?_
  intro p e s m args below meth c s₁ B hml hv
  obtain ⟨rfl, rfl, hP, hD0, hG, hZ⟩ := hv
  have hl := lv_entry [.ref a0_0, .int v1] (n := 2) (Nat.le_of_ble_eq_true rfl)
  rw [lg_entry_eq]
  exact w_Row_add (x_cx B hml hG hZ) v0 v1 h hl hP hD0.self va_S.rf

abbrev wd_Row_clear (cC cI : ClassId) (a0_0 a0_1 : Nat) (v0 : T_Row) : va_W := [(a0_0, .inr (0, [.ref a0_1, .int v0.2])), (a0_1, .inl (cC, 120, .inl v0.1))]
abbrev O_Row_clear : Type := T_Row
abbrev q_Row_clear (D : va_G) (cC cI : ClassId) (a0_0 a0_1 : Nat)  (out : O_Row_clear) (A : Nat → Prop) : Array Value → State → Outcome → State → Prop := va_Qv (fun _ : Unit => True) (fun _ t => va_P D classes (wd_Row_clear cC cI a0_0 a0_1 out) t.heap ∧ va_D A (wd_Row_clear cC cI a0_0 a0_1 out)) A
abbrev rm_Row_clear : Room := { frames := 0, cells := 0, slots := 0, locals := 0 }
def f_Row_clear (v0 : T_Row) : Option O_Row_clear := some (v0.1, (0 : Int32))
set_option maxHeartbeats 4000000 in
set_option maxRecDepth 100000 in
theorem w_Row_clear {p : Program} {l : Launch} {e : Env} {s : State} {m : MethodId} {args : Array Value} {below : List Frame} {meth : Method} {c : Code} {A : Nat → Prop} {D : va_G} {cC cI : ClassId} {a0_0 a0_1 : Nat} (X : xCX p s m args meth c A D cC cI b_Row_clear 1 R_Row none) {out : O_Row_clear} (v0 : T_Row) {ls : Array Slot} {H : Heap} {locs : List Loc} (h : f_Row_clear v0 = some out) (hl : lv_has ls 1 [(0, .ref a0_0)]) (hP : va_P D classes (wd_Row_clear cC cI a0_0 a0_1 v0) H) (hD : va_D A (wd_Row_clear cC cI a0_0 a0_1 v0)) (hS : va_S A s.heap H locs) : W p l e rm_Row_clear s m args below meth c H locs 0 0 (MQ below (q_Row_clear D cC cI a0_0 a0_1 out A) args s 0 0 A) (F0 m 0 ls []) := by
  obtain ⟨hx, hb, hml, hown, htB, ⟨hK, hN⟩, hZ, hA, hr, hlocks⟩ := id X
  refine lv_aload_n hx hb d_Row_clear_0 rfl (lv_at hl 0 rfl) ?_
  refine lv_iconst (v := 0) hx hb d_Row_clear_1 (by decide) ?_
  refine va_put (D := D) (ci := 0) (v := .int (0 : Int32)) (ty := .int) (C := R_Row) (T := F_Row) (N := 2) hx hb htB in_Row t_Row t_Row_ok n_Row hown hK hP hD hS 0 rfl rfl 1 (by decide) (htB _ b_0) (fun _ h9 => h9) rfl (by decide +kernel) rfl rfl (Nat.le_of_ble_eq_true rfl) d_Row_clear_2 (fun H locs hP hD hS => ?_)
  have hP : va_P D classes (wd_Row_clear cC cI a0_0 a0_1 (v0.1, (0 : Int32))) H := hP
  have hD : va_D A (wd_Row_clear cC cI a0_0 a0_1 (v0.1, (0 : Int32))) := hD
  obtain rfl := Option.some.inj h
  exact W.vret hx hb hr (fun t ht hW => ⟨⟨(), rfl, trivial, by rw [ht]; exact hP, hD⟩, hS.F ht⟩) hS.2.2 d_Row_clear_5 hlocks

set_option maxHeartbeats 4000000 in
set_option maxRecDepth 100000 in
theorem c_Row_clear (l : Launch) (D : va_G) (cC cI : ClassId) (sz : Nat) (a0_0 a0_1 : Nat) (v0 : T_Row) (out : O_Row_clear) (h : f_Row_clear v0 = some out) : Met l y_Row_clear (.code y_Row_clear b_Row_clear 1 none :: BIG) rm_Row_clear (va_Pc [.ref a0_0] (xPre D cC cI (wd_Row_clear cC cI a0_0 a0_1 v0) sz)) (q_Row_clear D cC cI a0_0 a0_1 out (va_A (wd_Row_clear cC cI a0_0 a0_1 v0) sz)) 0 0 (va_A (wd_Row_clear cC cI a0_0 a0_1 v0) sz) := by
  refine Met.ofW (cc := b_Row_clear) (maxL := 1) (ret := none) (by decide) rfl ?_
  intro p e s m args below meth c s₁ B hml hv
  obtain ⟨rfl, rfl, hP, hD0, hG, hZ⟩ := hv
  have hl := lv_entry [.ref a0_0] (n := 1) (Nat.le_of_ble_eq_true rfl)
  rw [lg_entry_eq]
  exact w_Row_clear (x_cx B hml hG hZ) v0 h hl hP hD0.self va_S.rf

abbrev wd_Row_become (cC cI : ClassId) (a0_0 a0_1 a1_0 a1_1 : Nat) (v0 : T_Row) (v1 : T_Row) : va_W := [(a0_0, .inr (0, [.ref a0_1, .int v0.2])), (a0_1, .inl (cC, 120, .inl v0.1)), (a1_0, .inr (0, [.ref a1_1, .int v1.2])), (a1_1, .inl (cC, 120, .inl v1.1))]
abbrev O_Row_become : Type := T_Row
abbrev q_Row_become (D : va_G) (cC cI : ClassId) (a0_0 a0_1 a1_0 a1_1 : Nat) (v1 : T_Row) (out : O_Row_become) (A : Nat → Prop) : Array Value → State → Outcome → State → Prop := va_Qv (fun _ : Unit => True) (fun _ t => va_P D classes (wd_Row_become cC cI a0_0 a0_1 a1_0 a1_1 out v1) t.heap ∧ va_D A (wd_Row_become cC cI a0_0 a0_1 a1_0 a1_1 out v1)) A
abbrev rm_Row_become : Room := { frames := 1, cells := 0, slots := 0, locals := 100 }
def f_Row_become (v0 : T_Row) (v1 : T_Row) : Option O_Row_become := if (¬ (0 : Int32) < 0 ∧ ¬ (0 : Int32) < 0 ∧ ¬ v1.2 < 0 ∧ (0 : Int32).toNatClampNeg + v1.2.toNatClampNeg ≤ 120 ∧ (0 : Int32).toNatClampNeg + v1.2.toNatClampNeg ≤ 120 ∧ ∀ i, i < v1.2.toNatClampNeg → fits .char (.int (v1.1 ((0 : Int32).toNatClampNeg + i))) = true) then some ((va_cpy v1.1 v0.1 (0 : Int32).toNatClampNeg (0 : Int32).toNatClampNeg v1.2.toNatClampNeg), v1.2) else none
set_option maxHeartbeats 4000000 in
set_option maxRecDepth 100000 in
theorem w_Row_become {p : Program} {l : Launch} {e : Env} {s : State} {m : MethodId} {args : Array Value} {below : List Frame} {meth : Method} {c : Code} {A : Nat → Prop} {D : va_G} {cC cI : ClassId} {a0_0 a0_1 a1_0 a1_1 : Nat} {v1 : T_Row} (X : xCX p s m args meth c A D cC cI b_Row_become 2 R_Row none) {out : O_Row_become} (v0 : T_Row) {ls : Array Slot} {H : Heap} {locs : List Loc} (h : f_Row_become v0 v1 = some out) (hl : lv_has ls 2 [(0, .ref a0_0), (1, .ref a1_0)]) (hP : va_P D classes (wd_Row_become cC cI a0_0 a0_1 a1_0 a1_1 v0 v1) H) (hD : va_D A (wd_Row_become cC cI a0_0 a0_1 a1_0 a1_1 v0 v1)) (hS : va_S A s.heap H locs) : W p l e rm_Row_become s m args below meth c H locs 0 0 (MQ below (q_Row_become D cC cI a0_0 a0_1 a1_0 a1_1 v1 out A) args s 0 0 A) (F0 m 0 ls []) := by
  obtain ⟨hx, hb, hml, hown, htB, ⟨hK, hN⟩, hZ, hA, hr, hlocks⟩ := id X
  refine lv_aload_n hx hb d_Row_become_0 rfl (lv_at hl 1 rfl) ?_
  refine va_get (D := D) (ci := 0) (v := .ref a1_1) (C := R_Row) (T := F_Row) (N := 2) hx hb htB in_Row hown hK hP 2 rfl rfl 0 (by decide) (htB _ b_1) (fun _ h9 => h9) rfl d_Row_become_1 ?_
  refine lv_iconst (v := 0) hx hb d_Row_become_4 (by decide) ?_
  refine lv_aload_n hx hb d_Row_become_5 rfl (lv_at hl 0 rfl) ?_
  refine va_get (D := D) (ci := 0) (v := .ref a0_1) (C := R_Row) (T := F_Row) (N := 2) hx hb htB in_Row hown hK hP 0 rfl rfl 0 (by decide) (htB _ b_1) (fun _ h9 => h9) rfl d_Row_become_6 ?_
  refine lv_iconst (v := 0) hx hb d_Row_become_9 (by decide) ?_
  refine lv_aload_n hx hb d_Row_become_10 rfl (lv_at hl 1 rfl) ?_
  refine va_get (D := D) (ci := 0) (v := .int v1.2) (C := R_Row) (T := F_Row) (N := 2) hx hb htB in_Row hown hK hP 2 rfl rfl 1 (by decide) (htB _ b_0) (fun _ h9 => h9) rfl d_Row_become_11 ?_
  obtain ⟨⟨hc1, hc2, hc3, hc4, hc5, hc6⟩, h⟩ := x_chk h
  refine va_copyi (ty := .char) hx hb (hml.trans hl.1.symm) hown (htB _ b_2) (htB _ b_3) (htB _ b_4) (htB _ b_5) hK hP hD hS 3 1 0 0 rfl rfl rfl rfl rfl hc1 hc2 hc3 hc4 hc5 hc6 (Nat.le_of_ble_eq_true rfl) (Nat.le_of_ble_eq_true rfl) d_Row_become_14 (fun H locs hP hD hS => ?_)
  have hP : va_P D classes (wd_Row_become cC cI a0_0 a0_1 a1_0 a1_1 ((va_cpy v1.1 v0.1 (0 : Int32).toNatClampNeg (0 : Int32).toNatClampNeg v1.2.toNatClampNeg), v0.2) v1) H := hP
  have hD : va_D A (wd_Row_become cC cI a0_0 a0_1 a1_0 a1_1 ((va_cpy v1.1 v0.1 (0 : Int32).toNatClampNeg (0 : Int32).toNatClampNeg v1.2.toNatClampNeg), v0.2) v1) := hD
  refine lv_aload_n hx hb d_Row_become_17 rfl (lv_at hl 0 rfl) ?_
  refine lv_aload_n hx hb d_Row_become_18 rfl (lv_at hl 1 rfl) ?_
  refine va_get (D := D) (ci := 0) (v := .int v1.2) (C := R_Row) (T := F_Row) (N := 2) hx hb htB in_Row hown hK hP 2 rfl rfl 1 (by decide) (htB _ b_0) (fun _ h9 => h9) rfl d_Row_become_19 ?_
  refine va_put (D := D) (ci := 0) (v := .int v1.2) (ty := .int) (C := R_Row) (T := F_Row) (N := 2) hx hb htB in_Row t_Row t_Row_ok n_Row hown hK hP hD hS 0 rfl rfl 1 (by decide) (htB _ b_0) (fun _ h9 => h9) rfl (by decide +kernel) rfl rfl (Nat.le_of_ble_eq_true rfl) d_Row_become_22 (fun H locs hP hD hS => ?_)
  have hP : va_P D classes (wd_Row_become cC cI a0_0 a0_1 a1_0 a1_1 ((va_cpy v1.1 v0.1 (0 : Int32).toNatClampNeg (0 : Int32).toNatClampNeg v1.2.toNatClampNeg), v1.2) v1) H := hP
  have hD : va_D A (wd_Row_become cC cI a0_0 a0_1 a1_0 a1_1 ((va_cpy v1.1 v0.1 (0 : Int32).toNatClampNeg (0 : Int32).toNatClampNeg v1.2.toNatClampNeg), v1.2) v1) := hD
  obtain rfl := Option.some.inj h
  exact W.vret hx hb hr (fun t ht hW => ⟨⟨(), rfl, trivial, by rw [ht]; exact hP, hD⟩, hS.F ht⟩) hS.2.2 d_Row_become_25 hlocks

set_option maxHeartbeats 4000000 in
set_option maxRecDepth 100000 in
theorem c_Row_become (l : Launch) (D : va_G) (cC cI : ClassId) (sz : Nat) (a0_0 a0_1 a1_0 a1_1 : Nat) (v0 : T_Row) (v1 : T_Row) (out : O_Row_become) (h : f_Row_become v0 v1 = some out) : Met l y_Row_become (.code y_Row_become b_Row_become 2 none :: BIG) rm_Row_become (va_Pc [.ref a0_0, .ref a1_0] (xPre D cC cI (wd_Row_become cC cI a0_0 a0_1 a1_0 a1_1 v0 v1) sz)) (q_Row_become D cC cI a0_0 a0_1 a1_0 a1_1 v1 out (va_A (wd_Row_become cC cI a0_0 a0_1 a1_0 a1_1 v0 v1) sz)) 0 0 (va_A (wd_Row_become cC cI a0_0 a0_1 a1_0 a1_1 v0 v1) sz) := by
  refine Met.ofW (cc := b_Row_become) (maxL := 2) (ret := none) (by decide) rfl ?_
  intro p e s m args below meth c s₁ B hml hv
  obtain ⟨rfl, rfl, hP, hD0, hG, hZ⟩ := hv
  have hl := lv_entry [.ref a0_0, .ref a1_0] (n := 2) (Nat.le_of_ble_eq_true rfl)
  rw [lg_entry_eq]
  exact w_Row_become (x_cx B hml hG hZ) v0 h hl hP hD0.self va_S.rf

abbrev wd_Affix_size (cC cI : ClassId) (a0_0 a0_1 : Nat) (v0 : T_Affix) : va_W := [(a0_0, .inr (1, [.ref a0_1, .int v0.2])), (a0_1, .inl (cI, 120, .inl v0.1))]
abbrev O_Affix_size : Type := Int32
abbrev q_Affix_size (D : va_G) (cC cI : ClassId) (a0_0 a0_1 : Nat) (v0 : T_Affix) (out : O_Affix_size) (A : Nat → Prop) : Array Value → State → Outcome → State → Prop := va_Qi (fun r (_ : Unit) => r = out) (fun _ t => va_P D classes (wd_Affix_size cC cI a0_0 a0_1 v0) t.heap ∧ va_D A (wd_Affix_size cC cI a0_0 a0_1 v0)) A
abbrev rm_Affix_size : Room := { frames := 0, cells := 0, slots := 0, locals := 0 }
def f_Affix_size (v0 : T_Affix) : Option O_Affix_size := some v0.2
set_option maxHeartbeats 4000000 in
set_option maxRecDepth 100000 in
theorem w_Affix_size {p : Program} {l : Launch} {e : Env} {s : State} {m : MethodId} {args : Array Value} {below : List Frame} {meth : Method} {c : Code} {A : Nat → Prop} {D : va_G} {cC cI : ClassId} {a0_0 a0_1 : Nat} {v0 : T_Affix} (X : xCX p s m args meth c A D cC cI b_Affix_size 1 R_Affix (some .int)) {out : O_Affix_size}  {ls : Array Slot} {H : Heap} {locs : List Loc} (h : f_Affix_size v0 = some out) (hl : lv_has ls 1 [(0, .ref a0_0)]) (hP : va_P D classes (wd_Affix_size cC cI a0_0 a0_1 v0) H) (hD : va_D A (wd_Affix_size cC cI a0_0 a0_1 v0)) (hS : va_S A s.heap H locs) : W p l e rm_Affix_size s m args below meth c H locs 0 0 (MQ below (q_Affix_size D cC cI a0_0 a0_1 v0 out A) args s 0 0 A) (F0 m 0 ls []) := by
  obtain ⟨hx, hb, hml, hown, htB, ⟨hK, hN⟩, hZ, hA, hr, hlocks⟩ := id X
  refine lv_aload_n hx hb d_Affix_size_0 rfl (lv_at hl 0 rfl) ?_
  refine va_get (D := D) (ci := 1) (v := .int v0.2) (C := R_Affix) (T := F_Affix) (N := 2) hx hb htB in_Affix hown hK hP 0 rfl rfl 1 (by decide) (htB _ b_6) (fun _ h9 => h9) rfl d_Affix_size_1 ?_
  obtain rfl := Option.some.inj h
  exact W.iret (v := v0.2) hx hb hr (fun t ht hW => ⟨⟨v0.2, (), rfl, rfl, by rw [ht]; exact hP, hD⟩, hS.F ht⟩) hS.2.2 d_Affix_size_4 hlocks

set_option maxHeartbeats 4000000 in
set_option maxRecDepth 100000 in
theorem c_Affix_size (l : Launch) (D : va_G) (cC cI : ClassId) (sz : Nat) (a0_0 a0_1 : Nat) (v0 : T_Affix) (out : O_Affix_size) (h : f_Affix_size v0 = some out) : Met l y_Affix_size (.code y_Affix_size b_Affix_size 1 (some .int) :: BIG) rm_Affix_size (va_Pc [.ref a0_0] (xPre D cC cI (wd_Affix_size cC cI a0_0 a0_1 v0) sz)) (q_Affix_size D cC cI a0_0 a0_1 v0 out (va_A (wd_Affix_size cC cI a0_0 a0_1 v0) sz)) 0 0 (va_A (wd_Affix_size cC cI a0_0 a0_1 v0) sz) := by
  refine Met.ofW (cc := b_Affix_size) (maxL := 1) (ret := (some .int)) (by decide) rfl ?_
  intro p e s m args below meth c s₁ B hml hv
  obtain ⟨rfl, rfl, hP, hD0, hG, hZ⟩ := hv
  have hl := lv_entry [.ref a0_0] (n := 1) (Nat.le_of_ble_eq_true rfl)
  rw [lg_entry_eq]
  exact w_Affix_size (x_cx B hml hG hZ) h hl hP hD0.self va_S.rf

abbrev wd_Affix_at (cC cI : ClassId) (a0_0 a0_1 : Nat) (v0 : T_Affix) : va_W := [(a0_0, .inr (1, [.ref a0_1, .int v0.2])), (a0_1, .inl (cI, 120, .inl v0.1))]
abbrev O_Affix_at : Type := Int32
abbrev q_Affix_at (D : va_G) (cC cI : ClassId) (a0_0 a0_1 : Nat) (v0 : T_Affix) (out : O_Affix_at) (A : Nat → Prop) : Array Value → State → Outcome → State → Prop := va_Qi (fun r (_ : Unit) => r = out) (fun _ t => va_P D classes (wd_Affix_at cC cI a0_0 a0_1 v0) t.heap ∧ va_D A (wd_Affix_at cC cI a0_0 a0_1 v0)) A
abbrev rm_Affix_at : Room := { frames := 0, cells := 0, slots := 0, locals := 0 }
def J_Affix_at_21 (p : Program) (l : Launch) (e : Env) (s : State) (m : MethodId) (args : Array Value) (below : List Frame) (meth : Method) (c : Code) (A : Nat → Prop) (D : va_G) (cC cI : ClassId) (a0_0 a0_1 : Nat) (v0 : T_Affix) (out : O_Affix_at) (k : Option O_Affix_at) : Prop := ∀  (ls : Array Slot) (H : Heap) (locs : List Loc), k  = some out → lv_has ls 2 [] → va_P D classes (wd_Affix_at cC cI a0_0 a0_1 v0) H → va_D A (wd_Affix_at cC cI a0_0 a0_1 v0) → va_S A s.heap H locs → W p l e rm_Affix_at s m args below meth c H locs 0 0 (MQ below (q_Affix_at D cC cI a0_0 a0_1 v0 out A) args s 0 0 A) (F0 m 21 ls [])
def J_Affix_at_22 (p : Program) (l : Launch) (e : Env) (s : State) (m : MethodId) (args : Array Value) (below : List Frame) (meth : Method) (c : Code) (A : Nat → Prop) (D : va_G) (cC cI : ClassId) (a0_0 a0_1 : Nat) (v0 : T_Affix) (out : O_Affix_at) (k : Int32 → Option O_Affix_at) : Prop := ∀ (s0 : Int32) (ls : Array Slot) (H : Heap) (locs : List Loc), k s0 = some out → lv_has ls 2 [] → va_P D classes (wd_Affix_at cC cI a0_0 a0_1 v0) H → va_D A (wd_Affix_at cC cI a0_0 a0_1 v0) → va_S A s.heap H locs → W p l e rm_Affix_at s m args below meth c H locs 0 0 (MQ below (q_Affix_at D cC cI a0_0 a0_1 v0 out A) args s 0 0 A) (F0 m 22 ls [.int s0])
def f_Affix_at_22 (v0 : T_Affix) (s0 : Int32) : Option O_Affix_at := some s0
set_option maxHeartbeats 4000000 in
set_option maxRecDepth 100000 in
theorem w_Affix_at_22 {p : Program} {l : Launch} {e : Env} {s : State} {m : MethodId} {args : Array Value} {below : List Frame} {meth : Method} {c : Code} {A : Nat → Prop} {D : va_G} {cC cI : ClassId} {a0_0 a0_1 : Nat} {v0 : T_Affix} (X : xCX p s m args meth c A D cC cI b_Affix_at 2 R_Affix (some .int)) {out : O_Affix_at}   : J_Affix_at_22 p l e s m args below meth c A D cC cI a0_0 a0_1 v0 out (f_Affix_at_22 v0 ) := by
  obtain ⟨hx, hb, hml, hown, htB, ⟨hK, hN⟩, hZ, hA, hr, hlocks⟩ := id X
  intro s0 ls H locs h hl hP hD hS
  obtain rfl := Option.some.inj h
  exact W.iret (v := s0) hx hb hr (fun t ht hW => ⟨⟨s0, (), rfl, rfl, by rw [ht]; exact hP, hD⟩, hS.F ht⟩) hS.2.2 d_Affix_at_22 hlocks

def f_Affix_at_21 (v0 : T_Affix) : Option O_Affix_at := f_Affix_at_22 v0 (-1 : Int32)
set_option maxHeartbeats 4000000 in
set_option maxRecDepth 100000 in
theorem w_Affix_at_21 {p : Program} {l : Launch} {e : Env} {s : State} {m : MethodId} {args : Array Value} {below : List Frame} {meth : Method} {c : Code} {A : Nat → Prop} {D : va_G} {cC cI : ClassId} {a0_0 a0_1 : Nat} {v0 : T_Affix} (X : xCX p s m args meth c A D cC cI b_Affix_at 2 R_Affix (some .int)) {out : O_Affix_at}   : J_Affix_at_21 p l e s m args below meth c A D cC cI a0_0 a0_1 v0 out (f_Affix_at_21 v0 ) := by
  obtain ⟨hx, hb, hml, hown, htB, ⟨hK, hN⟩, hZ, hA, hr, hlocks⟩ := id X
  intro  ls H locs h hl hP hD hS
  refine lv_iconst (v := -1) hx hb d_Affix_at_21 (by decide) ?_
  exact w_Affix_at_22 X (-1 : Int32) ls H locs h (lv_sub hl [] rfl) hP hD hS

def f_Affix_at (v0 : T_Affix) (v1 : Int32) : Option O_Affix_at := (if v1 < 0 then f_Affix_at_21 v0 else (if v0.2 ≤ v1 then f_Affix_at_21 v0 else if ix v1 120 then f_Affix_at_22 v0 (v0.1 v1.toNatClampNeg) else none))
set_option maxHeartbeats 4000000 in
set_option maxRecDepth 100000 in
theorem w_Affix_at {p : Program} {l : Launch} {e : Env} {s : State} {m : MethodId} {args : Array Value} {below : List Frame} {meth : Method} {c : Code} {A : Nat → Prop} {D : va_G} {cC cI : ClassId} {a0_0 a0_1 : Nat} {v0 : T_Affix} (X : xCX p s m args meth c A D cC cI b_Affix_at 2 R_Affix (some .int)) {out : O_Affix_at} (v1 : Int32) {ls : Array Slot} {H : Heap} {locs : List Loc} (h : f_Affix_at v0 v1 = some out) (hl : lv_has ls 2 [(0, .ref a0_0), (1, .int v1)]) (hP : va_P D classes (wd_Affix_at cC cI a0_0 a0_1 v0) H) (hD : va_D A (wd_Affix_at cC cI a0_0 a0_1 v0)) (hS : va_S A s.heap H locs) : W p l e rm_Affix_at s m args below meth c H locs 0 0 (MQ below (q_Affix_at D cC cI a0_0 a0_1 v0 out A) args s 0 0 A) (F0 m 0 ls []) := by
  obtain ⟨hx, hb, hml, hown, htB, ⟨hK, hN⟩, hZ, hA, hr, hlocks⟩ := id X
  refine lv_iload_n hx hb d_Affix_at_0 rfl (lv_at hl 1 rfl) ?_
  refine lv_if_lt (tgt := 21) hx hb d_Affix_at_1 rfl (fun hc => ?_) (fun hc => ?_)
  · have h := (if_pos hc).symm.trans h
    exact w_Affix_at_21 X ls H locs h (lv_sub hl [] rfl) hP hD hS
  have h := (if_neg hc).symm.trans h
  refine lv_iload_n hx hb d_Affix_at_4 rfl (lv_at hl 1 rfl) ?_
  refine lv_aload_n hx hb d_Affix_at_5 rfl (lv_at hl 0 rfl) ?_
  refine va_get (D := D) (ci := 1) (v := .int v0.2) (C := R_Affix) (T := F_Affix) (N := 2) hx hb htB in_Affix hown hK hP 0 rfl rfl 1 (by decide) (htB _ b_6) (fun _ h9 => h9) rfl d_Affix_at_6 ?_
  refine lv_icmp_ge (tgt := 21) hx hb d_Affix_at_9 rfl (fun hc => ?_) (fun hc => ?_)
  · have h := (if_pos hc).symm.trans h
    exact w_Affix_at_21 X ls H locs h (lv_sub hl [] rfl) hP hD hS
  have h := (if_neg hc).symm.trans h
  refine lv_aload_n hx hb d_Affix_at_12 rfl (lv_at hl 0 rfl) ?_
  refine va_get (D := D) (ci := 1) (v := .ref a0_1) (C := R_Affix) (T := F_Affix) (N := 2) hx hb htB in_Affix hown hK hP 0 rfl rfl 0 (by decide) (htB _ b_7) (fun _ h9 => h9) rfl d_Affix_at_13 ?_
  refine lv_iload_n hx hb d_Affix_at_16 rfl (lv_at hl 1 rfl) ?_
  obtain ⟨hc, h⟩ := x_chk h
  refine va_iald hx hb hK hP 1 1 rfl rfl hc d_Affix_at_17 ?_
  refine lv_goto (tgt := 22) hx hb d_Affix_at_18 rfl ?_
  exact w_Affix_at_22 X (v0.1 v1.toNatClampNeg) ls H locs h (lv_sub hl [] rfl) hP hD hS

set_option maxHeartbeats 4000000 in
set_option maxRecDepth 100000 in
theorem c_Affix_at (l : Launch) (D : va_G) (cC cI : ClassId) (sz : Nat) (a0_0 a0_1 : Nat) (v0 : T_Affix) (v1 : Int32) (out : O_Affix_at) (h : f_Affix_at v0 v1 = some out) : Met l y_Affix_at (.code y_Affix_at b_Affix_at 2 (some .int) :: BIG) rm_Affix_at (va_Pc [.ref a0_0, .int v1] (xPre D cC cI (wd_Affix_at cC cI a0_0 a0_1 v0) sz)) (q_Affix_at D cC cI a0_0 a0_1 v0 out (va_A (wd_Affix_at cC cI a0_0 a0_1 v0) sz)) 0 0 (va_A (wd_Affix_at cC cI a0_0 a0_1 v0) sz) := by
  refine Met.ofW (cc := b_Affix_at) (maxL := 2) (ret := (some .int)) (by decide) rfl ?_
  intro p e s m args below meth c s₁ B hml hv
  obtain ⟨rfl, rfl, hP, hD0, hG, hZ⟩ := hv
  have hl := lv_entry [.ref a0_0, .int v1] (n := 2) (Nat.le_of_ble_eq_true rfl)
  rw [lg_entry_eq]
  exact w_Affix_at (x_cx B hml hG hZ) v1 h hl hP hD0.self va_S.rf

abbrev wd_Affix_clear (cC cI : ClassId) (a0_0 a0_1 : Nat) (v0 : T_Affix) : va_W := [(a0_0, .inr (1, [.ref a0_1, .int v0.2])), (a0_1, .inl (cI, 120, .inl v0.1))]
abbrev O_Affix_clear : Type := T_Affix
abbrev q_Affix_clear (D : va_G) (cC cI : ClassId) (a0_0 a0_1 : Nat)  (out : O_Affix_clear) (A : Nat → Prop) : Array Value → State → Outcome → State → Prop := va_Qv (fun _ : Unit => True) (fun _ t => va_P D classes (wd_Affix_clear cC cI a0_0 a0_1 out) t.heap ∧ va_D A (wd_Affix_clear cC cI a0_0 a0_1 out)) A
abbrev rm_Affix_clear : Room := { frames := 0, cells := 0, slots := 0, locals := 0 }
def f_Affix_clear (v0 : T_Affix) : Option O_Affix_clear := some (v0.1, (0 : Int32))
set_option maxHeartbeats 4000000 in
set_option maxRecDepth 100000 in
theorem w_Affix_clear {p : Program} {l : Launch} {e : Env} {s : State} {m : MethodId} {args : Array Value} {below : List Frame} {meth : Method} {c : Code} {A : Nat → Prop} {D : va_G} {cC cI : ClassId} {a0_0 a0_1 : Nat} (X : xCX p s m args meth c A D cC cI b_Affix_clear 1 R_Affix none) {out : O_Affix_clear} (v0 : T_Affix) {ls : Array Slot} {H : Heap} {locs : List Loc} (h : f_Affix_clear v0 = some out) (hl : lv_has ls 1 [(0, .ref a0_0)]) (hP : va_P D classes (wd_Affix_clear cC cI a0_0 a0_1 v0) H) (hD : va_D A (wd_Affix_clear cC cI a0_0 a0_1 v0)) (hS : va_S A s.heap H locs) : W p l e rm_Affix_clear s m args below meth c H locs 0 0 (MQ below (q_Affix_clear D cC cI a0_0 a0_1 out A) args s 0 0 A) (F0 m 0 ls []) := by
  obtain ⟨hx, hb, hml, hown, htB, ⟨hK, hN⟩, hZ, hA, hr, hlocks⟩ := id X
  refine lv_aload_n hx hb d_Affix_clear_0 rfl (lv_at hl 0 rfl) ?_
  refine lv_iconst (v := 0) hx hb d_Affix_clear_1 (by decide) ?_
  refine va_put (D := D) (ci := 1) (v := .int (0 : Int32)) (ty := .int) (C := R_Affix) (T := F_Affix) (N := 2) hx hb htB in_Affix t_Affix t_Affix_ok n_Affix hown hK hP hD hS 0 rfl rfl 1 (by decide) (htB _ b_6) (fun _ h9 => h9) rfl (by decide +kernel) rfl rfl (Nat.le_of_ble_eq_true rfl) d_Affix_clear_2 (fun H locs hP hD hS => ?_)
  have hP : va_P D classes (wd_Affix_clear cC cI a0_0 a0_1 (v0.1, (0 : Int32))) H := hP
  have hD : va_D A (wd_Affix_clear cC cI a0_0 a0_1 (v0.1, (0 : Int32))) := hD
  obtain rfl := Option.some.inj h
  exact W.vret hx hb hr (fun t ht hW => ⟨⟨(), rfl, trivial, by rw [ht]; exact hP, hD⟩, hS.F ht⟩) hS.2.2 d_Affix_clear_5 hlocks

set_option maxHeartbeats 4000000 in
set_option maxRecDepth 100000 in
theorem c_Affix_clear (l : Launch) (D : va_G) (cC cI : ClassId) (sz : Nat) (a0_0 a0_1 : Nat) (v0 : T_Affix) (out : O_Affix_clear) (h : f_Affix_clear v0 = some out) : Met l y_Affix_clear (.code y_Affix_clear b_Affix_clear 1 none :: BIG) rm_Affix_clear (va_Pc [.ref a0_0] (xPre D cC cI (wd_Affix_clear cC cI a0_0 a0_1 v0) sz)) (q_Affix_clear D cC cI a0_0 a0_1 out (va_A (wd_Affix_clear cC cI a0_0 a0_1 v0) sz)) 0 0 (va_A (wd_Affix_clear cC cI a0_0 a0_1 v0) sz) := by
  refine Met.ofW (cc := b_Affix_clear) (maxL := 1) (ret := none) (by decide) rfl ?_
  intro p e s m args below meth c s₁ B hml hv
  obtain ⟨rfl, rfl, hP, hD0, hG, hZ⟩ := hv
  have hl := lv_entry [.ref a0_0] (n := 1) (Nat.le_of_ble_eq_true rfl)
  rw [lg_entry_eq]
  exact w_Affix_clear (x_cx B hml hG hZ) v0 h hl hP hD0.self va_S.rf

abbrev wd_Affix_add (cC cI : ClassId) (a0_0 a0_1 : Nat) (v0 : T_Affix) : va_W := [(a0_0, .inr (1, [.ref a0_1, .int v0.2])), (a0_1, .inl (cI, 120, .inl v0.1))]
abbrev O_Affix_add : Type := T_Affix
abbrev q_Affix_add (D : va_G) (cC cI : ClassId) (a0_0 a0_1 : Nat)  (out : O_Affix_add) (A : Nat → Prop) : Array Value → State → Outcome → State → Prop := va_Qv (fun _ : Unit => True) (fun _ t => va_P D classes (wd_Affix_add cC cI a0_0 a0_1 out) t.heap ∧ va_D A (wd_Affix_add cC cI a0_0 a0_1 out)) A
abbrev rm_Affix_add : Room := { frames := 0, cells := 0, slots := 0, locals := 0 }
def J_Affix_add_32 (p : Program) (l : Launch) (e : Env) (s : State) (m : MethodId) (args : Array Value) (below : List Frame) (meth : Method) (c : Code) (A : Nat → Prop) (D : va_G) (cC cI : ClassId) (a0_0 a0_1 : Nat) (out : O_Affix_add) (k : T_Affix → Option O_Affix_add) : Prop := ∀ (v0 : T_Affix) (ls : Array Slot) (H : Heap) (locs : List Loc), k v0 = some out → lv_has ls 2 [] → va_P D classes (wd_Affix_add cC cI a0_0 a0_1 v0) H → va_D A (wd_Affix_add cC cI a0_0 a0_1 v0) → va_S A s.heap H locs → W p l e rm_Affix_add s m args below meth c H locs 0 0 (MQ below (q_Affix_add D cC cI a0_0 a0_1 out A) args s 0 0 A) (F0 m 32 ls [])
def f_Affix_add_32 (v0 : T_Affix) : Option O_Affix_add := some v0
set_option maxHeartbeats 4000000 in
set_option maxRecDepth 100000 in
theorem w_Affix_add_32 {p : Program} {l : Launch} {e : Env} {s : State} {m : MethodId} {args : Array Value} {below : List Frame} {meth : Method} {c : Code} {A : Nat → Prop} {D : va_G} {cC cI : ClassId} {a0_0 a0_1 : Nat} (X : xCX p s m args meth c A D cC cI b_Affix_add 2 R_Affix none) {out : O_Affix_add}   : J_Affix_add_32 p l e s m args below meth c A D cC cI a0_0 a0_1 out (f_Affix_add_32  ) := by
  obtain ⟨hx, hb, hml, hown, htB, ⟨hK, hN⟩, hZ, hA, hr, hlocks⟩ := id X
  intro v0 ls H locs h hl hP hD hS
  obtain rfl := Option.some.inj h
  exact W.vret hx hb hr (fun t ht hW => ⟨⟨(), rfl, trivial, by rw [ht]; exact hP, hD⟩, hS.F ht⟩) hS.2.2 d_Affix_add_32 hlocks

def f_Affix_add (v0 : T_Affix) (v1 : Int32) : Option O_Affix_add := (if (120 : Int32) ≤ v0.2 then f_Affix_add_32 v0 else if ix v0.2 120 then f_Affix_add_32 ((upd v0.1 v0.2.toNatClampNeg v1), (v0.2 + (1 : Int32))) else none)
set_option maxHeartbeats 4000000 in
set_option maxRecDepth 100000 in
theorem w_Affix_add {p : Program} {l : Launch} {e : Env} {s : State} {m : MethodId} {args : Array Value} {below : List Frame} {meth : Method} {c : Code} {A : Nat → Prop} {D : va_G} {cC cI : ClassId} {a0_0 a0_1 : Nat} (X : xCX p s m args meth c A D cC cI b_Affix_add 2 R_Affix none) {out : O_Affix_add} (v0 : T_Affix) (v1 : Int32) {ls : Array Slot} {H : Heap} {locs : List Loc} (h : f_Affix_add v0 v1 = some out) (hl : lv_has ls 2 [(0, .ref a0_0), (1, .int v1)]) (hP : va_P D classes (wd_Affix_add cC cI a0_0 a0_1 v0) H) (hD : va_D A (wd_Affix_add cC cI a0_0 a0_1 v0)) (hS : va_S A s.heap H locs) : W p l e rm_Affix_add s m args below meth c H locs 0 0 (MQ below (q_Affix_add D cC cI a0_0 a0_1 out A) args s 0 0 A) (F0 m 0 ls []) := by
  obtain ⟨hx, hb, hml, hown, htB, ⟨hK, hN⟩, hZ, hA, hr, hlocks⟩ := id X
  refine lv_aload_n hx hb d_Affix_add_0 rfl (lv_at hl 0 rfl) ?_
  refine va_get (D := D) (ci := 1) (v := .int v0.2) (C := R_Affix) (T := F_Affix) (N := 2) hx hb htB in_Affix hown hK hP 0 rfl rfl 1 (by decide) (htB _ b_6) (fun _ h9 => h9) rfl d_Affix_add_1 ?_
  refine lv_aload_n hx hb d_Affix_add_4 rfl (lv_at hl 0 rfl) ?_
  refine va_get (D := D) (ci := 1) (v := .ref a0_1) (C := R_Affix) (T := F_Affix) (N := 2) hx hb htB in_Affix hown hK hP 0 rfl rfl 0 (by decide) (htB _ b_7) (fun _ h9 => h9) rfl d_Affix_add_5 ?_
  refine va_alen hx hb hK hP 1 1 rfl rfl (v := 120) rfl d_Affix_add_8 ?_
  refine lv_icmp_ge (tgt := 32) hx hb d_Affix_add_9 rfl (fun hc => ?_) (fun hc => ?_)
  · have h := (if_pos hc).symm.trans h
    exact w_Affix_add_32 X v0 ls H locs h (lv_sub hl [] rfl) hP hD hS
  have h := (if_neg hc).symm.trans h
  refine lv_aload_n hx hb d_Affix_add_12 rfl (lv_at hl 0 rfl) ?_
  refine va_get (D := D) (ci := 1) (v := .ref a0_1) (C := R_Affix) (T := F_Affix) (N := 2) hx hb htB in_Affix hown hK hP 0 rfl rfl 0 (by decide) (htB _ b_7) (fun _ h9 => h9) rfl d_Affix_add_13 ?_
  refine lv_aload_n hx hb d_Affix_add_16 rfl (lv_at hl 0 rfl) ?_
  refine va_get (D := D) (ci := 1) (v := .int v0.2) (C := R_Affix) (T := F_Affix) (N := 2) hx hb htB in_Affix hown hK hP 0 rfl rfl 1 (by decide) (htB _ b_6) (fun _ h9 => h9) rfl d_Affix_add_17 ?_
  refine lv_iload_n hx hb d_Affix_add_20 rfl (lv_at hl 1 rfl) ?_
  obtain ⟨hc, h⟩ := x_chk h
  refine va_iast hx hb hK hP hD hS 1 1 rfl rfl hc d_Affix_add_21 (fun H locs hP hD hS => ?_)
  have hP : va_P D classes (wd_Affix_add cC cI a0_0 a0_1 ((upd v0.1 v0.2.toNatClampNeg v1), v0.2)) H := hP
  have hD : va_D A (wd_Affix_add cC cI a0_0 a0_1 ((upd v0.1 v0.2.toNatClampNeg v1), v0.2)) := hD
  refine lv_aload_n hx hb d_Affix_add_22 rfl (lv_at hl 0 rfl) ?_
  refine lv_dup hx hb d_Affix_add_23 rfl ?_
  refine va_get (D := D) (ci := 1) (v := .int v0.2) (C := R_Affix) (T := F_Affix) (N := 2) hx hb htB in_Affix hown hK hP 0 rfl rfl 1 (by decide) (htB _ b_6) (fun _ h9 => h9) rfl d_Affix_add_24 ?_
  refine lv_iconst (v := 1) hx hb d_Affix_add_27 (by decide) ?_
  refine lv_iadd hx hb d_Affix_add_28 ?_
  refine va_put (D := D) (ci := 1) (v := .int (v0.2 + (1 : Int32))) (ty := .int) (C := R_Affix) (T := F_Affix) (N := 2) hx hb htB in_Affix t_Affix t_Affix_ok n_Affix hown hK hP hD hS 0 rfl rfl 1 (by decide) (htB _ b_6) (fun _ h9 => h9) rfl (by decide +kernel) rfl rfl (Nat.le_of_ble_eq_true rfl) d_Affix_add_29 (fun H locs hP hD hS => ?_)
  have hP : va_P D classes (wd_Affix_add cC cI a0_0 a0_1 ((upd v0.1 v0.2.toNatClampNeg v1), (v0.2 + (1 : Int32)))) H := hP
  have hD : va_D A (wd_Affix_add cC cI a0_0 a0_1 ((upd v0.1 v0.2.toNatClampNeg v1), (v0.2 + (1 : Int32)))) := hD
  exact w_Affix_add_32 X ((upd v0.1 v0.2.toNatClampNeg v1), (v0.2 + (1 : Int32))) ls H locs h (lv_sub hl [] rfl) hP hD hS

set_option maxHeartbeats 4000000 in
set_option maxRecDepth 100000 in
theorem c_Affix_add (l : Launch) (D : va_G) (cC cI : ClassId) (sz : Nat) (a0_0 a0_1 : Nat) (v0 : T_Affix) (v1 : Int32) (out : O_Affix_add) (h : f_Affix_add v0 v1 = some out) : Met l y_Affix_add (.code y_Affix_add b_Affix_add 2 none :: BIG) rm_Affix_add (va_Pc [.ref a0_0, .int v1] (xPre D cC cI (wd_Affix_add cC cI a0_0 a0_1 v0) sz)) (q_Affix_add D cC cI a0_0 a0_1 out (va_A (wd_Affix_add cC cI a0_0 a0_1 v0) sz)) 0 0 (va_A (wd_Affix_add cC cI a0_0 a0_1 v0) sz) := by
  refine Met.ofW (cc := b_Affix_add) (maxL := 2) (ret := none) (by decide) rfl ?_
  intro p e s m args below meth c s₁ B hml hv
  obtain ⟨rfl, rfl, hP, hD0, hG, hZ⟩ := hv
  have hl := lv_entry [.ref a0_0, .int v1] (n := 2) (Nat.le_of_ble_eq_true rfl)
  rw [lg_entry_eq]
  exact w_Affix_add (x_cx B hml hG hZ) v0 v1 h hl hP hD0.self va_S.rf

abbrev wd_Affix_addAll (cC cI : ClassId) (a0_0 a0_1 a1_0 a1_1 : Nat) (v0 : T_Affix) (v1 : T_Affix) : va_W := [(a0_0, .inr (1, [.ref a0_1, .int v0.2])), (a0_1, .inl (cI, 120, .inl v0.1)), (a1_0, .inr (1, [.ref a1_1, .int v1.2])), (a1_1, .inl (cI, 120, .inl v1.1))]
abbrev O_Affix_addAll : Type := T_Affix
abbrev q_Affix_addAll (D : va_G) (cC cI : ClassId) (a0_0 a0_1 a1_0 a1_1 : Nat) (v1 : T_Affix) (out : O_Affix_addAll) (A : Nat → Prop) : Array Value → State → Outcome → State → Prop := va_Qv (fun _ : Unit => True) (fun _ t => va_P D classes (wd_Affix_addAll cC cI a0_0 a0_1 a1_0 a1_1 out v1) t.heap ∧ va_D A (wd_Affix_addAll cC cI a0_0 a0_1 a1_0 a1_1 out v1)) A
abbrev rm_Affix_addAll : Room := { frames := 1, cells := 0, slots := 0, locals := 21 }
def J_Affix_addAll_2 (p : Program) (l : Launch) (e : Env) (s : State) (m : MethodId) (args : Array Value) (below : List Frame) (meth : Method) (c : Code) (A : Nat → Prop) (D : va_G) (cC cI : ClassId) (a0_0 a0_1 a1_0 a1_1 : Nat) (v1 : T_Affix) (out : O_Affix_addAll) (k : T_Affix → Int32 → Option O_Affix_addAll) : Prop := ∀ (v0 : T_Affix) (x2 : Int32) (ls : Array Slot) (H : Heap) (locs : List Loc), k v0 x2 = some out → lv_has ls 3 [(0, .ref a0_0), (1, .ref a1_0), (2, .int x2)] → va_P D classes (wd_Affix_addAll cC cI a0_0 a0_1 a1_0 a1_1 v0 v1) H → va_D A (wd_Affix_addAll cC cI a0_0 a0_1 a1_0 a1_1 v0 v1) → va_S A s.heap H locs → W p l e rm_Affix_addAll s m args below meth c H locs 0 0 (MQ below (q_Affix_addAll D cC cI a0_0 a0_1 a1_0 a1_1 v1 out A) args s 0 0 A) (F0 m 2 ls [])
def f_Affix_addAll_2 (v1 : T_Affix)  : Nat → T_Affix → Int32 → Option O_Affix_addAll
  | 0, _, _ => none
  | n + 1, v0, x2 => (if v1.2 ≤ x2 then some v0 else (f_Affix_at v1 x2).bind (fun o13 => (f_Affix_add v0 o13).bind (fun o16 => (f_Affix_addAll_2 v1 n) o16 (x2 + (1 : Int32)))))
set_option maxHeartbeats 4000000 in
set_option maxRecDepth 100000 in
theorem w_Affix_addAll_2 {p : Program} {l : Launch} {e : Env} {s : State} {m : MethodId} {args : Array Value} {below : List Frame} {meth : Method} {c : Code} {A : Nat → Prop} {D : va_G} {cC cI : ClassId} {a0_0 a0_1 a1_0 a1_1 : Nat} {v1 : T_Affix} (X : xCX p s m args meth c A D cC cI b_Affix_addAll 3 R_Affix none) {out : O_Affix_addAll}   : ∀ n : Nat, J_Affix_addAll_2 p l e s m args below meth c A D cC cI a0_0 a0_1 a1_0 a1_1 v1 out (f_Affix_addAll_2 v1  n) := by
  obtain ⟨hx, hb, hml, hown, htB, ⟨hK, hN⟩, hZ, hA, hr, hlocks⟩ := id X
  intro n
  induction n with
  | zero =>
    intro v0 x2 ls H locs h hl hP hD hS
    cases h
  | succ n ih =>
    intro v0 x2 ls H locs h hl hP hD hS
    refine lv_iload_n hx hb d_Affix_addAll_2 rfl (lv_at hl 2 rfl) ?_
    refine lv_aload_n hx hb d_Affix_addAll_3 rfl (lv_at hl 1 rfl) ?_
    refine va_get (D := D) (ci := 1) (v := .int v1.2) (C := R_Affix) (T := F_Affix) (N := 2) hx hb htB in_Affix hown hK hP 2 rfl rfl 1 (by decide) (htB _ b_6) (fun _ h9 => h9) rfl d_Affix_addAll_4 ?_
    refine lv_icmp_ge (tgt := 25) hx hb d_Affix_addAll_7 rfl (fun hc => ?_) (fun hc => ?_)
    · have h := (if_pos hc).symm.trans h
      obtain rfl := Option.some.inj h
      exact W.vret hx hb hr (fun t ht hW => ⟨⟨(), rfl, trivial, by rw [ht]; exact hP, hD⟩, hS.F ht⟩) hS.2.2 d_Affix_addAll_25 hlocks
    have h := (if_neg hc).symm.trans h
    refine lv_aload_n hx hb d_Affix_addAll_10 rfl (lv_at hl 0 rfl) ?_
    refine lv_aload_n hx hb d_Affix_addAll_11 rfl (lv_at hl 1 rfl) ?_
    refine lv_iload_n hx hb d_Affix_addAll_12 rfl (lv_at hl 2 rfl) ?_
    obtain ⟨o13, ho13, h⟩ := x_bnd h
    refine x_calli (r0 := o13) (ws2 := (wd_Affix_addAll cC cI a0_0 a0_1 a1_0 a1_1 v0 v1)) (x_runV (As := [.int x2]) (rest := [.ref a0_0]) X (c_Affix_at l D cC cI H.size a1_0 a1_1 v1 x2 o13 ho13) b_8 1 (htB _ b_12) (htB _ b_10) (htB _ b_11) (htB _ b_9) ⟨by decide, by decide, by decide +kernel⟩ ⟨(Nat.le_of_ble_eq_true rfl), (Nat.le_of_ble_eq_true rfl)⟩ 2 rfl rfl hP hD hS [2, 3] rfl (by decide) rfl rfl hl.1 rfl rfl (Nat.le_of_ble_eq_true rfl) d_Affix_addAll_13) hP hD hS hA [2, 3] [0, 1] [0, 1, 2, 3] rfl rfl (by decide) (by decide) rfl (by decide) (fun H locs hP hD hS => ?_)
    obtain ⟨o16, ho16, h⟩ := x_bnd h
    refine x_callv (ws2 := (wd_Affix_addAll cC cI a0_0 a0_1 a1_0 a1_1 o16 v1)) (x_runV (As := [.int o13]) (rest := []) X (c_Affix_add l D cC cI H.size a0_0 a0_1 v0 o13 o16 ho16) b_13 1 (htB _ b_16) (htB _ b_14) (htB _ b_15) (htB _ b_9) ⟨by decide, by decide, by decide +kernel⟩ ⟨(Nat.le_of_ble_eq_true rfl), (Nat.le_of_ble_eq_true rfl)⟩ 0 rfl rfl hP hD hS [0, 1] rfl (by decide) rfl rfl hl.1 rfl rfl (Nat.le_of_ble_eq_true rfl) d_Affix_addAll_16) hP hD hS hA [0, 1] [2, 3] [2, 3, 0, 1] rfl rfl (by decide) (by decide) rfl (by decide) (fun H locs hP hD hS => ?_)
    refine lv_iinc (k := 2) (v := (x2 + (1 : Int32))) (lv' := [(2, .int (x2 + (1 : Int32))), (0, .ref a0_0), (1, .ref a1_0)]) hx hb d_Affix_addAll_19 hl rfl (congrArg (fun z => x2 + z) (by decide : Int32.ofInt 1 = (1 : Int32))) (by decide) rfl (fun ls hl => ?_)
    refine lv_goto (tgt := 2) hx hb d_Affix_addAll_22 rfl ?_
    exact ih o16 (x2 + (1 : Int32)) ls H locs h (lv_sub hl [1, 2, 0] rfl) hP hD hS

def f_Affix_addAll (v0 : T_Affix) (v1 : T_Affix) : Option O_Affix_addAll := f_Affix_addAll_2 v1 FU v0 (0 : Int32)
set_option maxHeartbeats 4000000 in
set_option maxRecDepth 100000 in
theorem w_Affix_addAll {p : Program} {l : Launch} {e : Env} {s : State} {m : MethodId} {args : Array Value} {below : List Frame} {meth : Method} {c : Code} {A : Nat → Prop} {D : va_G} {cC cI : ClassId} {a0_0 a0_1 a1_0 a1_1 : Nat} {v1 : T_Affix} (X : xCX p s m args meth c A D cC cI b_Affix_addAll 3 R_Affix none) {out : O_Affix_addAll} (v0 : T_Affix) {ls : Array Slot} {H : Heap} {locs : List Loc} (h : f_Affix_addAll v0 v1 = some out) (hl : lv_has ls 3 [(0, .ref a0_0), (1, .ref a1_0)]) (hP : va_P D classes (wd_Affix_addAll cC cI a0_0 a0_1 a1_0 a1_1 v0 v1) H) (hD : va_D A (wd_Affix_addAll cC cI a0_0 a0_1 a1_0 a1_1 v0 v1)) (hS : va_S A s.heap H locs) : W p l e rm_Affix_addAll s m args below meth c H locs 0 0 (MQ below (q_Affix_addAll D cC cI a0_0 a0_1 a1_0 a1_1 v1 out A) args s 0 0 A) (F0 m 0 ls []) := by
  obtain ⟨hx, hb, hml, hown, htB, ⟨hK, hN⟩, hZ, hA, hr, hlocks⟩ := id X
  refine lv_iconst (v := 0) hx hb d_Affix_addAll_0 (by decide) ?_
  refine lv_istore_n (lv' := [(2, .int (0 : Int32)), (0, .ref a0_0), (1, .ref a1_0)]) hx hb d_Affix_addAll_1 rfl hl (by decide) rfl (fun ls hl => ?_)
  exact w_Affix_addAll_2 X FU v0 (0 : Int32) ls H locs h (lv_sub hl [1, 2, 0] rfl) hP hD hS

set_option maxHeartbeats 4000000 in
set_option maxRecDepth 100000 in
theorem c_Affix_addAll (l : Launch) (D : va_G) (cC cI : ClassId) (sz : Nat) (a0_0 a0_1 a1_0 a1_1 : Nat) (v0 : T_Affix) (v1 : T_Affix) (out : O_Affix_addAll) (h : f_Affix_addAll v0 v1 = some out) : Met l y_Affix_addAll (.code y_Affix_addAll b_Affix_addAll 3 none :: BIG) rm_Affix_addAll (va_Pc [.ref a0_0, .ref a1_0] (xPre D cC cI (wd_Affix_addAll cC cI a0_0 a0_1 a1_0 a1_1 v0 v1) sz)) (q_Affix_addAll D cC cI a0_0 a0_1 a1_0 a1_1 v1 out (va_A (wd_Affix_addAll cC cI a0_0 a0_1 a1_0 a1_1 v0 v1) sz)) 0 0 (va_A (wd_Affix_addAll cC cI a0_0 a0_1 a1_0 a1_1 v0 v1) sz) := by
  refine Met.ofW (cc := b_Affix_addAll) (maxL := 3) (ret := none) (by decide) rfl ?_
  intro p e s m args below meth c s₁ B hml hv
  obtain ⟨rfl, rfl, hP, hD0, hG, hZ⟩ := hv
  have hl := lv_entry [.ref a0_0, .ref a1_0] (n := 3) (Nat.le_of_ble_eq_true rfl)
  rw [lg_entry_eq]
  exact w_Affix_addAll (x_cx B hml hG hZ) v0 h hl hP hD0.self va_S.rf

abbrev wd_Affix_hasPercent (cC cI : ClassId) (a0_0 a0_1 : Nat) (v0 : T_Affix) : va_W := [(a0_0, .inr (1, [.ref a0_1, .int v0.2])), (a0_1, .inl (cI, 120, .inl v0.1))]
abbrev O_Affix_hasPercent : Type := Int32
abbrev q_Affix_hasPercent (D : va_G) (cC cI : ClassId) (a0_0 a0_1 : Nat) (v0 : T_Affix) (out : O_Affix_hasPercent) (A : Nat → Prop) : Array Value → State → Outcome → State → Prop := va_Qi (fun r (_ : Unit) => r = out) (fun _ t => va_P D classes (wd_Affix_hasPercent cC cI a0_0 a0_1 v0) t.heap ∧ va_D A (wd_Affix_hasPercent cC cI a0_0 a0_1 v0)) A
abbrev rm_Affix_hasPercent : Room := { frames := 0, cells := 0, slots := 0, locals := 0 }
def J_Affix_hasPercent_2 (p : Program) (l : Launch) (e : Env) (s : State) (m : MethodId) (args : Array Value) (below : List Frame) (meth : Method) (c : Code) (A : Nat → Prop) (D : va_G) (cC cI : ClassId) (a0_0 a0_1 : Nat) (v0 : T_Affix) (out : O_Affix_hasPercent) (k : Int32 → Option O_Affix_hasPercent) : Prop := ∀ (x1 : Int32) (ls : Array Slot) (H : Heap) (locs : List Loc), k x1 = some out → lv_has ls 2 [(0, .ref a0_0), (1, .int x1)] → va_P D classes (wd_Affix_hasPercent cC cI a0_0 a0_1 v0) H → va_D A (wd_Affix_hasPercent cC cI a0_0 a0_1 v0) → va_S A s.heap H locs → W p l e rm_Affix_hasPercent s m args below meth c H locs 0 0 (MQ below (q_Affix_hasPercent D cC cI a0_0 a0_1 v0 out A) args s 0 0 A) (F0 m 2 ls [])
def f_Affix_hasPercent_2 (v0 : T_Affix)  : Nat → Int32 → Option O_Affix_hasPercent
  | 0, _ => none
  | n + 1, x1 => (if v0.2 ≤ x1 then some (0 : Int32) else if ix x1 120 then (if (v0.1 x1.toNatClampNeg) = (256 : Int32) then some (1 : Int32) else (f_Affix_hasPercent_2 v0 n) (x1 + (1 : Int32))) else none)
set_option maxHeartbeats 4000000 in
set_option maxRecDepth 100000 in
theorem w_Affix_hasPercent_2 {p : Program} {l : Launch} {e : Env} {s : State} {m : MethodId} {args : Array Value} {below : List Frame} {meth : Method} {c : Code} {A : Nat → Prop} {D : va_G} {cC cI : ClassId} {a0_0 a0_1 : Nat} {v0 : T_Affix} (X : xCX p s m args meth c A D cC cI b_Affix_hasPercent 2 R_Affix (some .boolean)) {out : O_Affix_hasPercent}   : ∀ n : Nat, J_Affix_hasPercent_2 p l e s m args below meth c A D cC cI a0_0 a0_1 v0 out (f_Affix_hasPercent_2 v0  n) := by
  obtain ⟨hx, hb, hml, hown, htB, ⟨hK, hN⟩, hZ, hA, hr, hlocks⟩ := id X
  intro n
  induction n with
  | zero =>
    intro x1 ls H locs h hl hP hD hS
    cases h
  | succ n ih =>
    intro x1 ls H locs h hl hP hD hS
    refine lv_iload_n hx hb d_Affix_hasPercent_2 rfl (lv_at hl 1 rfl) ?_
    refine lv_aload_n hx hb d_Affix_hasPercent_3 rfl (lv_at hl 0 rfl) ?_
    refine va_get (D := D) (ci := 1) (v := .int v0.2) (C := R_Affix) (T := F_Affix) (N := 2) hx hb htB in_Affix hown hK hP 0 rfl rfl 1 (by decide) (htB _ b_6) (fun _ h9 => h9) rfl d_Affix_hasPercent_4 ?_
    refine lv_icmp_ge (tgt := 30) hx hb d_Affix_hasPercent_7 rfl (fun hc => ?_) (fun hc => ?_)
    · have h := (if_pos hc).symm.trans h
      refine lv_iconst (v := 0) hx hb d_Affix_hasPercent_30 (by decide) ?_
      obtain rfl := Option.some.inj h
      exact W.zret (v := (0 : Int32)) (ty := .boolean) hx hb hr rfl (fun t ht hW => ⟨⟨(0 : Int32), (), rfl, rfl, by rw [ht]; exact hP, hD⟩, hS.F ht⟩) hS.2.2 d_Affix_hasPercent_31 hlocks
    have h := (if_neg hc).symm.trans h
    refine lv_aload_n hx hb d_Affix_hasPercent_10 rfl (lv_at hl 0 rfl) ?_
    refine va_get (D := D) (ci := 1) (v := .ref a0_1) (C := R_Affix) (T := F_Affix) (N := 2) hx hb htB in_Affix hown hK hP 0 rfl rfl 0 (by decide) (htB _ b_7) (fun _ h9 => h9) rfl d_Affix_hasPercent_11 ?_
    refine lv_iload_n hx hb d_Affix_hasPercent_14 rfl (lv_at hl 1 rfl) ?_
    obtain ⟨hc, h⟩ := x_chk h
    refine va_iald hx hb hK hP 1 1 rfl rfl hc d_Affix_hasPercent_15 ?_
    refine lv_sipush (v := 256) hx hb d_Affix_hasPercent_16 (by decide) ?_
    refine lv_icmp_ne (tgt := 24) hx hb d_Affix_hasPercent_19 rfl (fun hc => ?_) (fun hc => ?_)
    · have h := (if_neg hc).symm.trans h
      refine lv_iinc (k := 1) (v := (x1 + (1 : Int32))) (lv' := [(1, .int (x1 + (1 : Int32))), (0, .ref a0_0)]) hx hb d_Affix_hasPercent_24 hl rfl (congrArg (fun z => x1 + z) (by decide : Int32.ofInt 1 = (1 : Int32))) (by decide) rfl (fun ls hl => ?_)
      refine lv_goto (tgt := 2) hx hb d_Affix_hasPercent_27 rfl ?_
      exact ih (x1 + (1 : Int32)) ls H locs h (lv_sub hl [1, 0] rfl) hP hD hS
    have h := (if_pos hc).symm.trans h
    refine lv_iconst (v := 1) hx hb d_Affix_hasPercent_22 (by decide) ?_
    obtain rfl := Option.some.inj h
    exact W.zret (v := (1 : Int32)) (ty := .boolean) hx hb hr rfl (fun t ht hW => ⟨⟨(1 : Int32), (), rfl, rfl, by rw [ht]; exact hP, hD⟩, hS.F ht⟩) hS.2.2 d_Affix_hasPercent_23 hlocks

def f_Affix_hasPercent (v0 : T_Affix) : Option O_Affix_hasPercent := f_Affix_hasPercent_2 v0 FU (0 : Int32)
set_option maxHeartbeats 4000000 in
set_option maxRecDepth 100000 in
theorem w_Affix_hasPercent {p : Program} {l : Launch} {e : Env} {s : State} {m : MethodId} {args : Array Value} {below : List Frame} {meth : Method} {c : Code} {A : Nat → Prop} {D : va_G} {cC cI : ClassId} {a0_0 a0_1 : Nat} {v0 : T_Affix} (X : xCX p s m args meth c A D cC cI b_Affix_hasPercent 2 R_Affix (some .boolean)) {out : O_Affix_hasPercent}  {ls : Array Slot} {H : Heap} {locs : List Loc} (h : f_Affix_hasPercent v0 = some out) (hl : lv_has ls 2 [(0, .ref a0_0)]) (hP : va_P D classes (wd_Affix_hasPercent cC cI a0_0 a0_1 v0) H) (hD : va_D A (wd_Affix_hasPercent cC cI a0_0 a0_1 v0)) (hS : va_S A s.heap H locs) : W p l e rm_Affix_hasPercent s m args below meth c H locs 0 0 (MQ below (q_Affix_hasPercent D cC cI a0_0 a0_1 v0 out A) args s 0 0 A) (F0 m 0 ls []) := by
  obtain ⟨hx, hb, hml, hown, htB, ⟨hK, hN⟩, hZ, hA, hr, hlocks⟩ := id X
  refine lv_iconst (v := 0) hx hb d_Affix_hasPercent_0 (by decide) ?_
  refine lv_istore_n (lv' := [(1, .int (0 : Int32)), (0, .ref a0_0)]) hx hb d_Affix_hasPercent_1 rfl hl (by decide) rfl (fun ls hl => ?_)
  exact w_Affix_hasPercent_2 X FU (0 : Int32) ls H locs h (lv_sub hl [1, 0] rfl) hP hD hS

set_option maxHeartbeats 4000000 in
set_option maxRecDepth 100000 in
theorem c_Affix_hasPercent (l : Launch) (D : va_G) (cC cI : ClassId) (sz : Nat) (a0_0 a0_1 : Nat) (v0 : T_Affix) (out : O_Affix_hasPercent) (h : f_Affix_hasPercent v0 = some out) : Met l y_Affix_hasPercent (.code y_Affix_hasPercent b_Affix_hasPercent 2 (some .boolean) :: BIG) rm_Affix_hasPercent (va_Pc [.ref a0_0] (xPre D cC cI (wd_Affix_hasPercent cC cI a0_0 a0_1 v0) sz)) (q_Affix_hasPercent D cC cI a0_0 a0_1 v0 out (va_A (wd_Affix_hasPercent cC cI a0_0 a0_1 v0) sz)) 0 0 (va_A (wd_Affix_hasPercent cC cI a0_0 a0_1 v0) sz) := by
  refine Met.ofW (cc := b_Affix_hasPercent) (maxL := 2) (ret := (some .boolean)) (by decide) rfl ?_
  intro p e s m args below meth c s₁ B hml hv
  obtain ⟨rfl, rfl, hP, hD0, hG, hZ⟩ := hv
  have hl := lv_entry [.ref a0_0] (n := 2) (Nat.le_of_ble_eq_true rfl)
  rw [lg_entry_eq]
  exact w_Affix_hasPercent (x_cx B hml hG hZ) h hl hP hD0.self va_S.rf

abbrev wd_Affix_endsAs (cC cI : ClassId) (a0_0 a0_1 a1_0 a1_1 : Nat) (v0 : T_Affix) (v1 : T_Affix) : va_W := [(a0_0, .inr (1, [.ref a0_1, .int v0.2])), (a0_1, .inl (cI, 120, .inl v0.1)), (a1_0, .inr (1, [.ref a1_1, .int v1.2])), (a1_1, .inl (cI, 120, .inl v1.1))]
abbrev O_Affix_endsAs : Type := Int32
abbrev q_Affix_endsAs (D : va_G) (cC cI : ClassId) (a0_0 a0_1 a1_0 a1_1 : Nat) (v0 : T_Affix) (v1 : T_Affix) (out : O_Affix_endsAs) (A : Nat → Prop) : Array Value → State → Outcome → State → Prop := va_Qi (fun r (_ : Unit) => r = out) (fun _ t => va_P D classes (wd_Affix_endsAs cC cI a0_0 a0_1 a1_0 a1_1 v0 v1) t.heap ∧ va_D A (wd_Affix_endsAs cC cI a0_0 a0_1 a1_0 a1_1 v0 v1)) A
abbrev rm_Affix_endsAs : Room := { frames := 1, cells := 0, slots := 0, locals := 21 }
def J_Affix_endsAs_17 (p : Program) (l : Launch) (e : Env) (s : State) (m : MethodId) (args : Array Value) (below : List Frame) (meth : Method) (c : Code) (A : Nat → Prop) (D : va_G) (cC cI : ClassId) (a0_0 a0_1 a1_0 a1_1 : Nat) (v0 : T_Affix) (v1 : T_Affix) (out : O_Affix_endsAs) (k : Int32 → Int32 → Option O_Affix_endsAs) : Prop := ∀ (x2 : Int32) (x3 : Int32) (ls : Array Slot) (H : Heap) (locs : List Loc), k x2 x3 = some out → lv_has ls 4 [(0, .ref a0_0), (1, .ref a1_0), (2, .int x2), (3, .int x3)] → va_P D classes (wd_Affix_endsAs cC cI a0_0 a0_1 a1_0 a1_1 v0 v1) H → va_D A (wd_Affix_endsAs cC cI a0_0 a0_1 a1_0 a1_1 v0 v1) → va_S A s.heap H locs → W p l e rm_Affix_endsAs s m args below meth c H locs 0 0 (MQ below (q_Affix_endsAs D cC cI a0_0 a0_1 a1_0 a1_1 v0 v1 out A) args s 0 0 A) (F0 m 17 ls [])
def f_Affix_endsAs_17 (v0 : T_Affix) (v1 : T_Affix)  : Nat → Int32 → Int32 → Option O_Affix_endsAs
  | 0, _, _ => none
  | n + 1, x2, x3 => (if v1.2 ≤ x3 then some (1 : Int32) else (f_Affix_at v0 (x2 + x3)).bind (fun o29 => (f_Affix_at v1 x3).bind (fun o34 => (if o29 = o34 then (f_Affix_endsAs_17 v0 v1 n) x2 (x3 + (1 : Int32)) else some (0 : Int32)))))
set_option maxHeartbeats 4000000 in
set_option maxRecDepth 100000 in
theorem w_Affix_endsAs_17 {p : Program} {l : Launch} {e : Env} {s : State} {m : MethodId} {args : Array Value} {below : List Frame} {meth : Method} {c : Code} {A : Nat → Prop} {D : va_G} {cC cI : ClassId} {a0_0 a0_1 a1_0 a1_1 : Nat} {v0 : T_Affix} {v1 : T_Affix} (X : xCX p s m args meth c A D cC cI b_Affix_endsAs 4 R_Affix (some .boolean)) {out : O_Affix_endsAs}   : ∀ n : Nat, J_Affix_endsAs_17 p l e s m args below meth c A D cC cI a0_0 a0_1 a1_0 a1_1 v0 v1 out (f_Affix_endsAs_17 v0 v1  n) := by
  obtain ⟨hx, hb, hml, hown, htB, ⟨hK, hN⟩, hZ, hA, hr, hlocks⟩ := id X
  intro n
  induction n with
  | zero =>
    intro x2 x3 ls H locs h hl hP hD hS
    cases h
  | succ n ih =>
    intro x2 x3 ls H locs h hl hP hD hS
    refine lv_iload_n hx hb d_Affix_endsAs_17 rfl (lv_at hl 3 rfl) ?_
    refine lv_aload_n hx hb d_Affix_endsAs_18 rfl (lv_at hl 1 rfl) ?_
    refine va_get (D := D) (ci := 1) (v := .int v1.2) (C := R_Affix) (T := F_Affix) (N := 2) hx hb htB in_Affix hown hK hP 2 rfl rfl 1 (by decide) (htB _ b_6) (fun _ h9 => h9) rfl d_Affix_endsAs_19 ?_
    refine lv_icmp_ge (tgt := 48) hx hb d_Affix_endsAs_22 rfl (fun hc => ?_) (fun hc => ?_)
    · have h := (if_pos hc).symm.trans h
      refine lv_iconst (v := 1) hx hb d_Affix_endsAs_48 (by decide) ?_
      obtain rfl := Option.some.inj h
      exact W.zret (v := (1 : Int32)) (ty := .boolean) hx hb hr rfl (fun t ht hW => ⟨⟨(1 : Int32), (), rfl, rfl, by rw [ht]; exact hP, hD⟩, hS.F ht⟩) hS.2.2 d_Affix_endsAs_49 hlocks
    have h := (if_neg hc).symm.trans h
    refine lv_aload_n hx hb d_Affix_endsAs_25 rfl (lv_at hl 0 rfl) ?_
    refine lv_iload_n hx hb d_Affix_endsAs_26 rfl (lv_at hl 2 rfl) ?_
    refine lv_iload_n hx hb d_Affix_endsAs_27 rfl (lv_at hl 3 rfl) ?_
    refine lv_iadd hx hb d_Affix_endsAs_28 ?_
    obtain ⟨o29, ho29, h⟩ := x_bnd h
    refine x_calli (r0 := o29) (ws2 := (wd_Affix_endsAs cC cI a0_0 a0_1 a1_0 a1_1 v0 v1)) (x_runV (As := [.int (x2 + x3)]) (rest := []) X (c_Affix_at l D cC cI H.size a0_0 a0_1 v0 (x2 + x3) o29 ho29) b_8 1 (htB _ b_12) (htB _ b_10) (htB _ b_11) (htB _ b_9) ⟨by decide, by decide, by decide +kernel⟩ ⟨(Nat.le_of_ble_eq_true rfl), (Nat.le_of_ble_eq_true rfl)⟩ 0 rfl rfl hP hD hS [0, 1] rfl (by decide) rfl rfl hl.1 rfl rfl (Nat.le_of_ble_eq_true rfl) d_Affix_endsAs_29) hP hD hS hA [0, 1] [2, 3] [2, 3, 0, 1] rfl rfl (by decide) (by decide) rfl (by decide) (fun H locs hP hD hS => ?_)
    refine lv_aload_n hx hb d_Affix_endsAs_32 rfl (lv_at hl 1 rfl) ?_
    refine lv_iload_n hx hb d_Affix_endsAs_33 rfl (lv_at hl 3 rfl) ?_
    obtain ⟨o34, ho34, h⟩ := x_bnd h
    refine x_calli (r0 := o34) (ws2 := (wd_Affix_endsAs cC cI a0_0 a0_1 a1_0 a1_1 v0 v1)) (x_runV (As := [.int x3]) (rest := [.int o29]) X (c_Affix_at l D cC cI H.size a1_0 a1_1 v1 x3 o34 ho34) b_8 1 (htB _ b_12) (htB _ b_10) (htB _ b_11) (htB _ b_9) ⟨by decide, by decide, by decide +kernel⟩ ⟨(Nat.le_of_ble_eq_true rfl), (Nat.le_of_ble_eq_true rfl)⟩ 2 rfl rfl hP hD hS [2, 3] rfl (by decide) rfl rfl hl.1 rfl rfl (Nat.le_of_ble_eq_true rfl) d_Affix_endsAs_34) hP hD hS hA [2, 3] [0, 1] [0, 1, 2, 3] rfl rfl (by decide) (by decide) rfl (by decide) (fun H locs hP hD hS => ?_)
    refine lv_icmp_eq (tgt := 42) hx hb d_Affix_endsAs_37 rfl (fun hc => ?_) (fun hc => ?_)
    · have h := (if_pos hc).symm.trans h
      refine lv_iinc (k := 3) (v := (x3 + (1 : Int32))) (lv' := [(3, .int (x3 + (1 : Int32))), (0, .ref a0_0), (1, .ref a1_0), (2, .int x2)]) hx hb d_Affix_endsAs_42 hl rfl (congrArg (fun z => x3 + z) (by decide : Int32.ofInt 1 = (1 : Int32))) (by decide) rfl (fun ls hl => ?_)
      refine lv_goto (tgt := 17) hx hb d_Affix_endsAs_45 rfl ?_
      exact ih x2 (x3 + (1 : Int32)) ls H locs h (lv_sub hl [1, 2, 3, 0] rfl) hP hD hS
    have h := (if_neg hc).symm.trans h
    refine lv_iconst (v := 0) hx hb d_Affix_endsAs_40 (by decide) ?_
    obtain rfl := Option.some.inj h
    exact W.zret (v := (0 : Int32)) (ty := .boolean) hx hb hr rfl (fun t ht hW => ⟨⟨(0 : Int32), (), rfl, rfl, by rw [ht]; exact hP, hD⟩, hS.F ht⟩) hS.2.2 d_Affix_endsAs_41 hlocks

def f_Affix_endsAs (v0 : T_Affix) (v1 : T_Affix) (v2 : Int32) : Option O_Affix_endsAs := (if (v0.2 - v2) = v1.2 then f_Affix_endsAs_17 v0 v1 FU v2 (0 : Int32) else some (0 : Int32))
set_option maxHeartbeats 4000000 in
set_option maxRecDepth 100000 in
theorem w_Affix_endsAs {p : Program} {l : Launch} {e : Env} {s : State} {m : MethodId} {args : Array Value} {below : List Frame} {meth : Method} {c : Code} {A : Nat → Prop} {D : va_G} {cC cI : ClassId} {a0_0 a0_1 a1_0 a1_1 : Nat} {v0 : T_Affix} {v1 : T_Affix} (X : xCX p s m args meth c A D cC cI b_Affix_endsAs 4 R_Affix (some .boolean)) {out : O_Affix_endsAs} (v2 : Int32) {ls : Array Slot} {H : Heap} {locs : List Loc} (h : f_Affix_endsAs v0 v1 v2 = some out) (hl : lv_has ls 4 [(0, .ref a0_0), (1, .ref a1_0), (2, .int v2)]) (hP : va_P D classes (wd_Affix_endsAs cC cI a0_0 a0_1 a1_0 a1_1 v0 v1) H) (hD : va_D A (wd_Affix_endsAs cC cI a0_0 a0_1 a1_0 a1_1 v0 v1)) (hS : va_S A s.heap H locs) : W p l e rm_Affix_endsAs s m args below meth c H locs 0 0 (MQ below (q_Affix_endsAs D cC cI a0_0 a0_1 a1_0 a1_1 v0 v1 out A) args s 0 0 A) (F0 m 0 ls []) := by
  obtain ⟨hx, hb, hml, hown, htB, ⟨hK, hN⟩, hZ, hA, hr, hlocks⟩ := id X
  refine lv_aload_n hx hb d_Affix_endsAs_0 rfl (lv_at hl 0 rfl) ?_
  refine va_get (D := D) (ci := 1) (v := .int v0.2) (C := R_Affix) (T := F_Affix) (N := 2) hx hb htB in_Affix hown hK hP 0 rfl rfl 1 (by decide) (htB _ b_6) (fun _ h9 => h9) rfl d_Affix_endsAs_1 ?_
  refine lv_iload_n hx hb d_Affix_endsAs_4 rfl (lv_at hl 2 rfl) ?_
  refine lv_isub hx hb d_Affix_endsAs_5 ?_
  refine lv_aload_n hx hb d_Affix_endsAs_6 rfl (lv_at hl 1 rfl) ?_
  refine va_get (D := D) (ci := 1) (v := .int v1.2) (C := R_Affix) (T := F_Affix) (N := 2) hx hb htB in_Affix hown hK hP 2 rfl rfl 1 (by decide) (htB _ b_6) (fun _ h9 => h9) rfl d_Affix_endsAs_7 ?_
  refine lv_icmp_eq (tgt := 15) hx hb d_Affix_endsAs_10 rfl (fun hc => ?_) (fun hc => ?_)
  · have h := (if_pos hc).symm.trans h
    refine lv_iconst (v := 0) hx hb d_Affix_endsAs_15 (by decide) ?_
    refine lv_istore_n (lv' := [(3, .int (0 : Int32)), (0, .ref a0_0), (1, .ref a1_0), (2, .int v2)]) hx hb d_Affix_endsAs_16 rfl hl (by decide) rfl (fun ls hl => ?_)
    exact w_Affix_endsAs_17 X FU v2 (0 : Int32) ls H locs h (lv_sub hl [1, 2, 3, 0] rfl) hP hD hS
  have h := (if_neg hc).symm.trans h
  refine lv_iconst (v := 0) hx hb d_Affix_endsAs_13 (by decide) ?_
  obtain rfl := Option.some.inj h
  exact W.zret (v := (0 : Int32)) (ty := .boolean) hx hb hr rfl (fun t ht hW => ⟨⟨(0 : Int32), (), rfl, rfl, by rw [ht]; exact hP, hD⟩, hS.F ht⟩) hS.2.2 d_Affix_endsAs_14 hlocks

set_option maxHeartbeats 4000000 in
set_option maxRecDepth 100000 in
theorem c_Affix_endsAs (l : Launch) (D : va_G) (cC cI : ClassId) (sz : Nat) (a0_0 a0_1 a1_0 a1_1 : Nat) (v0 : T_Affix) (v1 : T_Affix) (v2 : Int32) (out : O_Affix_endsAs) (h : f_Affix_endsAs v0 v1 v2 = some out) : Met l y_Affix_endsAs (.code y_Affix_endsAs b_Affix_endsAs 4 (some .boolean) :: BIG) rm_Affix_endsAs (va_Pc [.ref a0_0, .ref a1_0, .int v2] (xPre D cC cI (wd_Affix_endsAs cC cI a0_0 a0_1 a1_0 a1_1 v0 v1) sz)) (q_Affix_endsAs D cC cI a0_0 a0_1 a1_0 a1_1 v0 v1 out (va_A (wd_Affix_endsAs cC cI a0_0 a0_1 a1_0 a1_1 v0 v1) sz)) 0 0 (va_A (wd_Affix_endsAs cC cI a0_0 a0_1 a1_0 a1_1 v0 v1) sz) := by
  refine Met.ofW (cc := b_Affix_endsAs) (maxL := 4) (ret := (some .boolean)) (by decide) rfl ?_
  intro p e s m args below meth c s₁ B hml hv
  obtain ⟨rfl, rfl, hP, hD0, hG, hZ⟩ := hv
  have hl := lv_entry [.ref a0_0, .ref a1_0, .int v2] (n := 4) (Nat.le_of_ble_eq_true rfl)
  rw [lg_entry_eq]
  exact w_Affix_endsAs (x_cx B hml hG hZ) v2 h hl hP hD0.self va_S.rf

abbrev wd_Affix_shownAt (cC cI : ClassId) (a0_0 a0_1 : Nat) (v0 : T_Affix) : va_W := [(a0_0, .inr (1, [.ref a0_1, .int v0.2])), (a0_1, .inl (cI, 120, .inl v0.1))]
abbrev O_Affix_shownAt : Type := Int32
abbrev q_Affix_shownAt (D : va_G) (cC cI : ClassId) (a0_0 a0_1 : Nat) (v0 : T_Affix) (out : O_Affix_shownAt) (A : Nat → Prop) : Array Value → State → Outcome → State → Prop := va_Qi (fun r (_ : Unit) => r = out) (fun _ t => va_P D classes (wd_Affix_shownAt cC cI a0_0 a0_1 v0) t.heap ∧ va_D A (wd_Affix_shownAt cC cI a0_0 a0_1 v0)) A
abbrev rm_Affix_shownAt : Room := { frames := 1, cells := 0, slots := 0, locals := 21 }
def J_Affix_shownAt_19 (p : Program) (l : Launch) (e : Env) (s : State) (m : MethodId) (args : Array Value) (below : List Frame) (meth : Method) (c : Code) (A : Nat → Prop) (D : va_G) (cC cI : ClassId) (a0_0 a0_1 : Nat) (v0 : T_Affix) (out : O_Affix_shownAt) (k : Int32 → Option O_Affix_shownAt) : Prop := ∀ (s0 : Int32) (ls : Array Slot) (H : Heap) (locs : List Loc), k s0 = some out → lv_has ls 3 [] → va_P D classes (wd_Affix_shownAt cC cI a0_0 a0_1 v0) H → va_D A (wd_Affix_shownAt cC cI a0_0 a0_1 v0) → va_S A s.heap H locs → W p l e rm_Affix_shownAt s m args below meth c H locs 0 0 (MQ below (q_Affix_shownAt D cC cI a0_0 a0_1 v0 out A) args s 0 0 A) (F0 m 19 ls [.int s0])
def f_Affix_shownAt_19 (v0 : T_Affix) (s0 : Int32) : Option O_Affix_shownAt := some s0
set_option maxHeartbeats 4000000 in
set_option maxRecDepth 100000 in
theorem w_Affix_shownAt_19 {p : Program} {l : Launch} {e : Env} {s : State} {m : MethodId} {args : Array Value} {below : List Frame} {meth : Method} {c : Code} {A : Nat → Prop} {D : va_G} {cC cI : ClassId} {a0_0 a0_1 : Nat} {v0 : T_Affix} (X : xCX p s m args meth c A D cC cI b_Affix_shownAt 3 R_Affix (some .int)) {out : O_Affix_shownAt}   : J_Affix_shownAt_19 p l e s m args below meth c A D cC cI a0_0 a0_1 v0 out (f_Affix_shownAt_19 v0 ) := by
  obtain ⟨hx, hb, hml, hown, htB, ⟨hK, hN⟩, hZ, hA, hr, hlocks⟩ := id X
  intro s0 ls H locs h hl hP hD hS
  obtain rfl := Option.some.inj h
  exact W.iret (v := s0) hx hb hr (fun t ht hW => ⟨⟨s0, (), rfl, rfl, by rw [ht]; exact hP, hD⟩, hS.F ht⟩) hS.2.2 d_Affix_shownAt_19 hlocks

def f_Affix_shownAt (v0 : T_Affix) (v1 : Int32) : Option O_Affix_shownAt := (f_Affix_at v0 v1).bind (fun o2 => (if o2 = (256 : Int32) then f_Affix_shownAt_19 v0 (37 : Int32) else f_Affix_shownAt_19 v0 o2))
set_option maxHeartbeats 4000000 in
set_option maxRecDepth 100000 in
theorem w_Affix_shownAt {p : Program} {l : Launch} {e : Env} {s : State} {m : MethodId} {args : Array Value} {below : List Frame} {meth : Method} {c : Code} {A : Nat → Prop} {D : va_G} {cC cI : ClassId} {a0_0 a0_1 : Nat} {v0 : T_Affix} (X : xCX p s m args meth c A D cC cI b_Affix_shownAt 3 R_Affix (some .int)) {out : O_Affix_shownAt} (v1 : Int32) {ls : Array Slot} {H : Heap} {locs : List Loc} (h : f_Affix_shownAt v0 v1 = some out) (hl : lv_has ls 3 [(0, .ref a0_0), (1, .int v1)]) (hP : va_P D classes (wd_Affix_shownAt cC cI a0_0 a0_1 v0) H) (hD : va_D A (wd_Affix_shownAt cC cI a0_0 a0_1 v0)) (hS : va_S A s.heap H locs) : W p l e rm_Affix_shownAt s m args below meth c H locs 0 0 (MQ below (q_Affix_shownAt D cC cI a0_0 a0_1 v0 out A) args s 0 0 A) (F0 m 0 ls []) := by
  obtain ⟨hx, hb, hml, hown, htB, ⟨hK, hN⟩, hZ, hA, hr, hlocks⟩ := id X
  refine lv_aload_n hx hb d_Affix_shownAt_0 rfl (lv_at hl 0 rfl) ?_
  refine lv_iload_n hx hb d_Affix_shownAt_1 rfl (lv_at hl 1 rfl) ?_
  obtain ⟨o2, ho2, h⟩ := x_bnd h
  refine x_calli (r0 := o2) (ws2 := (wd_Affix_shownAt cC cI a0_0 a0_1 v0)) (x_runV (As := [.int v1]) (rest := []) X (c_Affix_at l D cC cI H.size a0_0 a0_1 v0 v1 o2 ho2) b_8 1 (htB _ b_12) (htB _ b_10) (htB _ b_11) (htB _ b_9) ⟨by decide, by decide, by decide +kernel⟩ ⟨(Nat.le_of_ble_eq_true rfl), (Nat.le_of_ble_eq_true rfl)⟩ 0 rfl rfl hP hD hS [0, 1] rfl (by decide) rfl rfl hl.1 rfl rfl (Nat.le_of_ble_eq_true rfl) d_Affix_shownAt_2) hP hD hS hA [0, 1] [] [0, 1] rfl rfl (by decide) (by decide) rfl (by decide) (fun H locs hP hD hS => ?_)
  refine lv_istore_n (lv' := [(2, .int o2), (0, .ref a0_0), (1, .int v1)]) hx hb d_Affix_shownAt_5 rfl hl (by decide) rfl (fun ls hl => ?_)
  refine lv_iload_n hx hb d_Affix_shownAt_6 rfl (lv_at hl 0 rfl) ?_
  refine lv_sipush (v := 256) hx hb d_Affix_shownAt_7 (by decide) ?_
  refine lv_icmp_ne (tgt := 18) hx hb d_Affix_shownAt_10 rfl (fun hc => ?_) (fun hc => ?_)
  · have h := (if_neg hc).symm.trans h
    refine lv_iload_n hx hb d_Affix_shownAt_18 rfl (lv_at hl 0 rfl) ?_
    exact w_Affix_shownAt_19 X o2 ls H locs h (lv_sub hl [] rfl) hP hD hS
  have h := (if_pos hc).symm.trans h
  refine lv_bipush (v := 37) hx hb d_Affix_shownAt_13 (by decide) ?_
  refine lv_goto (tgt := 19) hx hb d_Affix_shownAt_15 rfl ?_
  exact w_Affix_shownAt_19 X (37 : Int32) ls H locs h (lv_sub hl [] rfl) hP hD hS

set_option maxHeartbeats 4000000 in
set_option maxRecDepth 100000 in
theorem c_Affix_shownAt (l : Launch) (D : va_G) (cC cI : ClassId) (sz : Nat) (a0_0 a0_1 : Nat) (v0 : T_Affix) (v1 : Int32) (out : O_Affix_shownAt) (h : f_Affix_shownAt v0 v1 = some out) : Met l y_Affix_shownAt (.code y_Affix_shownAt b_Affix_shownAt 3 (some .int) :: BIG) rm_Affix_shownAt (va_Pc [.ref a0_0, .int v1] (xPre D cC cI (wd_Affix_shownAt cC cI a0_0 a0_1 v0) sz)) (q_Affix_shownAt D cC cI a0_0 a0_1 v0 out (va_A (wd_Affix_shownAt cC cI a0_0 a0_1 v0) sz)) 0 0 (va_A (wd_Affix_shownAt cC cI a0_0 a0_1 v0) sz) := by
  refine Met.ofW (cc := b_Affix_shownAt) (maxL := 3) (ret := (some .int)) (by decide) rfl ?_
  intro p e s m args below meth c s₁ B hml hv
  obtain ⟨rfl, rfl, hP, hD0, hG, hZ⟩ := hv
  have hl := lv_entry [.ref a0_0, .int v1] (n := 3) (Nat.le_of_ble_eq_true rfl)
  rw [lg_entry_eq]
  exact w_Affix_shownAt (x_cx B hml hG hZ) v1 h hl hP hD0.self va_S.rf

abbrev wd_Affix_show (cC cI : ClassId) (a0_0 a0_1 a1_0 a1_1 : Nat) (v0 : T_Affix) (v1 : T_Row) : va_W := [(a0_0, .inr (1, [.ref a0_1, .int v0.2])), (a0_1, .inl (cI, 120, .inl v0.1)), (a1_0, .inr (0, [.ref a1_1, .int v1.2])), (a1_1, .inl (cC, 120, .inl v1.1))]
abbrev O_Affix_show : Type := T_Row
abbrev q_Affix_show (D : va_G) (cC cI : ClassId) (a0_0 a0_1 a1_0 a1_1 : Nat) (v0 : T_Affix) (out : O_Affix_show) (A : Nat → Prop) : Array Value → State → Outcome → State → Prop := va_Qv (fun _ : Unit => True) (fun _ t => va_P D classes (wd_Affix_show cC cI a0_0 a0_1 a1_0 a1_1 v0 out) t.heap ∧ va_D A (wd_Affix_show cC cI a0_0 a0_1 a1_0 a1_1 v0 out)) A
abbrev rm_Affix_show : Room := { frames := 2, cells := 0, slots := 0, locals := 43 }
def J_Affix_show_2 (p : Program) (l : Launch) (e : Env) (s : State) (m : MethodId) (args : Array Value) (below : List Frame) (meth : Method) (c : Code) (A : Nat → Prop) (D : va_G) (cC cI : ClassId) (a0_0 a0_1 a1_0 a1_1 : Nat) (v0 : T_Affix) (out : O_Affix_show) (k : T_Row → Int32 → Option O_Affix_show) : Prop := ∀ (v1 : T_Row) (x2 : Int32) (ls : Array Slot) (H : Heap) (locs : List Loc), k v1 x2 = some out → lv_has ls 3 [(0, .ref a0_0), (1, .ref a1_0), (2, .int x2)] → va_P D classes (wd_Affix_show cC cI a0_0 a0_1 a1_0 a1_1 v0 v1) H → va_D A (wd_Affix_show cC cI a0_0 a0_1 a1_0 a1_1 v0 v1) → va_S A s.heap H locs → W p l e rm_Affix_show s m args below meth c H locs 0 0 (MQ below (q_Affix_show D cC cI a0_0 a0_1 a1_0 a1_1 v0 out A) args s 0 0 A) (F0 m 2 ls [])
def f_Affix_show_2 (v0 : T_Affix)  : Nat → T_Row → Int32 → Option O_Affix_show
  | 0, _, _ => none
  | n + 1, v1, x2 => (if v0.2 ≤ x2 then some v1 else (f_Affix_shownAt v0 x2).bind (fun o13 => (f_Row_add v1 (i2c o13)).bind (fun o17 => (f_Affix_show_2 v0 n) o17.2 (x2 + (1 : Int32)))))
set_option maxHeartbeats 4000000 in
set_option maxRecDepth 100000 in
theorem w_Affix_show_2 {p : Program} {l : Launch} {e : Env} {s : State} {m : MethodId} {args : Array Value} {below : List Frame} {meth : Method} {c : Code} {A : Nat → Prop} {D : va_G} {cC cI : ClassId} {a0_0 a0_1 a1_0 a1_1 : Nat} {v0 : T_Affix} (X : xCX p s m args meth c A D cC cI b_Affix_show 3 R_Affix none) {out : O_Affix_show}   : ∀ n : Nat, J_Affix_show_2 p l e s m args below meth c A D cC cI a0_0 a0_1 a1_0 a1_1 v0 out (f_Affix_show_2 v0  n) := by
  obtain ⟨hx, hb, hml, hown, htB, ⟨hK, hN⟩, hZ, hA, hr, hlocks⟩ := id X
  intro n
  induction n with
  | zero =>
    intro v1 x2 ls H locs h hl hP hD hS
    cases h
  | succ n ih =>
    intro v1 x2 ls H locs h hl hP hD hS
    refine lv_iload_n hx hb d_Affix_show_2 rfl (lv_at hl 2 rfl) ?_
    refine lv_aload_n hx hb d_Affix_show_3 rfl (lv_at hl 0 rfl) ?_
    refine va_get (D := D) (ci := 1) (v := .int v0.2) (C := R_Affix) (T := F_Affix) (N := 2) hx hb htB in_Affix hown hK hP 0 rfl rfl 1 (by decide) (htB _ b_6) (fun _ h9 => h9) rfl d_Affix_show_4 ?_
    refine lv_icmp_ge (tgt := 27) hx hb d_Affix_show_7 rfl (fun hc => ?_) (fun hc => ?_)
    · have h := (if_pos hc).symm.trans h
      obtain rfl := Option.some.inj h
      exact W.vret hx hb hr (fun t ht hW => ⟨⟨(), rfl, trivial, by rw [ht]; exact hP, hD⟩, hS.F ht⟩) hS.2.2 d_Affix_show_27 hlocks
    have h := (if_neg hc).symm.trans h
    refine lv_aload_n hx hb d_Affix_show_10 rfl (lv_at hl 1 rfl) ?_
    refine lv_aload_n hx hb d_Affix_show_11 rfl (lv_at hl 0 rfl) ?_
    refine lv_iload_n hx hb d_Affix_show_12 rfl (lv_at hl 2 rfl) ?_
    obtain ⟨o13, ho13, h⟩ := x_bnd h
    refine x_calli (r0 := o13) (ws2 := (wd_Affix_show cC cI a0_0 a0_1 a1_0 a1_1 v0 v1)) (x_runV (As := [.int x2]) (rest := [.ref a1_0]) X (c_Affix_shownAt l D cC cI H.size a0_0 a0_1 v0 x2 o13 ho13) b_17 1 (htB _ b_20) (htB _ b_18) (htB _ b_19) (htB _ b_9) ⟨by decide, by decide, by decide +kernel⟩ ⟨(Nat.le_of_ble_eq_true rfl), (Nat.le_of_ble_eq_true rfl)⟩ 0 rfl rfl hP hD hS [0, 1] rfl (by decide) rfl rfl hl.1 rfl rfl (Nat.le_of_ble_eq_true rfl) d_Affix_show_13) hP hD hS hA [0, 1] [2, 3] [2, 3, 0, 1] rfl rfl (by decide) (by decide) rfl (by decide) (fun H locs hP hD hS => ?_)
    refine lv_i2c (v := i2c o13) hx hb d_Affix_show_16 rfl ?_
    obtain ⟨o17, ho17, h⟩ := x_bnd h
    refine x_calli (r0 := o17.1) (ws2 := (wd_Affix_show cC cI a0_0 a0_1 a1_0 a1_1 v0 o17.2)) (x_runVN (As := [.int (i2c o13)]) (rest := []) X (c_Row_add l D cC cI H.size a1_0 a1_1 v1 (i2c o13) o17 ho17) b_21 1 (hN _ n_0) (htB _ b_23) (htB _ b_24) (htB _ b_22) ⟨by decide, by decide, by decide +kernel⟩ ⟨(Nat.le_of_ble_eq_true rfl), (Nat.le_of_ble_eq_true rfl)⟩ 2 rfl rfl hP hD hS [2, 3] rfl (by decide) rfl rfl hl.1 rfl rfl (Nat.le_of_ble_eq_true rfl) d_Affix_show_17) hP hD hS hA [2, 3] [0, 1] [0, 1, 2, 3] rfl rfl (by decide) (by decide) rfl (by decide) (fun H locs hP hD hS => ?_)
    refine lv_pop hx hb d_Affix_show_20 rfl ?_
    refine lv_iinc (k := 2) (v := (x2 + (1 : Int32))) (lv' := [(2, .int (x2 + (1 : Int32))), (0, .ref a0_0), (1, .ref a1_0)]) hx hb d_Affix_show_21 hl rfl (congrArg (fun z => x2 + z) (by decide : Int32.ofInt 1 = (1 : Int32))) (by decide) rfl (fun ls hl => ?_)
    refine lv_goto (tgt := 2) hx hb d_Affix_show_24 rfl ?_
    exact ih o17.2 (x2 + (1 : Int32)) ls H locs h (lv_sub hl [1, 2, 0] rfl) hP hD hS

def f_Affix_show (v0 : T_Affix) (v1 : T_Row) : Option O_Affix_show := f_Affix_show_2 v0 FU v1 (0 : Int32)
set_option maxHeartbeats 4000000 in
set_option maxRecDepth 100000 in
theorem w_Affix_show {p : Program} {l : Launch} {e : Env} {s : State} {m : MethodId} {args : Array Value} {below : List Frame} {meth : Method} {c : Code} {A : Nat → Prop} {D : va_G} {cC cI : ClassId} {a0_0 a0_1 a1_0 a1_1 : Nat} {v0 : T_Affix} (X : xCX p s m args meth c A D cC cI b_Affix_show 3 R_Affix none) {out : O_Affix_show} (v1 : T_Row) {ls : Array Slot} {H : Heap} {locs : List Loc} (h : f_Affix_show v0 v1 = some out) (hl : lv_has ls 3 [(0, .ref a0_0), (1, .ref a1_0)]) (hP : va_P D classes (wd_Affix_show cC cI a0_0 a0_1 a1_0 a1_1 v0 v1) H) (hD : va_D A (wd_Affix_show cC cI a0_0 a0_1 a1_0 a1_1 v0 v1)) (hS : va_S A s.heap H locs) : W p l e rm_Affix_show s m args below meth c H locs 0 0 (MQ below (q_Affix_show D cC cI a0_0 a0_1 a1_0 a1_1 v0 out A) args s 0 0 A) (F0 m 0 ls []) := by
  obtain ⟨hx, hb, hml, hown, htB, ⟨hK, hN⟩, hZ, hA, hr, hlocks⟩ := id X
  refine lv_iconst (v := 0) hx hb d_Affix_show_0 (by decide) ?_
  refine lv_istore_n (lv' := [(2, .int (0 : Int32)), (0, .ref a0_0), (1, .ref a1_0)]) hx hb d_Affix_show_1 rfl hl (by decide) rfl (fun ls hl => ?_)
  exact w_Affix_show_2 X FU v1 (0 : Int32) ls H locs h (lv_sub hl [1, 2, 0] rfl) hP hD hS

set_option maxHeartbeats 4000000 in
set_option maxRecDepth 100000 in
theorem c_Affix_show (l : Launch) (D : va_G) (cC cI : ClassId) (sz : Nat) (a0_0 a0_1 a1_0 a1_1 : Nat) (v0 : T_Affix) (v1 : T_Row) (out : O_Affix_show) (h : f_Affix_show v0 v1 = some out) : Met l y_Affix_show (.code y_Affix_show b_Affix_show 3 none :: BIG) rm_Affix_show (va_Pc [.ref a0_0, .ref a1_0] (xPre D cC cI (wd_Affix_show cC cI a0_0 a0_1 a1_0 a1_1 v0 v1) sz)) (q_Affix_show D cC cI a0_0 a0_1 a1_0 a1_1 v0 out (va_A (wd_Affix_show cC cI a0_0 a0_1 a1_0 a1_1 v0 v1) sz)) 0 0 (va_A (wd_Affix_show cC cI a0_0 a0_1 a1_0 a1_1 v0 v1) sz) := by
  refine Met.ofW (cc := b_Affix_show) (maxL := 3) (ret := none) (by decide) rfl ?_
  intro p e s m args below meth c s₁ B hml hv
  obtain ⟨rfl, rfl, hP, hD0, hG, hZ⟩ := hv
  have hl := lv_entry [.ref a0_0, .ref a1_0] (n := 3) (Nat.le_of_ble_eq_true rfl)
  rw [lg_entry_eq]
  exact w_Affix_show (x_cx B hml hG hZ) v1 h hl hP hD0.self va_S.rf

abbrev wd_Affix_standsIn (cC cI : ClassId) (a0_0 a0_1 a1_0 a1_1 : Nat) (v0 : T_Affix) (v1 : T_Row) : va_W := [(a0_0, .inr (1, [.ref a0_1, .int v0.2])), (a0_1, .inl (cI, 120, .inl v0.1)), (a1_0, .inr (0, [.ref a1_1, .int v1.2])), (a1_1, .inl (cC, 120, .inl v1.1))]
abbrev O_Affix_standsIn : Type := Int32
abbrev q_Affix_standsIn (D : va_G) (cC cI : ClassId) (a0_0 a0_1 a1_0 a1_1 : Nat) (v0 : T_Affix) (v1 : T_Row) (out : O_Affix_standsIn) (A : Nat → Prop) : Array Value → State → Outcome → State → Prop := va_Qi (fun r (_ : Unit) => r = out) (fun _ t => va_P D classes (wd_Affix_standsIn cC cI a0_0 a0_1 a1_0 a1_1 v0 v1) t.heap ∧ va_D A (wd_Affix_standsIn cC cI a0_0 a0_1 a1_0 a1_1 v0 v1)) A
abbrev rm_Affix_standsIn : Room := { frames := 2, cells := 0, slots := 0, locals := 43 }
def J_Affix_standsIn_2 (p : Program) (l : Launch) (e : Env) (s : State) (m : MethodId) (args : Array Value) (below : List Frame) (meth : Method) (c : Code) (A : Nat → Prop) (D : va_G) (cC cI : ClassId) (a0_0 a0_1 a1_0 a1_1 : Nat) (v0 : T_Affix) (v1 : T_Row) (out : O_Affix_standsIn) (k : Int32 → Int32 → Option O_Affix_standsIn) : Prop := ∀ (x2 : Int32) (x3 : Int32) (ls : Array Slot) (H : Heap) (locs : List Loc), k x2 x3 = some out → lv_has ls 4 [(0, .ref a0_0), (1, .ref a1_0), (2, .int x2), (3, .int x3)] → va_P D classes (wd_Affix_standsIn cC cI a0_0 a0_1 a1_0 a1_1 v0 v1) H → va_D A (wd_Affix_standsIn cC cI a0_0 a0_1 a1_0 a1_1 v0 v1) → va_S A s.heap H locs → W p l e rm_Affix_standsIn s m args below meth c H locs 0 0 (MQ below (q_Affix_standsIn D cC cI a0_0 a0_1 a1_0 a1_1 v0 v1 out A) args s 0 0 A) (F0 m 2 ls [])
def f_Affix_standsIn_2 (v0 : T_Affix) (v1 : T_Row)  : Nat → Int32 → Int32 → Option O_Affix_standsIn
  | 0, _, _ => none
  | n + 1, x2, x3 => (if v0.2 ≤ x3 then some (1 : Int32) else (f_Row_at v1 (x2 + x3)).bind (fun o14 => (f_Affix_shownAt v0 x3).bind (fun o19 => (if o14 = o19 then (f_Affix_standsIn_2 v0 v1 n) x2 (x3 + (1 : Int32)) else some (0 : Int32)))))
set_option maxHeartbeats 4000000 in
set_option maxRecDepth 100000 in
theorem w_Affix_standsIn_2 {p : Program} {l : Launch} {e : Env} {s : State} {m : MethodId} {args : Array Value} {below : List Frame} {meth : Method} {c : Code} {A : Nat → Prop} {D : va_G} {cC cI : ClassId} {a0_0 a0_1 a1_0 a1_1 : Nat} {v0 : T_Affix} {v1 : T_Row} (X : xCX p s m args meth c A D cC cI b_Affix_standsIn 4 R_Affix (some .boolean)) {out : O_Affix_standsIn}   : ∀ n : Nat, J_Affix_standsIn_2 p l e s m args below meth c A D cC cI a0_0 a0_1 a1_0 a1_1 v0 v1 out (f_Affix_standsIn_2 v0 v1  n) := by
  obtain ⟨hx, hb, hml, hown, htB, ⟨hK, hN⟩, hZ, hA, hr, hlocks⟩ := id X
  intro n
  induction n with
  | zero =>
    intro x2 x3 ls H locs h hl hP hD hS
    cases h
  | succ n ih =>
    intro x2 x3 ls H locs h hl hP hD hS
    refine lv_iload_n hx hb d_Affix_standsIn_2 rfl (lv_at hl 3 rfl) ?_
    refine lv_aload_n hx hb d_Affix_standsIn_3 rfl (lv_at hl 0 rfl) ?_
    refine va_get (D := D) (ci := 1) (v := .int v0.2) (C := R_Affix) (T := F_Affix) (N := 2) hx hb htB in_Affix hown hK hP 0 rfl rfl 1 (by decide) (htB _ b_6) (fun _ h9 => h9) rfl d_Affix_standsIn_4 ?_
    refine lv_icmp_ge (tgt := 33) hx hb d_Affix_standsIn_7 rfl (fun hc => ?_) (fun hc => ?_)
    · have h := (if_pos hc).symm.trans h
      refine lv_iconst (v := 1) hx hb d_Affix_standsIn_33 (by decide) ?_
      obtain rfl := Option.some.inj h
      exact W.zret (v := (1 : Int32)) (ty := .boolean) hx hb hr rfl (fun t ht hW => ⟨⟨(1 : Int32), (), rfl, rfl, by rw [ht]; exact hP, hD⟩, hS.F ht⟩) hS.2.2 d_Affix_standsIn_34 hlocks
    have h := (if_neg hc).symm.trans h
    refine lv_aload_n hx hb d_Affix_standsIn_10 rfl (lv_at hl 1 rfl) ?_
    refine lv_iload_n hx hb d_Affix_standsIn_11 rfl (lv_at hl 2 rfl) ?_
    refine lv_iload_n hx hb d_Affix_standsIn_12 rfl (lv_at hl 3 rfl) ?_
    refine lv_iadd hx hb d_Affix_standsIn_13 ?_
    obtain ⟨o14, ho14, h⟩ := x_bnd h
    refine x_calli (r0 := o14) (ws2 := (wd_Affix_standsIn cC cI a0_0 a0_1 a1_0 a1_1 v0 v1)) (x_runVN (As := [.int (x2 + x3)]) (rest := []) X (c_Row_at l D cC cI H.size a1_0 a1_1 v1 (x2 + x3) o14 ho14) b_25 1 (hN _ n_1) (htB _ b_26) (htB _ b_27) (htB _ b_22) ⟨by decide, by decide, by decide +kernel⟩ ⟨(Nat.le_of_ble_eq_true rfl), (Nat.le_of_ble_eq_true rfl)⟩ 2 rfl rfl hP hD hS [2, 3] rfl (by decide) rfl rfl hl.1 rfl rfl (Nat.le_of_ble_eq_true rfl) d_Affix_standsIn_14) hP hD hS hA [2, 3] [0, 1] [0, 1, 2, 3] rfl rfl (by decide) (by decide) rfl (by decide) (fun H locs hP hD hS => ?_)
    refine lv_aload_n hx hb d_Affix_standsIn_17 rfl (lv_at hl 0 rfl) ?_
    refine lv_iload_n hx hb d_Affix_standsIn_18 rfl (lv_at hl 3 rfl) ?_
    obtain ⟨o19, ho19, h⟩ := x_bnd h
    refine x_calli (r0 := o19) (ws2 := (wd_Affix_standsIn cC cI a0_0 a0_1 a1_0 a1_1 v0 v1)) (x_runV (As := [.int x3]) (rest := [.int o14]) X (c_Affix_shownAt l D cC cI H.size a0_0 a0_1 v0 x3 o19 ho19) b_17 1 (htB _ b_20) (htB _ b_18) (htB _ b_19) (htB _ b_9) ⟨by decide, by decide, by decide +kernel⟩ ⟨(Nat.le_of_ble_eq_true rfl), (Nat.le_of_ble_eq_true rfl)⟩ 0 rfl rfl hP hD hS [0, 1] rfl (by decide) rfl rfl hl.1 rfl rfl (Nat.le_of_ble_eq_true rfl) d_Affix_standsIn_19) hP hD hS hA [0, 1] [2, 3] [2, 3, 0, 1] rfl rfl (by decide) (by decide) rfl (by decide) (fun H locs hP hD hS => ?_)
    refine lv_icmp_eq (tgt := 27) hx hb d_Affix_standsIn_22 rfl (fun hc => ?_) (fun hc => ?_)
    · have h := (if_pos hc).symm.trans h
      refine lv_iinc (k := 3) (v := (x3 + (1 : Int32))) (lv' := [(3, .int (x3 + (1 : Int32))), (0, .ref a0_0), (1, .ref a1_0), (2, .int x2)]) hx hb d_Affix_standsIn_27 hl rfl (congrArg (fun z => x3 + z) (by decide : Int32.ofInt 1 = (1 : Int32))) (by decide) rfl (fun ls hl => ?_)
      refine lv_goto (tgt := 2) hx hb d_Affix_standsIn_30 rfl ?_
      exact ih x2 (x3 + (1 : Int32)) ls H locs h (lv_sub hl [1, 2, 3, 0] rfl) hP hD hS
    have h := (if_neg hc).symm.trans h
    refine lv_iconst (v := 0) hx hb d_Affix_standsIn_25 (by decide) ?_
    obtain rfl := Option.some.inj h
    exact W.zret (v := (0 : Int32)) (ty := .boolean) hx hb hr rfl (fun t ht hW => ⟨⟨(0 : Int32), (), rfl, rfl, by rw [ht]; exact hP, hD⟩, hS.F ht⟩) hS.2.2 d_Affix_standsIn_26 hlocks

def f_Affix_standsIn (v0 : T_Affix) (v1 : T_Row) (v2 : Int32) : Option O_Affix_standsIn := f_Affix_standsIn_2 v0 v1 FU v2 (0 : Int32)
set_option maxHeartbeats 4000000 in
set_option maxRecDepth 100000 in
theorem w_Affix_standsIn {p : Program} {l : Launch} {e : Env} {s : State} {m : MethodId} {args : Array Value} {below : List Frame} {meth : Method} {c : Code} {A : Nat → Prop} {D : va_G} {cC cI : ClassId} {a0_0 a0_1 a1_0 a1_1 : Nat} {v0 : T_Affix} {v1 : T_Row} (X : xCX p s m args meth c A D cC cI b_Affix_standsIn 4 R_Affix (some .boolean)) {out : O_Affix_standsIn} (v2 : Int32) {ls : Array Slot} {H : Heap} {locs : List Loc} (h : f_Affix_standsIn v0 v1 v2 = some out) (hl : lv_has ls 4 [(0, .ref a0_0), (1, .ref a1_0), (2, .int v2)]) (hP : va_P D classes (wd_Affix_standsIn cC cI a0_0 a0_1 a1_0 a1_1 v0 v1) H) (hD : va_D A (wd_Affix_standsIn cC cI a0_0 a0_1 a1_0 a1_1 v0 v1)) (hS : va_S A s.heap H locs) : W p l e rm_Affix_standsIn s m args below meth c H locs 0 0 (MQ below (q_Affix_standsIn D cC cI a0_0 a0_1 a1_0 a1_1 v0 v1 out A) args s 0 0 A) (F0 m 0 ls []) := by
  obtain ⟨hx, hb, hml, hown, htB, ⟨hK, hN⟩, hZ, hA, hr, hlocks⟩ := id X
  refine lv_iconst (v := 0) hx hb d_Affix_standsIn_0 (by decide) ?_
  refine lv_istore_n (lv' := [(3, .int (0 : Int32)), (0, .ref a0_0), (1, .ref a1_0), (2, .int v2)]) hx hb d_Affix_standsIn_1 rfl hl (by decide) rfl (fun ls hl => ?_)
  exact w_Affix_standsIn_2 X FU v2 (0 : Int32) ls H locs h (lv_sub hl [1, 2, 3, 0] rfl) hP hD hS

set_option maxHeartbeats 4000000 in
set_option maxRecDepth 100000 in
theorem c_Affix_standsIn (l : Launch) (D : va_G) (cC cI : ClassId) (sz : Nat) (a0_0 a0_1 a1_0 a1_1 : Nat) (v0 : T_Affix) (v1 : T_Row) (v2 : Int32) (out : O_Affix_standsIn) (h : f_Affix_standsIn v0 v1 v2 = some out) : Met l y_Affix_standsIn (.code y_Affix_standsIn b_Affix_standsIn 4 (some .boolean) :: BIG) rm_Affix_standsIn (va_Pc [.ref a0_0, .ref a1_0, .int v2] (xPre D cC cI (wd_Affix_standsIn cC cI a0_0 a0_1 a1_0 a1_1 v0 v1) sz)) (q_Affix_standsIn D cC cI a0_0 a0_1 a1_0 a1_1 v0 v1 out (va_A (wd_Affix_standsIn cC cI a0_0 a0_1 a1_0 a1_1 v0 v1) sz)) 0 0 (va_A (wd_Affix_standsIn cC cI a0_0 a0_1 a1_0 a1_1 v0 v1) sz) := by
  refine Met.ofW (cc := b_Affix_standsIn) (maxL := 4) (ret := (some .boolean)) (by decide) rfl ?_
  intro p e s m args below meth c s₁ B hml hv
  obtain ⟨rfl, rfl, hP, hD0, hG, hZ⟩ := hv
  have hl := lv_entry [.ref a0_0, .ref a1_0, .int v2] (n := 4) (Nat.le_of_ble_eq_true rfl)
  rw [lg_entry_eq]
  exact w_Affix_standsIn (x_cx B hml hG hZ) v2 h hl hP hD0.self va_S.rf

abbrev wd_Shape_clear (cC cI : ClassId) (a0_0 : Nat) (v0 : T_Shape) : va_W := [(a0_0, .inr (2, [.int v0.1, .int v0.2.1, .int v0.2.2.1, .int v0.2.2.2.1, .int v0.2.2.2.2.1, .int v0.2.2.2.2.2.1, .int v0.2.2.2.2.2.2]))]
abbrev O_Shape_clear : Type := T_Shape
abbrev q_Shape_clear (D : va_G) (cC cI : ClassId) (a0_0 : Nat)  (out : O_Shape_clear) (A : Nat → Prop) : Array Value → State → Outcome → State → Prop := va_Qv (fun _ : Unit => True) (fun _ t => va_P D classes (wd_Shape_clear cC cI a0_0 out) t.heap ∧ va_D A (wd_Shape_clear cC cI a0_0 out)) A
abbrev rm_Shape_clear : Room := { frames := 0, cells := 0, slots := 0, locals := 0 }
def f_Shape_clear (v0 : T_Shape) : Option O_Shape_clear := some ((0 : Int32), (0 : Int32), (0 : Int32), (0 : Int32), (0 : Int32), (0 : Int32), (0 : Int32))
set_option maxHeartbeats 4000000 in
set_option maxRecDepth 100000 in
theorem w_Shape_clear {p : Program} {l : Launch} {e : Env} {s : State} {m : MethodId} {args : Array Value} {below : List Frame} {meth : Method} {c : Code} {A : Nat → Prop} {D : va_G} {cC cI : ClassId} {a0_0 : Nat} (X : xCX p s m args meth c A D cC cI b_Shape_clear 1 R_Shape none) {out : O_Shape_clear} (v0 : T_Shape) {ls : Array Slot} {H : Heap} {locs : List Loc} (h : f_Shape_clear v0 = some out) (hl : lv_has ls 1 [(0, .ref a0_0)]) (hP : va_P D classes (wd_Shape_clear cC cI a0_0 v0) H) (hD : va_D A (wd_Shape_clear cC cI a0_0 v0)) (hS : va_S A s.heap H locs) : W p l e rm_Shape_clear s m args below meth c H locs 0 0 (MQ below (q_Shape_clear D cC cI a0_0 out A) args s 0 0 A) (F0 m 0 ls []) := by
  obtain ⟨hx, hb, hml, hown, htB, ⟨hK, hN⟩, hZ, hA, hr, hlocks⟩ := id X
  refine lv_aload_n hx hb d_Shape_clear_0 rfl (lv_at hl 0 rfl) ?_
  refine lv_iconst (v := 0) hx hb d_Shape_clear_1 (by decide) ?_
  refine va_put (D := D) (ci := 2) (v := .int (0 : Int32)) (ty := .int) (C := R_Shape) (T := F_Shape) (N := 7) hx hb htB in_Shape t_Shape t_Shape_ok n_Shape hown hK hP hD hS 0 rfl rfl 0 (by decide) (htB _ b_28) (fun _ h9 => h9) rfl (by decide +kernel) rfl rfl (Nat.le_of_ble_eq_true rfl) d_Shape_clear_2 (fun H locs hP hD hS => ?_)
  have hP : va_P D classes (wd_Shape_clear cC cI a0_0 ((0 : Int32), v0.2.1, v0.2.2.1, v0.2.2.2.1, v0.2.2.2.2.1, v0.2.2.2.2.2.1, v0.2.2.2.2.2.2)) H := hP
  have hD : va_D A (wd_Shape_clear cC cI a0_0 ((0 : Int32), v0.2.1, v0.2.2.1, v0.2.2.2.1, v0.2.2.2.2.1, v0.2.2.2.2.2.1, v0.2.2.2.2.2.2)) := hD
  refine lv_aload_n hx hb d_Shape_clear_5 rfl (lv_at hl 0 rfl) ?_
  refine lv_iconst (v := 0) hx hb d_Shape_clear_6 (by decide) ?_
  refine va_put (D := D) (ci := 2) (v := .int (0 : Int32)) (ty := .int) (C := R_Shape) (T := F_Shape) (N := 7) hx hb htB in_Shape t_Shape t_Shape_ok n_Shape hown hK hP hD hS 0 rfl rfl 1 (by decide) (htB _ b_29) (fun _ h9 => h9) rfl (by decide +kernel) rfl rfl (Nat.le_of_ble_eq_true rfl) d_Shape_clear_7 (fun H locs hP hD hS => ?_)
  have hP : va_P D classes (wd_Shape_clear cC cI a0_0 ((0 : Int32), (0 : Int32), v0.2.2.1, v0.2.2.2.1, v0.2.2.2.2.1, v0.2.2.2.2.2.1, v0.2.2.2.2.2.2)) H := hP
  have hD : va_D A (wd_Shape_clear cC cI a0_0 ((0 : Int32), (0 : Int32), v0.2.2.1, v0.2.2.2.1, v0.2.2.2.2.1, v0.2.2.2.2.2.1, v0.2.2.2.2.2.2)) := hD
  refine lv_aload_n hx hb d_Shape_clear_10 rfl (lv_at hl 0 rfl) ?_
  refine lv_iconst (v := 0) hx hb d_Shape_clear_11 (by decide) ?_
  refine va_put (D := D) (ci := 2) (v := .int (0 : Int32)) (ty := .int) (C := R_Shape) (T := F_Shape) (N := 7) hx hb htB in_Shape t_Shape t_Shape_ok n_Shape hown hK hP hD hS 0 rfl rfl 2 (by decide) (htB _ b_30) (fun _ h9 => h9) rfl (by decide +kernel) rfl rfl (Nat.le_of_ble_eq_true rfl) d_Shape_clear_12 (fun H locs hP hD hS => ?_)
  have hP : va_P D classes (wd_Shape_clear cC cI a0_0 ((0 : Int32), (0 : Int32), (0 : Int32), v0.2.2.2.1, v0.2.2.2.2.1, v0.2.2.2.2.2.1, v0.2.2.2.2.2.2)) H := hP
  have hD : va_D A (wd_Shape_clear cC cI a0_0 ((0 : Int32), (0 : Int32), (0 : Int32), v0.2.2.2.1, v0.2.2.2.2.1, v0.2.2.2.2.2.1, v0.2.2.2.2.2.2)) := hD
  refine lv_aload_n hx hb d_Shape_clear_15 rfl (lv_at hl 0 rfl) ?_
  refine lv_iconst (v := 0) hx hb d_Shape_clear_16 (by decide) ?_
  refine va_put (D := D) (ci := 2) (v := .int (0 : Int32)) (ty := .int) (C := R_Shape) (T := F_Shape) (N := 7) hx hb htB in_Shape t_Shape t_Shape_ok n_Shape hown hK hP hD hS 0 rfl rfl 3 (by decide) (htB _ b_31) (fun _ h9 => h9) rfl (by decide +kernel) rfl rfl (Nat.le_of_ble_eq_true rfl) d_Shape_clear_17 (fun H locs hP hD hS => ?_)
  have hP : va_P D classes (wd_Shape_clear cC cI a0_0 ((0 : Int32), (0 : Int32), (0 : Int32), (0 : Int32), v0.2.2.2.2.1, v0.2.2.2.2.2.1, v0.2.2.2.2.2.2)) H := hP
  have hD : va_D A (wd_Shape_clear cC cI a0_0 ((0 : Int32), (0 : Int32), (0 : Int32), (0 : Int32), v0.2.2.2.2.1, v0.2.2.2.2.2.1, v0.2.2.2.2.2.2)) := hD
  refine lv_aload_n hx hb d_Shape_clear_20 rfl (lv_at hl 0 rfl) ?_
  refine lv_iconst (v := 0) hx hb d_Shape_clear_21 (by decide) ?_
  refine va_put (D := D) (ci := 2) (v := .int (0 : Int32)) (ty := .boolean) (C := R_Shape) (T := F_Shape) (N := 7) hx hb htB in_Shape t_Shape t_Shape_ok n_Shape hown hK hP hD hS 0 rfl rfl 4 (by decide) (htB _ b_32) (fun _ h9 => h9) rfl (by decide +kernel) rfl rfl (Nat.le_of_ble_eq_true rfl) d_Shape_clear_22 (fun H locs hP hD hS => ?_)
  have hP : va_P D classes (wd_Shape_clear cC cI a0_0 ((0 : Int32), (0 : Int32), (0 : Int32), (0 : Int32), (0 : Int32), v0.2.2.2.2.2.1, v0.2.2.2.2.2.2)) H := hP
  have hD : va_D A (wd_Shape_clear cC cI a0_0 ((0 : Int32), (0 : Int32), (0 : Int32), (0 : Int32), (0 : Int32), v0.2.2.2.2.2.1, v0.2.2.2.2.2.2)) := hD
  refine lv_aload_n hx hb d_Shape_clear_25 rfl (lv_at hl 0 rfl) ?_
  refine lv_iconst (v := 0) hx hb d_Shape_clear_26 (by decide) ?_
  refine va_put (D := D) (ci := 2) (v := .int (0 : Int32)) (ty := .int) (C := R_Shape) (T := F_Shape) (N := 7) hx hb htB in_Shape t_Shape t_Shape_ok n_Shape hown hK hP hD hS 0 rfl rfl 5 (by decide) (htB _ b_33) (fun _ h9 => h9) rfl (by decide +kernel) rfl rfl (Nat.le_of_ble_eq_true rfl) d_Shape_clear_27 (fun H locs hP hD hS => ?_)
  have hP : va_P D classes (wd_Shape_clear cC cI a0_0 ((0 : Int32), (0 : Int32), (0 : Int32), (0 : Int32), (0 : Int32), (0 : Int32), v0.2.2.2.2.2.2)) H := hP
  have hD : va_D A (wd_Shape_clear cC cI a0_0 ((0 : Int32), (0 : Int32), (0 : Int32), (0 : Int32), (0 : Int32), (0 : Int32), v0.2.2.2.2.2.2)) := hD
  refine lv_aload_n hx hb d_Shape_clear_30 rfl (lv_at hl 0 rfl) ?_
  refine lv_iconst (v := 0) hx hb d_Shape_clear_31 (by decide) ?_
  refine va_put (D := D) (ci := 2) (v := .int (0 : Int32)) (ty := .int) (C := R_Shape) (T := F_Shape) (N := 7) hx hb htB in_Shape t_Shape t_Shape_ok n_Shape hown hK hP hD hS 0 rfl rfl 6 (by decide) (htB _ b_34) (fun _ h9 => h9) rfl (by decide +kernel) rfl rfl (Nat.le_of_ble_eq_true rfl) d_Shape_clear_32 (fun H locs hP hD hS => ?_)
  have hP : va_P D classes (wd_Shape_clear cC cI a0_0 ((0 : Int32), (0 : Int32), (0 : Int32), (0 : Int32), (0 : Int32), (0 : Int32), (0 : Int32))) H := hP
  have hD : va_D A (wd_Shape_clear cC cI a0_0 ((0 : Int32), (0 : Int32), (0 : Int32), (0 : Int32), (0 : Int32), (0 : Int32), (0 : Int32))) := hD
  obtain rfl := Option.some.inj h
  exact W.vret hx hb hr (fun t ht hW => ⟨⟨(), rfl, trivial, by rw [ht]; exact hP, hD⟩, hS.F ht⟩) hS.2.2 d_Shape_clear_35 hlocks

set_option maxHeartbeats 4000000 in
set_option maxRecDepth 100000 in
theorem c_Shape_clear (l : Launch) (D : va_G) (cC cI : ClassId) (sz : Nat) (a0_0 : Nat) (v0 : T_Shape) (out : O_Shape_clear) (h : f_Shape_clear v0 = some out) : Met l y_Shape_clear (.code y_Shape_clear b_Shape_clear 1 none :: BIG) rm_Shape_clear (va_Pc [.ref a0_0] (xPre D cC cI (wd_Shape_clear cC cI a0_0 v0) sz)) (q_Shape_clear D cC cI a0_0 out (va_A (wd_Shape_clear cC cI a0_0 v0) sz)) 0 0 (va_A (wd_Shape_clear cC cI a0_0 v0) sz) := by
  refine Met.ofW (cc := b_Shape_clear) (maxL := 1) (ret := none) (by decide) rfl ?_
  intro p e s m args below meth c s₁ B hml hv
  obtain ⟨rfl, rfl, hP, hD0, hG, hZ⟩ := hv
  have hl := lv_entry [.ref a0_0] (n := 1) (Nat.le_of_ble_eq_true rfl)
  rw [lg_entry_eq]
  exact w_Shape_clear (x_cx B hml hG hZ) v0 h hl hP hD0.self va_S.rf

abbrev wd_Shape_startGroup (cC cI : ClassId) (a0_0 : Nat) (v0 : T_Shape) : va_W := [(a0_0, .inr (2, [.int v0.1, .int v0.2.1, .int v0.2.2.1, .int v0.2.2.2.1, .int v0.2.2.2.2.1, .int v0.2.2.2.2.2.1, .int v0.2.2.2.2.2.2]))]
abbrev O_Shape_startGroup : Type := T_Shape
abbrev q_Shape_startGroup (D : va_G) (cC cI : ClassId) (a0_0 : Nat)  (out : O_Shape_startGroup) (A : Nat → Prop) : Array Value → State → Outcome → State → Prop := va_Qv (fun _ : Unit => True) (fun _ t => va_P D classes (wd_Shape_startGroup cC cI a0_0 out) t.heap ∧ va_D A (wd_Shape_startGroup cC cI a0_0 out)) A
abbrev rm_Shape_startGroup : Room := { frames := 0, cells := 0, slots := 0, locals := 0 }
def f_Shape_startGroup (v0 : T_Shape) : Option O_Shape_startGroup := some (v0.1, v0.2.1, v0.2.2.1, v0.2.2.2.1, (1 : Int32), (0 : Int32), v0.2.2.2.2.2.2)
set_option maxHeartbeats 4000000 in
set_option maxRecDepth 100000 in
theorem w_Shape_startGroup {p : Program} {l : Launch} {e : Env} {s : State} {m : MethodId} {args : Array Value} {below : List Frame} {meth : Method} {c : Code} {A : Nat → Prop} {D : va_G} {cC cI : ClassId} {a0_0 : Nat} (X : xCX p s m args meth c A D cC cI b_Shape_startGroup 1 R_Shape none) {out : O_Shape_startGroup} (v0 : T_Shape) {ls : Array Slot} {H : Heap} {locs : List Loc} (h : f_Shape_startGroup v0 = some out) (hl : lv_has ls 1 [(0, .ref a0_0)]) (hP : va_P D classes (wd_Shape_startGroup cC cI a0_0 v0) H) (hD : va_D A (wd_Shape_startGroup cC cI a0_0 v0)) (hS : va_S A s.heap H locs) : W p l e rm_Shape_startGroup s m args below meth c H locs 0 0 (MQ below (q_Shape_startGroup D cC cI a0_0 out A) args s 0 0 A) (F0 m 0 ls []) := by
  obtain ⟨hx, hb, hml, hown, htB, ⟨hK, hN⟩, hZ, hA, hr, hlocks⟩ := id X
  refine lv_aload_n hx hb d_Shape_startGroup_0 rfl (lv_at hl 0 rfl) ?_
  refine lv_iconst (v := 1) hx hb d_Shape_startGroup_1 (by decide) ?_
  refine va_put (D := D) (ci := 2) (v := .int (1 : Int32)) (ty := .boolean) (C := R_Shape) (T := F_Shape) (N := 7) hx hb htB in_Shape t_Shape t_Shape_ok n_Shape hown hK hP hD hS 0 rfl rfl 4 (by decide) (htB _ b_32) (fun _ h9 => h9) rfl (by decide +kernel) rfl rfl (Nat.le_of_ble_eq_true rfl) d_Shape_startGroup_2 (fun H locs hP hD hS => ?_)
  have hP : va_P D classes (wd_Shape_startGroup cC cI a0_0 (v0.1, v0.2.1, v0.2.2.1, v0.2.2.2.1, (1 : Int32), v0.2.2.2.2.2.1, v0.2.2.2.2.2.2)) H := hP
  have hD : va_D A (wd_Shape_startGroup cC cI a0_0 (v0.1, v0.2.1, v0.2.2.1, v0.2.2.2.1, (1 : Int32), v0.2.2.2.2.2.1, v0.2.2.2.2.2.2)) := hD
  refine lv_aload_n hx hb d_Shape_startGroup_5 rfl (lv_at hl 0 rfl) ?_
  refine lv_iconst (v := 0) hx hb d_Shape_startGroup_6 (by decide) ?_
  refine va_put (D := D) (ci := 2) (v := .int (0 : Int32)) (ty := .int) (C := R_Shape) (T := F_Shape) (N := 7) hx hb htB in_Shape t_Shape t_Shape_ok n_Shape hown hK hP hD hS 0 rfl rfl 5 (by decide) (htB _ b_33) (fun _ h9 => h9) rfl (by decide +kernel) rfl rfl (Nat.le_of_ble_eq_true rfl) d_Shape_startGroup_7 (fun H locs hP hD hS => ?_)
  have hP : va_P D classes (wd_Shape_startGroup cC cI a0_0 (v0.1, v0.2.1, v0.2.2.1, v0.2.2.2.1, (1 : Int32), (0 : Int32), v0.2.2.2.2.2.2)) H := hP
  have hD : va_D A (wd_Shape_startGroup cC cI a0_0 (v0.1, v0.2.1, v0.2.2.1, v0.2.2.2.1, (1 : Int32), (0 : Int32), v0.2.2.2.2.2.2)) := hD
  obtain rfl := Option.some.inj h
  exact W.vret hx hb hr (fun t ht hW => ⟨⟨(), rfl, trivial, by rw [ht]; exact hP, hD⟩, hS.F ht⟩) hS.2.2 d_Shape_startGroup_10 hlocks

set_option maxHeartbeats 4000000 in
set_option maxRecDepth 100000 in
theorem c_Shape_startGroup (l : Launch) (D : va_G) (cC cI : ClassId) (sz : Nat) (a0_0 : Nat) (v0 : T_Shape) (out : O_Shape_startGroup) (h : f_Shape_startGroup v0 = some out) : Met l y_Shape_startGroup (.code y_Shape_startGroup b_Shape_startGroup 1 none :: BIG) rm_Shape_startGroup (va_Pc [.ref a0_0] (xPre D cC cI (wd_Shape_startGroup cC cI a0_0 v0) sz)) (q_Shape_startGroup D cC cI a0_0 out (va_A (wd_Shape_startGroup cC cI a0_0 v0) sz)) 0 0 (va_A (wd_Shape_startGroup cC cI a0_0 v0) sz) := by
  refine Met.ofW (cc := b_Shape_startGroup) (maxL := 1) (ret := none) (by decide) rfl ?_
  intro p e s m args below meth c s₁ B hml hv
  obtain ⟨rfl, rfl, hP, hD0, hG, hZ⟩ := hv
  have hl := lv_entry [.ref a0_0] (n := 1) (Nat.le_of_ble_eq_true rfl)
  rw [lg_entry_eq]
  exact w_Shape_startGroup (x_cx B hml hG hZ) v0 h hl hP hD0.self va_S.rf

abbrev wd_Shape_takeInteger (cC cI : ClassId) (a0_0 : Nat) (v0 : T_Shape) : va_W := [(a0_0, .inr (2, [.int v0.1, .int v0.2.1, .int v0.2.2.1, .int v0.2.2.2.1, .int v0.2.2.2.2.1, .int v0.2.2.2.2.2.1, .int v0.2.2.2.2.2.2]))]
abbrev O_Shape_takeInteger : Type := Int32 × T_Shape
abbrev q_Shape_takeInteger (D : va_G) (cC cI : ClassId) (a0_0 : Nat)  (out : O_Shape_takeInteger) (A : Nat → Prop) : Array Value → State → Outcome → State → Prop := va_Qi (fun r (_ : Unit) => r = out.1) (fun _ t => va_P D classes (wd_Shape_takeInteger cC cI a0_0 out.2) t.heap ∧ va_D A (wd_Shape_takeInteger cC cI a0_0 out.2)) A
abbrev rm_Shape_takeInteger : Room := { frames := 0, cells := 0, slots := 0, locals := 0 }
def J_Shape_takeInteger_26 (p : Program) (l : Launch) (e : Env) (s : State) (m : MethodId) (args : Array Value) (below : List Frame) (meth : Method) (c : Code) (A : Nat → Prop) (D : va_G) (cC cI : ClassId) (a0_0 : Nat) (out : O_Shape_takeInteger) (k : T_Shape → Int32 → Option O_Shape_takeInteger) : Prop := ∀ (v0 : T_Shape) (x1 : Int32) (ls : Array Slot) (H : Heap) (locs : List Loc), k v0 x1 = some out → lv_has ls 2 [(0, .ref a0_0), (1, .int x1)] → va_P D classes (wd_Shape_takeInteger cC cI a0_0 v0) H → va_D A (wd_Shape_takeInteger cC cI a0_0 v0) → va_S A s.heap H locs → W p l e rm_Shape_takeInteger s m args below meth c H locs 0 0 (MQ below (q_Shape_takeInteger D cC cI a0_0 out A) args s 0 0 A) (F0 m 26 ls [])
def J_Shape_takeInteger_47 (p : Program) (l : Launch) (e : Env) (s : State) (m : MethodId) (args : Array Value) (below : List Frame) (meth : Method) (c : Code) (A : Nat → Prop) (D : va_G) (cC cI : ClassId) (a0_0 : Nat) (out : O_Shape_takeInteger) (k : T_Shape → Option O_Shape_takeInteger) : Prop := ∀ (v0 : T_Shape) (ls : Array Slot) (H : Heap) (locs : List Loc), k v0 = some out → lv_has ls 2 [(0, .ref a0_0)] → va_P D classes (wd_Shape_takeInteger cC cI a0_0 v0) H → va_D A (wd_Shape_takeInteger cC cI a0_0 v0) → va_S A s.heap H locs → W p l e rm_Shape_takeInteger s m args below meth c H locs 0 0 (MQ below (q_Shape_takeInteger D cC cI a0_0 out A) args s 0 0 A) (F0 m 47 ls [])
def J_Shape_takeInteger_64 (p : Program) (l : Launch) (e : Env) (s : State) (m : MethodId) (args : Array Value) (below : List Frame) (meth : Method) (c : Code) (A : Nat → Prop) (D : va_G) (cC cI : ClassId) (a0_0 : Nat) (out : O_Shape_takeInteger) (k : T_Shape → Option O_Shape_takeInteger) : Prop := ∀ (v0 : T_Shape) (ls : Array Slot) (H : Heap) (locs : List Loc), k v0 = some out → lv_has ls 2 [] → va_P D classes (wd_Shape_takeInteger cC cI a0_0 v0) H → va_D A (wd_Shape_takeInteger cC cI a0_0 v0) → va_S A s.heap H locs → W p l e rm_Shape_takeInteger s m args below meth c H locs 0 0 (MQ below (q_Shape_takeInteger D cC cI a0_0 out A) args s 0 0 A) (F0 m 64 ls [])
def f_Shape_takeInteger_64 (v0 : T_Shape) : Option O_Shape_takeInteger := some ((1 : Int32), v0)
set_option maxHeartbeats 4000000 in
set_option maxRecDepth 100000 in
theorem w_Shape_takeInteger_64 {p : Program} {l : Launch} {e : Env} {s : State} {m : MethodId} {args : Array Value} {below : List Frame} {meth : Method} {c : Code} {A : Nat → Prop} {D : va_G} {cC cI : ClassId} {a0_0 : Nat} (X : xCX p s m args meth c A D cC cI b_Shape_takeInteger 2 R_Shape (some .boolean)) {out : O_Shape_takeInteger}   : J_Shape_takeInteger_64 p l e s m args below meth c A D cC cI a0_0 out (f_Shape_takeInteger_64  ) := by
  obtain ⟨hx, hb, hml, hown, htB, ⟨hK, hN⟩, hZ, hA, hr, hlocks⟩ := id X
  intro v0 ls H locs h hl hP hD hS
  refine lv_iconst (v := 1) hx hb d_Shape_takeInteger_64 (by decide) ?_
  obtain rfl := Option.some.inj h
  exact W.zret (v := (1 : Int32)) (ty := .boolean) hx hb hr rfl (fun t ht hW => ⟨⟨(1 : Int32), (), rfl, rfl, by rw [ht]; exact hP, hD⟩, hS.F ht⟩) hS.2.2 d_Shape_takeInteger_65 hlocks

def f_Shape_takeInteger_47 (v0 : T_Shape) : Option O_Shape_takeInteger := (if v0.2.2.2.2.1 = 0 then f_Shape_takeInteger_64 v0 else f_Shape_takeInteger_64 (v0.1, v0.2.1, v0.2.2.1, v0.2.2.2.1, v0.2.2.2.2.1, (v0.2.2.2.2.2.1 + (1 : Int32)), v0.2.2.2.2.2.2))
set_option maxHeartbeats 4000000 in
set_option maxRecDepth 100000 in
theorem w_Shape_takeInteger_47 {p : Program} {l : Launch} {e : Env} {s : State} {m : MethodId} {args : Array Value} {below : List Frame} {meth : Method} {c : Code} {A : Nat → Prop} {D : va_G} {cC cI : ClassId} {a0_0 : Nat} (X : xCX p s m args meth c A D cC cI b_Shape_takeInteger 2 R_Shape (some .boolean)) {out : O_Shape_takeInteger}   : J_Shape_takeInteger_47 p l e s m args below meth c A D cC cI a0_0 out (f_Shape_takeInteger_47  ) := by
  obtain ⟨hx, hb, hml, hown, htB, ⟨hK, hN⟩, hZ, hA, hr, hlocks⟩ := id X
  intro v0 ls H locs h hl hP hD hS
  refine lv_aload_n hx hb d_Shape_takeInteger_47 rfl (lv_at hl 0 rfl) ?_
  refine va_get (D := D) (ci := 2) (v := .int v0.2.2.2.2.1) (C := R_Shape) (T := F_Shape) (N := 7) hx hb htB in_Shape hown hK hP 0 rfl rfl 4 (by decide) (htB _ b_32) (fun _ h9 => h9) rfl d_Shape_takeInteger_48 ?_
  refine lv_if_eq (tgt := 64) hx hb d_Shape_takeInteger_51 rfl (fun hc => ?_) (fun hc => ?_)
  · have h := (if_pos hc).symm.trans h
    exact w_Shape_takeInteger_64 X v0 ls H locs h (lv_sub hl [] rfl) hP hD hS
  have h := (if_neg hc).symm.trans h
  refine lv_aload_n hx hb d_Shape_takeInteger_54 rfl (lv_at hl 0 rfl) ?_
  refine lv_dup hx hb d_Shape_takeInteger_55 rfl ?_
  refine va_get (D := D) (ci := 2) (v := .int v0.2.2.2.2.2.1) (C := R_Shape) (T := F_Shape) (N := 7) hx hb htB in_Shape hown hK hP 0 rfl rfl 5 (by decide) (htB _ b_33) (fun _ h9 => h9) rfl d_Shape_takeInteger_56 ?_
  refine lv_iconst (v := 1) hx hb d_Shape_takeInteger_59 (by decide) ?_
  refine lv_iadd hx hb d_Shape_takeInteger_60 ?_
  refine va_put (D := D) (ci := 2) (v := .int (v0.2.2.2.2.2.1 + (1 : Int32))) (ty := .int) (C := R_Shape) (T := F_Shape) (N := 7) hx hb htB in_Shape t_Shape t_Shape_ok n_Shape hown hK hP hD hS 0 rfl rfl 5 (by decide) (htB _ b_33) (fun _ h9 => h9) rfl (by decide +kernel) rfl rfl (Nat.le_of_ble_eq_true rfl) d_Shape_takeInteger_61 (fun H locs hP hD hS => ?_)
  have hP : va_P D classes (wd_Shape_takeInteger cC cI a0_0 (v0.1, v0.2.1, v0.2.2.1, v0.2.2.2.1, v0.2.2.2.2.1, (v0.2.2.2.2.2.1 + (1 : Int32)), v0.2.2.2.2.2.2)) H := hP
  have hD : va_D A (wd_Shape_takeInteger cC cI a0_0 (v0.1, v0.2.1, v0.2.2.1, v0.2.2.2.1, v0.2.2.2.2.1, (v0.2.2.2.2.2.1 + (1 : Int32)), v0.2.2.2.2.2.2)) := hD
  exact w_Shape_takeInteger_64 X (v0.1, v0.2.1, v0.2.2.1, v0.2.2.2.1, v0.2.2.2.2.1, (v0.2.2.2.2.2.1 + (1 : Int32)), v0.2.2.2.2.2.2) ls H locs h (lv_sub hl [] rfl) hP hD hS

def f_Shape_takeInteger_26 (v0 : T_Shape) (x1 : Int32) : Option O_Shape_takeInteger := (if x1 = (48 : Int32) then f_Shape_takeInteger_47 (v0.1, (v0.2.1 + (1 : Int32)), v0.2.2.1, v0.2.2.2.1, v0.2.2.2.2.1, v0.2.2.2.2.2.1, v0.2.2.2.2.2.2) else some ((0 : Int32), v0))
set_option maxHeartbeats 4000000 in
set_option maxRecDepth 100000 in
theorem w_Shape_takeInteger_26 {p : Program} {l : Launch} {e : Env} {s : State} {m : MethodId} {args : Array Value} {below : List Frame} {meth : Method} {c : Code} {A : Nat → Prop} {D : va_G} {cC cI : ClassId} {a0_0 : Nat} (X : xCX p s m args meth c A D cC cI b_Shape_takeInteger 2 R_Shape (some .boolean)) {out : O_Shape_takeInteger}   : J_Shape_takeInteger_26 p l e s m args below meth c A D cC cI a0_0 out (f_Shape_takeInteger_26  ) := by
  obtain ⟨hx, hb, hml, hown, htB, ⟨hK, hN⟩, hZ, hA, hr, hlocks⟩ := id X
  intro v0 x1 ls H locs h hl hP hD hS
  refine lv_iload_n hx hb d_Shape_takeInteger_26 rfl (lv_at hl 1 rfl) ?_
  refine lv_bipush (v := 48) hx hb d_Shape_takeInteger_27 (by decide) ?_
  refine lv_icmp_ne (tgt := 45) hx hb d_Shape_takeInteger_29 rfl (fun hc => ?_) (fun hc => ?_)
  · have h := (if_neg hc).symm.trans h
    refine lv_iconst (v := 0) hx hb d_Shape_takeInteger_45 (by decide) ?_
    obtain rfl := Option.some.inj h
    exact W.zret (v := (0 : Int32)) (ty := .boolean) hx hb hr rfl (fun t ht hW => ⟨⟨(0 : Int32), (), rfl, rfl, by rw [ht]; exact hP, hD⟩, hS.F ht⟩) hS.2.2 d_Shape_takeInteger_46 hlocks
  have h := (if_pos hc).symm.trans h
  refine lv_aload_n hx hb d_Shape_takeInteger_32 rfl (lv_at hl 0 rfl) ?_
  refine lv_dup hx hb d_Shape_takeInteger_33 rfl ?_
  refine va_get (D := D) (ci := 2) (v := .int v0.2.1) (C := R_Shape) (T := F_Shape) (N := 7) hx hb htB in_Shape hown hK hP 0 rfl rfl 1 (by decide) (htB _ b_29) (fun _ h9 => h9) rfl d_Shape_takeInteger_34 ?_
  refine lv_iconst (v := 1) hx hb d_Shape_takeInteger_37 (by decide) ?_
  refine lv_iadd hx hb d_Shape_takeInteger_38 ?_
  refine va_put (D := D) (ci := 2) (v := .int (v0.2.1 + (1 : Int32))) (ty := .int) (C := R_Shape) (T := F_Shape) (N := 7) hx hb htB in_Shape t_Shape t_Shape_ok n_Shape hown hK hP hD hS 0 rfl rfl 1 (by decide) (htB _ b_29) (fun _ h9 => h9) rfl (by decide +kernel) rfl rfl (Nat.le_of_ble_eq_true rfl) d_Shape_takeInteger_39 (fun H locs hP hD hS => ?_)
  have hP : va_P D classes (wd_Shape_takeInteger cC cI a0_0 (v0.1, (v0.2.1 + (1 : Int32)), v0.2.2.1, v0.2.2.2.1, v0.2.2.2.2.1, v0.2.2.2.2.2.1, v0.2.2.2.2.2.2)) H := hP
  have hD : va_D A (wd_Shape_takeInteger cC cI a0_0 (v0.1, (v0.2.1 + (1 : Int32)), v0.2.2.1, v0.2.2.2.1, v0.2.2.2.2.1, v0.2.2.2.2.2.1, v0.2.2.2.2.2.2)) := hD
  refine lv_goto (tgt := 47) hx hb d_Shape_takeInteger_42 rfl ?_
  exact w_Shape_takeInteger_47 X (v0.1, (v0.2.1 + (1 : Int32)), v0.2.2.1, v0.2.2.2.1, v0.2.2.2.2.1, v0.2.2.2.2.2.1, v0.2.2.2.2.2.2) ls H locs h (lv_sub hl [0] rfl) hP hD hS

def f_Shape_takeInteger (v0 : T_Shape) (v1 : Int32) : Option O_Shape_takeInteger := (if v1 = (35 : Int32) then (if v0.2.1 = 0 then f_Shape_takeInteger_47 ((v0.1 + (1 : Int32)), v0.2.1, v0.2.2.1, v0.2.2.2.1, v0.2.2.2.2.1, v0.2.2.2.2.2.1, v0.2.2.2.2.2.2) else f_Shape_takeInteger_26 v0 v1) else f_Shape_takeInteger_26 v0 v1)
set_option maxHeartbeats 4000000 in
set_option maxRecDepth 100000 in
theorem w_Shape_takeInteger {p : Program} {l : Launch} {e : Env} {s : State} {m : MethodId} {args : Array Value} {below : List Frame} {meth : Method} {c : Code} {A : Nat → Prop} {D : va_G} {cC cI : ClassId} {a0_0 : Nat} (X : xCX p s m args meth c A D cC cI b_Shape_takeInteger 2 R_Shape (some .boolean)) {out : O_Shape_takeInteger} (v0 : T_Shape) (v1 : Int32) {ls : Array Slot} {H : Heap} {locs : List Loc} (h : f_Shape_takeInteger v0 v1 = some out) (hl : lv_has ls 2 [(0, .ref a0_0), (1, .int v1)]) (hP : va_P D classes (wd_Shape_takeInteger cC cI a0_0 v0) H) (hD : va_D A (wd_Shape_takeInteger cC cI a0_0 v0)) (hS : va_S A s.heap H locs) : W p l e rm_Shape_takeInteger s m args below meth c H locs 0 0 (MQ below (q_Shape_takeInteger D cC cI a0_0 out A) args s 0 0 A) (F0 m 0 ls []) := by
  obtain ⟨hx, hb, hml, hown, htB, ⟨hK, hN⟩, hZ, hA, hr, hlocks⟩ := id X
  refine lv_iload_n hx hb d_Shape_takeInteger_0 rfl (lv_at hl 1 rfl) ?_
  refine lv_bipush (v := 35) hx hb d_Shape_takeInteger_1 (by decide) ?_
  refine lv_icmp_ne (tgt := 26) hx hb d_Shape_takeInteger_3 rfl (fun hc => ?_) (fun hc => ?_)
  · have h := (if_neg hc).symm.trans h
    exact w_Shape_takeInteger_26 X v0 v1 ls H locs h (lv_sub hl [0, 1] rfl) hP hD hS
  have h := (if_pos hc).symm.trans h
  refine lv_aload_n hx hb d_Shape_takeInteger_6 rfl (lv_at hl 0 rfl) ?_
  refine va_get (D := D) (ci := 2) (v := .int v0.2.1) (C := R_Shape) (T := F_Shape) (N := 7) hx hb htB in_Shape hown hK hP 0 rfl rfl 1 (by decide) (htB _ b_29) (fun _ h9 => h9) rfl d_Shape_takeInteger_7 ?_
  refine lv_if_ne (tgt := 26) hx hb d_Shape_takeInteger_10 rfl (fun hc => ?_) (fun hc => ?_)
  · have h := (if_neg hc).symm.trans h
    exact w_Shape_takeInteger_26 X v0 v1 ls H locs h (lv_sub hl [0, 1] rfl) hP hD hS
  have h := (if_pos hc).symm.trans h
  refine lv_aload_n hx hb d_Shape_takeInteger_13 rfl (lv_at hl 0 rfl) ?_
  refine lv_dup hx hb d_Shape_takeInteger_14 rfl ?_
  refine va_get (D := D) (ci := 2) (v := .int v0.1) (C := R_Shape) (T := F_Shape) (N := 7) hx hb htB in_Shape hown hK hP 0 rfl rfl 0 (by decide) (htB _ b_28) (fun _ h9 => h9) rfl d_Shape_takeInteger_15 ?_
  refine lv_iconst (v := 1) hx hb d_Shape_takeInteger_18 (by decide) ?_
  refine lv_iadd hx hb d_Shape_takeInteger_19 ?_
  refine va_put (D := D) (ci := 2) (v := .int (v0.1 + (1 : Int32))) (ty := .int) (C := R_Shape) (T := F_Shape) (N := 7) hx hb htB in_Shape t_Shape t_Shape_ok n_Shape hown hK hP hD hS 0 rfl rfl 0 (by decide) (htB _ b_28) (fun _ h9 => h9) rfl (by decide +kernel) rfl rfl (Nat.le_of_ble_eq_true rfl) d_Shape_takeInteger_20 (fun H locs hP hD hS => ?_)
  have hP : va_P D classes (wd_Shape_takeInteger cC cI a0_0 ((v0.1 + (1 : Int32)), v0.2.1, v0.2.2.1, v0.2.2.2.1, v0.2.2.2.2.1, v0.2.2.2.2.2.1, v0.2.2.2.2.2.2)) H := hP
  have hD : va_D A (wd_Shape_takeInteger cC cI a0_0 ((v0.1 + (1 : Int32)), v0.2.1, v0.2.2.1, v0.2.2.2.1, v0.2.2.2.2.1, v0.2.2.2.2.2.1, v0.2.2.2.2.2.2)) := hD
  refine lv_goto (tgt := 47) hx hb d_Shape_takeInteger_23 rfl ?_
  exact w_Shape_takeInteger_47 X ((v0.1 + (1 : Int32)), v0.2.1, v0.2.2.1, v0.2.2.2.1, v0.2.2.2.2.1, v0.2.2.2.2.2.1, v0.2.2.2.2.2.2) ls H locs h (lv_sub hl [0] rfl) hP hD hS

set_option maxHeartbeats 4000000 in
set_option maxRecDepth 100000 in
theorem c_Shape_takeInteger (l : Launch) (D : va_G) (cC cI : ClassId) (sz : Nat) (a0_0 : Nat) (v0 : T_Shape) (v1 : Int32) (out : O_Shape_takeInteger) (h : f_Shape_takeInteger v0 v1 = some out) : Met l y_Shape_takeInteger (.code y_Shape_takeInteger b_Shape_takeInteger 2 (some .boolean) :: BIG) rm_Shape_takeInteger (va_Pc [.ref a0_0, .int v1] (xPre D cC cI (wd_Shape_takeInteger cC cI a0_0 v0) sz)) (q_Shape_takeInteger D cC cI a0_0 out (va_A (wd_Shape_takeInteger cC cI a0_0 v0) sz)) 0 0 (va_A (wd_Shape_takeInteger cC cI a0_0 v0) sz) := by
  refine Met.ofW (cc := b_Shape_takeInteger) (maxL := 2) (ret := (some .boolean)) (by decide) rfl ?_
  intro p e s m args below meth c s₁ B hml hv
  obtain ⟨rfl, rfl, hP, hD0, hG, hZ⟩ := hv
  have hl := lv_entry [.ref a0_0, .int v1] (n := 2) (Nat.le_of_ble_eq_true rfl)
  rw [lg_entry_eq]
  exact w_Shape_takeInteger (x_cx B hml hG hZ) v0 v1 h hl hP hD0.self va_S.rf

abbrev wd_Shape_takeFraction (cC cI : ClassId) (a0_0 : Nat) (v0 : T_Shape) : va_W := [(a0_0, .inr (2, [.int v0.1, .int v0.2.1, .int v0.2.2.1, .int v0.2.2.2.1, .int v0.2.2.2.2.1, .int v0.2.2.2.2.2.1, .int v0.2.2.2.2.2.2]))]
abbrev O_Shape_takeFraction : Type := Int32 × T_Shape
abbrev q_Shape_takeFraction (D : va_G) (cC cI : ClassId) (a0_0 : Nat)  (out : O_Shape_takeFraction) (A : Nat → Prop) : Array Value → State → Outcome → State → Prop := va_Qi (fun r (_ : Unit) => r = out.1) (fun _ t => va_P D classes (wd_Shape_takeFraction cC cI a0_0 out.2) t.heap ∧ va_D A (wd_Shape_takeFraction cC cI a0_0 out.2)) A
abbrev rm_Shape_takeFraction : Room := { frames := 0, cells := 0, slots := 0, locals := 0 }
def J_Shape_takeFraction_30 (p : Program) (l : Launch) (e : Env) (s : State) (m : MethodId) (args : Array Value) (below : List Frame) (meth : Method) (c : Code) (A : Nat → Prop) (D : va_G) (cC cI : ClassId) (a0_0 : Nat) (out : O_Shape_takeFraction) (k : T_Shape → Int32 → Option O_Shape_takeFraction) : Prop := ∀ (v0 : T_Shape) (x1 : Int32) (ls : Array Slot) (H : Heap) (locs : List Loc), k v0 x1 = some out → lv_has ls 2 [(0, .ref a0_0), (1, .int x1)] → va_P D classes (wd_Shape_takeFraction cC cI a0_0 v0) H → va_D A (wd_Shape_takeFraction cC cI a0_0 v0) → va_S A s.heap H locs → W p l e rm_Shape_takeFraction s m args below meth c H locs 0 0 (MQ below (q_Shape_takeFraction D cC cI a0_0 out A) args s 0 0 A) (F0 m 30 ls [])
def J_Shape_takeFraction_38 (p : Program) (l : Launch) (e : Env) (s : State) (m : MethodId) (args : Array Value) (below : List Frame) (meth : Method) (c : Code) (A : Nat → Prop) (D : va_G) (cC cI : ClassId) (a0_0 : Nat) (out : O_Shape_takeFraction) (k : T_Shape → Option O_Shape_takeFraction) : Prop := ∀ (v0 : T_Shape) (ls : Array Slot) (H : Heap) (locs : List Loc), k v0 = some out → lv_has ls 2 [(0, .ref a0_0)] → va_P D classes (wd_Shape_takeFraction cC cI a0_0 v0) H → va_D A (wd_Shape_takeFraction cC cI a0_0 v0) → va_S A s.heap H locs → W p l e rm_Shape_takeFraction s m args below meth c H locs 0 0 (MQ below (q_Shape_takeFraction D cC cI a0_0 out A) args s 0 0 A) (F0 m 38 ls [])
def f_Shape_takeFraction_38 (v0 : T_Shape) : Option O_Shape_takeFraction := some ((1 : Int32), (v0.1, v0.2.1, v0.2.2.1, (v0.2.2.2.1 + (1 : Int32)), v0.2.2.2.2.1, v0.2.2.2.2.2.1, v0.2.2.2.2.2.2))
set_option maxHeartbeats 4000000 in
set_option maxRecDepth 100000 in
theorem w_Shape_takeFraction_38 {p : Program} {l : Launch} {e : Env} {s : State} {m : MethodId} {args : Array Value} {below : List Frame} {meth : Method} {c : Code} {A : Nat → Prop} {D : va_G} {cC cI : ClassId} {a0_0 : Nat} (X : xCX p s m args meth c A D cC cI b_Shape_takeFraction 2 R_Shape (some .boolean)) {out : O_Shape_takeFraction}   : J_Shape_takeFraction_38 p l e s m args below meth c A D cC cI a0_0 out (f_Shape_takeFraction_38  ) := by
  obtain ⟨hx, hb, hml, hown, htB, ⟨hK, hN⟩, hZ, hA, hr, hlocks⟩ := id X
  intro v0 ls H locs h hl hP hD hS
  refine lv_aload_n hx hb d_Shape_takeFraction_38 rfl (lv_at hl 0 rfl) ?_
  refine lv_dup hx hb d_Shape_takeFraction_39 rfl ?_
  refine va_get (D := D) (ci := 2) (v := .int v0.2.2.2.1) (C := R_Shape) (T := F_Shape) (N := 7) hx hb htB in_Shape hown hK hP 0 rfl rfl 3 (by decide) (htB _ b_31) (fun _ h9 => h9) rfl d_Shape_takeFraction_40 ?_
  refine lv_iconst (v := 1) hx hb d_Shape_takeFraction_43 (by decide) ?_
  refine lv_iadd hx hb d_Shape_takeFraction_44 ?_
  refine va_put (D := D) (ci := 2) (v := .int (v0.2.2.2.1 + (1 : Int32))) (ty := .int) (C := R_Shape) (T := F_Shape) (N := 7) hx hb htB in_Shape t_Shape t_Shape_ok n_Shape hown hK hP hD hS 0 rfl rfl 3 (by decide) (htB _ b_31) (fun _ h9 => h9) rfl (by decide +kernel) rfl rfl (Nat.le_of_ble_eq_true rfl) d_Shape_takeFraction_45 (fun H locs hP hD hS => ?_)
  have hP : va_P D classes (wd_Shape_takeFraction cC cI a0_0 (v0.1, v0.2.1, v0.2.2.1, (v0.2.2.2.1 + (1 : Int32)), v0.2.2.2.2.1, v0.2.2.2.2.2.1, v0.2.2.2.2.2.2)) H := hP
  have hD : va_D A (wd_Shape_takeFraction cC cI a0_0 (v0.1, v0.2.1, v0.2.2.1, (v0.2.2.2.1 + (1 : Int32)), v0.2.2.2.2.1, v0.2.2.2.2.2.1, v0.2.2.2.2.2.2)) := hD
  refine lv_iconst (v := 1) hx hb d_Shape_takeFraction_48 (by decide) ?_
  obtain rfl := Option.some.inj h
  exact W.zret (v := (1 : Int32)) (ty := .boolean) hx hb hr rfl (fun t ht hW => ⟨⟨(1 : Int32), (), rfl, rfl, by rw [ht]; exact hP, hD⟩, hS.F ht⟩) hS.2.2 d_Shape_takeFraction_49 hlocks

def f_Shape_takeFraction_30 (v0 : T_Shape) (x1 : Int32) : Option O_Shape_takeFraction := (if x1 = (35 : Int32) then f_Shape_takeFraction_38 v0 else some ((0 : Int32), v0))
set_option maxHeartbeats 4000000 in
set_option maxRecDepth 100000 in
theorem w_Shape_takeFraction_30 {p : Program} {l : Launch} {e : Env} {s : State} {m : MethodId} {args : Array Value} {below : List Frame} {meth : Method} {c : Code} {A : Nat → Prop} {D : va_G} {cC cI : ClassId} {a0_0 : Nat} (X : xCX p s m args meth c A D cC cI b_Shape_takeFraction 2 R_Shape (some .boolean)) {out : O_Shape_takeFraction}   : J_Shape_takeFraction_30 p l e s m args below meth c A D cC cI a0_0 out (f_Shape_takeFraction_30  ) := by
  obtain ⟨hx, hb, hml, hown, htB, ⟨hK, hN⟩, hZ, hA, hr, hlocks⟩ := id X
  intro v0 x1 ls H locs h hl hP hD hS
  refine lv_iload_n hx hb d_Shape_takeFraction_30 rfl (lv_at hl 1 rfl) ?_
  refine lv_bipush (v := 35) hx hb d_Shape_takeFraction_31 (by decide) ?_
  refine lv_icmp_eq (tgt := 38) hx hb d_Shape_takeFraction_33 rfl (fun hc => ?_) (fun hc => ?_)
  · have h := (if_pos hc).symm.trans h
    exact w_Shape_takeFraction_38 X v0 ls H locs h (lv_sub hl [0] rfl) hP hD hS
  have h := (if_neg hc).symm.trans h
  refine lv_iconst (v := 0) hx hb d_Shape_takeFraction_36 (by decide) ?_
  obtain rfl := Option.some.inj h
  exact W.zret (v := (0 : Int32)) (ty := .boolean) hx hb hr rfl (fun t ht hW => ⟨⟨(0 : Int32), (), rfl, rfl, by rw [ht]; exact hP, hD⟩, hS.F ht⟩) hS.2.2 d_Shape_takeFraction_37 hlocks

def f_Shape_takeFraction (v0 : T_Shape) (v1 : Int32) : Option O_Shape_takeFraction := (if v1 = (48 : Int32) then (if v0.2.2.2.1 = v0.2.2.1 then f_Shape_takeFraction_38 (v0.1, v0.2.1, (v0.2.2.1 + (1 : Int32)), v0.2.2.2.1, v0.2.2.2.2.1, v0.2.2.2.2.2.1, v0.2.2.2.2.2.2) else f_Shape_takeFraction_30 v0 v1) else f_Shape_takeFraction_30 v0 v1)
set_option maxHeartbeats 4000000 in
set_option maxRecDepth 100000 in
theorem w_Shape_takeFraction {p : Program} {l : Launch} {e : Env} {s : State} {m : MethodId} {args : Array Value} {below : List Frame} {meth : Method} {c : Code} {A : Nat → Prop} {D : va_G} {cC cI : ClassId} {a0_0 : Nat} (X : xCX p s m args meth c A D cC cI b_Shape_takeFraction 2 R_Shape (some .boolean)) {out : O_Shape_takeFraction} (v0 : T_Shape) (v1 : Int32) {ls : Array Slot} {H : Heap} {locs : List Loc} (h : f_Shape_takeFraction v0 v1 = some out) (hl : lv_has ls 2 [(0, .ref a0_0), (1, .int v1)]) (hP : va_P D classes (wd_Shape_takeFraction cC cI a0_0 v0) H) (hD : va_D A (wd_Shape_takeFraction cC cI a0_0 v0)) (hS : va_S A s.heap H locs) : W p l e rm_Shape_takeFraction s m args below meth c H locs 0 0 (MQ below (q_Shape_takeFraction D cC cI a0_0 out A) args s 0 0 A) (F0 m 0 ls []) := by
  obtain ⟨hx, hb, hml, hown, htB, ⟨hK, hN⟩, hZ, hA, hr, hlocks⟩ := id X
  refine lv_iload_n hx hb d_Shape_takeFraction_0 rfl (lv_at hl 1 rfl) ?_
  refine lv_bipush (v := 48) hx hb d_Shape_takeFraction_1 (by decide) ?_
  refine lv_icmp_ne (tgt := 30) hx hb d_Shape_takeFraction_3 rfl (fun hc => ?_) (fun hc => ?_)
  · have h := (if_neg hc).symm.trans h
    exact w_Shape_takeFraction_30 X v0 v1 ls H locs h (lv_sub hl [0, 1] rfl) hP hD hS
  have h := (if_pos hc).symm.trans h
  refine lv_aload_n hx hb d_Shape_takeFraction_6 rfl (lv_at hl 0 rfl) ?_
  refine va_get (D := D) (ci := 2) (v := .int v0.2.2.2.1) (C := R_Shape) (T := F_Shape) (N := 7) hx hb htB in_Shape hown hK hP 0 rfl rfl 3 (by decide) (htB _ b_31) (fun _ h9 => h9) rfl d_Shape_takeFraction_7 ?_
  refine lv_aload_n hx hb d_Shape_takeFraction_10 rfl (lv_at hl 0 rfl) ?_
  refine va_get (D := D) (ci := 2) (v := .int v0.2.2.1) (C := R_Shape) (T := F_Shape) (N := 7) hx hb htB in_Shape hown hK hP 0 rfl rfl 2 (by decide) (htB _ b_30) (fun _ h9 => h9) rfl d_Shape_takeFraction_11 ?_
  refine lv_icmp_ne (tgt := 30) hx hb d_Shape_takeFraction_14 rfl (fun hc => ?_) (fun hc => ?_)
  · have h := (if_neg hc).symm.trans h
    exact w_Shape_takeFraction_30 X v0 v1 ls H locs h (lv_sub hl [0, 1] rfl) hP hD hS
  have h := (if_pos hc).symm.trans h
  refine lv_aload_n hx hb d_Shape_takeFraction_17 rfl (lv_at hl 0 rfl) ?_
  refine lv_dup hx hb d_Shape_takeFraction_18 rfl ?_
  refine va_get (D := D) (ci := 2) (v := .int v0.2.2.1) (C := R_Shape) (T := F_Shape) (N := 7) hx hb htB in_Shape hown hK hP 0 rfl rfl 2 (by decide) (htB _ b_30) (fun _ h9 => h9) rfl d_Shape_takeFraction_19 ?_
  refine lv_iconst (v := 1) hx hb d_Shape_takeFraction_22 (by decide) ?_
  refine lv_iadd hx hb d_Shape_takeFraction_23 ?_
  refine va_put (D := D) (ci := 2) (v := .int (v0.2.2.1 + (1 : Int32))) (ty := .int) (C := R_Shape) (T := F_Shape) (N := 7) hx hb htB in_Shape t_Shape t_Shape_ok n_Shape hown hK hP hD hS 0 rfl rfl 2 (by decide) (htB _ b_30) (fun _ h9 => h9) rfl (by decide +kernel) rfl rfl (Nat.le_of_ble_eq_true rfl) d_Shape_takeFraction_24 (fun H locs hP hD hS => ?_)
  have hP : va_P D classes (wd_Shape_takeFraction cC cI a0_0 (v0.1, v0.2.1, (v0.2.2.1 + (1 : Int32)), v0.2.2.2.1, v0.2.2.2.2.1, v0.2.2.2.2.2.1, v0.2.2.2.2.2.2)) H := hP
  have hD : va_D A (wd_Shape_takeFraction cC cI a0_0 (v0.1, v0.2.1, (v0.2.2.1 + (1 : Int32)), v0.2.2.2.1, v0.2.2.2.2.1, v0.2.2.2.2.2.1, v0.2.2.2.2.2.2)) := hD
  refine lv_goto (tgt := 38) hx hb d_Shape_takeFraction_27 rfl ?_
  exact w_Shape_takeFraction_38 X (v0.1, v0.2.1, (v0.2.2.1 + (1 : Int32)), v0.2.2.2.1, v0.2.2.2.2.1, v0.2.2.2.2.2.1, v0.2.2.2.2.2.2) ls H locs h (lv_sub hl [0] rfl) hP hD hS

set_option maxHeartbeats 4000000 in
set_option maxRecDepth 100000 in
theorem c_Shape_takeFraction (l : Launch) (D : va_G) (cC cI : ClassId) (sz : Nat) (a0_0 : Nat) (v0 : T_Shape) (v1 : Int32) (out : O_Shape_takeFraction) (h : f_Shape_takeFraction v0 v1 = some out) : Met l y_Shape_takeFraction (.code y_Shape_takeFraction b_Shape_takeFraction 2 (some .boolean) :: BIG) rm_Shape_takeFraction (va_Pc [.ref a0_0, .int v1] (xPre D cC cI (wd_Shape_takeFraction cC cI a0_0 v0) sz)) (q_Shape_takeFraction D cC cI a0_0 out (va_A (wd_Shape_takeFraction cC cI a0_0 v0) sz)) 0 0 (va_A (wd_Shape_takeFraction cC cI a0_0 v0) sz) := by
  refine Met.ofW (cc := b_Shape_takeFraction) (maxL := 2) (ret := (some .boolean)) (by decide) rfl ?_
  intro p e s m args below meth c s₁ B hml hv
  obtain ⟨rfl, rfl, hP, hD0, hG, hZ⟩ := hv
  have hl := lv_entry [.ref a0_0, .int v1] (n := 2) (Nat.le_of_ble_eq_true rfl)
  rw [lg_entry_eq]
  exact w_Shape_takeFraction (x_cx B hml hG hZ) v0 v1 h hl hP hD0.self va_S.rf

abbrev wd_Shape_allowsExponent (cC cI : ClassId) (a0_0 : Nat) (v0 : T_Shape) : va_W := [(a0_0, .inr (2, [.int v0.1, .int v0.2.1, .int v0.2.2.1, .int v0.2.2.2.1, .int v0.2.2.2.2.1, .int v0.2.2.2.2.2.1, .int v0.2.2.2.2.2.2]))]
abbrev O_Shape_allowsExponent : Type := Int32
abbrev q_Shape_allowsExponent (D : va_G) (cC cI : ClassId) (a0_0 : Nat) (v0 : T_Shape) (out : O_Shape_allowsExponent) (A : Nat → Prop) : Array Value → State → Outcome → State → Prop := va_Qi (fun r (_ : Unit) => r = out) (fun _ t => va_P D classes (wd_Shape_allowsExponent cC cI a0_0 v0) t.heap ∧ va_D A (wd_Shape_allowsExponent cC cI a0_0 v0)) A
abbrev rm_Shape_allowsExponent : Room := { frames := 0, cells := 0, slots := 0, locals := 0 }
def J_Shape_allowsExponent_18 (p : Program) (l : Launch) (e : Env) (s : State) (m : MethodId) (args : Array Value) (below : List Frame) (meth : Method) (c : Code) (A : Nat → Prop) (D : va_G) (cC cI : ClassId) (a0_0 : Nat) (v0 : T_Shape) (out : O_Shape_allowsExponent) (k : Option O_Shape_allowsExponent) : Prop := ∀  (ls : Array Slot) (H : Heap) (locs : List Loc), k  = some out → lv_has ls 1 [] → va_P D classes (wd_Shape_allowsExponent cC cI a0_0 v0) H → va_D A (wd_Shape_allowsExponent cC cI a0_0 v0) → va_S A s.heap H locs → W p l e rm_Shape_allowsExponent s m args below meth c H locs 0 0 (MQ below (q_Shape_allowsExponent D cC cI a0_0 v0 out A) args s 0 0 A) (F0 m 18 ls [])
def J_Shape_allowsExponent_19 (p : Program) (l : Launch) (e : Env) (s : State) (m : MethodId) (args : Array Value) (below : List Frame) (meth : Method) (c : Code) (A : Nat → Prop) (D : va_G) (cC cI : ClassId) (a0_0 : Nat) (v0 : T_Shape) (out : O_Shape_allowsExponent) (k : Int32 → Option O_Shape_allowsExponent) : Prop := ∀ (s0 : Int32) (ls : Array Slot) (H : Heap) (locs : List Loc), k s0 = some out → lv_has ls 1 [] → va_P D classes (wd_Shape_allowsExponent cC cI a0_0 v0) H → va_D A (wd_Shape_allowsExponent cC cI a0_0 v0) → va_S A s.heap H locs → W p l e rm_Shape_allowsExponent s m args below meth c H locs 0 0 (MQ below (q_Shape_allowsExponent D cC cI a0_0 v0 out A) args s 0 0 A) (F0 m 19 ls [.int s0])
def f_Shape_allowsExponent_19 (v0 : T_Shape) (s0 : Int32) : Option O_Shape_allowsExponent := if (s0 = 0 ∨ s0 = 1) then some s0 else none
set_option maxHeartbeats 4000000 in
set_option maxRecDepth 100000 in
theorem w_Shape_allowsExponent_19 {p : Program} {l : Launch} {e : Env} {s : State} {m : MethodId} {args : Array Value} {below : List Frame} {meth : Method} {c : Code} {A : Nat → Prop} {D : va_G} {cC cI : ClassId} {a0_0 : Nat} {v0 : T_Shape} (X : xCX p s m args meth c A D cC cI b_Shape_allowsExponent 1 R_Shape (some .boolean)) {out : O_Shape_allowsExponent}   : J_Shape_allowsExponent_19 p l e s m args below meth c A D cC cI a0_0 v0 out (f_Shape_allowsExponent_19 v0 ) := by
  obtain ⟨hx, hb, hml, hown, htB, ⟨hK, hN⟩, hZ, hA, hr, hlocks⟩ := id X
  intro s0 ls H locs h hl hP hD hS
  obtain ⟨hc, h⟩ := x_chk h
  obtain rfl := Option.some.inj h
  exact W.zret (v := s0) (ty := .boolean) hx hb hr (x_zn hc) (fun t ht hW => ⟨⟨s0, (), rfl, rfl, by rw [ht]; exact hP, hD⟩, hS.F ht⟩) hS.2.2 d_Shape_allowsExponent_19 hlocks

def f_Shape_allowsExponent_18 (v0 : T_Shape) : Option O_Shape_allowsExponent := f_Shape_allowsExponent_19 v0 (0 : Int32)
set_option maxHeartbeats 4000000 in
set_option maxRecDepth 100000 in
theorem w_Shape_allowsExponent_18 {p : Program} {l : Launch} {e : Env} {s : State} {m : MethodId} {args : Array Value} {below : List Frame} {meth : Method} {c : Code} {A : Nat → Prop} {D : va_G} {cC cI : ClassId} {a0_0 : Nat} {v0 : T_Shape} (X : xCX p s m args meth c A D cC cI b_Shape_allowsExponent 1 R_Shape (some .boolean)) {out : O_Shape_allowsExponent}   : J_Shape_allowsExponent_18 p l e s m args below meth c A D cC cI a0_0 v0 out (f_Shape_allowsExponent_18 v0 ) := by
  obtain ⟨hx, hb, hml, hown, htB, ⟨hK, hN⟩, hZ, hA, hr, hlocks⟩ := id X
  intro  ls H locs h hl hP hD hS
  refine lv_iconst (v := 0) hx hb d_Shape_allowsExponent_18 (by decide) ?_
  exact w_Shape_allowsExponent_19 X (0 : Int32) ls H locs h (lv_sub hl [] rfl) hP hD hS

def f_Shape_allowsExponent (v0 : T_Shape) : Option O_Shape_allowsExponent := (if v0.1 = 0 then (if v0.2.2.2.2.1 = 0 then f_Shape_allowsExponent_19 v0 (1 : Int32) else f_Shape_allowsExponent_18 v0) else f_Shape_allowsExponent_18 v0)
set_option maxHeartbeats 4000000 in
set_option maxRecDepth 100000 in
theorem w_Shape_allowsExponent {p : Program} {l : Launch} {e : Env} {s : State} {m : MethodId} {args : Array Value} {below : List Frame} {meth : Method} {c : Code} {A : Nat → Prop} {D : va_G} {cC cI : ClassId} {a0_0 : Nat} {v0 : T_Shape} (X : xCX p s m args meth c A D cC cI b_Shape_allowsExponent 1 R_Shape (some .boolean)) {out : O_Shape_allowsExponent}  {ls : Array Slot} {H : Heap} {locs : List Loc} (h : f_Shape_allowsExponent v0 = some out) (hl : lv_has ls 1 [(0, .ref a0_0)]) (hP : va_P D classes (wd_Shape_allowsExponent cC cI a0_0 v0) H) (hD : va_D A (wd_Shape_allowsExponent cC cI a0_0 v0)) (hS : va_S A s.heap H locs) : W p l e rm_Shape_allowsExponent s m args below meth c H locs 0 0 (MQ below (q_Shape_allowsExponent D cC cI a0_0 v0 out A) args s 0 0 A) (F0 m 0 ls []) := by
  obtain ⟨hx, hb, hml, hown, htB, ⟨hK, hN⟩, hZ, hA, hr, hlocks⟩ := id X
  refine lv_aload_n hx hb d_Shape_allowsExponent_0 rfl (lv_at hl 0 rfl) ?_
  refine va_get (D := D) (ci := 2) (v := .int v0.1) (C := R_Shape) (T := F_Shape) (N := 7) hx hb htB in_Shape hown hK hP 0 rfl rfl 0 (by decide) (htB _ b_28) (fun _ h9 => h9) rfl d_Shape_allowsExponent_1 ?_
  refine lv_if_ne (tgt := 18) hx hb d_Shape_allowsExponent_4 rfl (fun hc => ?_) (fun hc => ?_)
  · have h := (if_neg hc).symm.trans h
    exact w_Shape_allowsExponent_18 X ls H locs h (lv_sub hl [] rfl) hP hD hS
  have h := (if_pos hc).symm.trans h
  refine lv_aload_n hx hb d_Shape_allowsExponent_7 rfl (lv_at hl 0 rfl) ?_
  refine va_get (D := D) (ci := 2) (v := .int v0.2.2.2.2.1) (C := R_Shape) (T := F_Shape) (N := 7) hx hb htB in_Shape hown hK hP 0 rfl rfl 4 (by decide) (htB _ b_32) (fun _ h9 => h9) rfl d_Shape_allowsExponent_8 ?_
  refine lv_if_ne (tgt := 18) hx hb d_Shape_allowsExponent_11 rfl (fun hc => ?_) (fun hc => ?_)
  · have h := (if_neg hc).symm.trans h
    exact w_Shape_allowsExponent_18 X ls H locs h (lv_sub hl [] rfl) hP hD hS
  have h := (if_pos hc).symm.trans h
  refine lv_iconst (v := 1) hx hb d_Shape_allowsExponent_14 (by decide) ?_
  refine lv_goto (tgt := 19) hx hb d_Shape_allowsExponent_15 rfl ?_
  exact w_Shape_allowsExponent_19 X (1 : Int32) ls H locs h (lv_sub hl [] rfl) hP hD hS

set_option maxHeartbeats 4000000 in
set_option maxRecDepth 100000 in
theorem c_Shape_allowsExponent (l : Launch) (D : va_G) (cC cI : ClassId) (sz : Nat) (a0_0 : Nat) (v0 : T_Shape) (out : O_Shape_allowsExponent) (h : f_Shape_allowsExponent v0 = some out) : Met l y_Shape_allowsExponent (.code y_Shape_allowsExponent b_Shape_allowsExponent 1 (some .boolean) :: BIG) rm_Shape_allowsExponent (va_Pc [.ref a0_0] (xPre D cC cI (wd_Shape_allowsExponent cC cI a0_0 v0) sz)) (q_Shape_allowsExponent D cC cI a0_0 v0 out (va_A (wd_Shape_allowsExponent cC cI a0_0 v0) sz)) 0 0 (va_A (wd_Shape_allowsExponent cC cI a0_0 v0) sz) := by
  refine Met.ofW (cc := b_Shape_allowsExponent) (maxL := 1) (ret := (some .boolean)) (by decide) rfl ?_
  intro p e s m args below meth c s₁ B hml hv
  obtain ⟨rfl, rfl, hP, hD0, hG, hZ⟩ := hv
  have hl := lv_entry [.ref a0_0] (n := 1) (Nat.le_of_ble_eq_true rfl)
  rw [lg_entry_eq]
  exact w_Shape_allowsExponent (x_cx B hml hG hZ) h hl hP hD0.self va_S.rf

abbrev wd_Pattern_complete (cC cI : ClassId) (a0_0 a0_1 a0_2 a0_3 a0_4 a0_5 a0_6 a0_7 a0_8 a0_9 a0_10 a0_11 a0_12 : Nat) (v0 : T_Pattern) : va_W := [(a0_0, .inr (4, [.ref a0_1, .ref a0_7, .int v0.2.2.1, .int v0.2.2.2])), (a0_1, .inr (3, [.ref a0_2, .ref a0_4, .ref a0_5])), (a0_2, .inr (1, [.ref a0_3, .int v0.1.1.2])), (a0_3, .inl (cI, 120, .inl v0.1.1.1)), (a0_4, .inr (2, [.int v0.1.2.1.1, .int v0.1.2.1.2.1, .int v0.1.2.1.2.2.1, .int v0.1.2.1.2.2.2.1, .int v0.1.2.1.2.2.2.2.1, .int v0.1.2.1.2.2.2.2.2.1, .int v0.1.2.1.2.2.2.2.2.2])), (a0_5, .inr (1, [.ref a0_6, .int v0.1.2.2.2])), (a0_6, .inl (cI, 120, .inl v0.1.2.2.1)), (a0_7, .inr (3, [.ref a0_8, .ref a0_10, .ref a0_11])), (a0_8, .inr (1, [.ref a0_9, .int v0.2.1.1.2])), (a0_9, .inl (cI, 120, .inl v0.2.1.1.1)), (a0_10, .inr (2, [.int v0.2.1.2.1.1, .int v0.2.1.2.1.2.1, .int v0.2.1.2.1.2.2.1, .int v0.2.1.2.1.2.2.2.1, .int v0.2.1.2.1.2.2.2.2.1, .int v0.2.1.2.1.2.2.2.2.2.1, .int v0.2.1.2.1.2.2.2.2.2.2])), (a0_11, .inr (1, [.ref a0_12, .int v0.2.1.2.2.2])), (a0_12, .inl (cI, 120, .inl v0.2.1.2.2.1))]
abbrev O_Pattern_complete : Type := T_Pattern
abbrev q_Pattern_complete (D : va_G) (cC cI : ClassId) (a0_0 a0_1 a0_2 a0_3 a0_4 a0_5 a0_6 a0_7 a0_8 a0_9 a0_10 a0_11 a0_12 : Nat)  (out : O_Pattern_complete) (A : Nat → Prop) : Array Value → State → Outcome → State → Prop := va_Qv (fun _ : Unit => True) (fun _ t => va_P D classes (wd_Pattern_complete cC cI a0_0 a0_1 a0_2 a0_3 a0_4 a0_5 a0_6 a0_7 a0_8 a0_9 a0_10 a0_11 a0_12 out) t.heap ∧ va_D A (wd_Pattern_complete cC cI a0_0 a0_1 a0_2 a0_3 a0_4 a0_5 a0_6 a0_7 a0_8 a0_9 a0_10 a0_11 a0_12 out)) A
abbrev rm_Pattern_complete : Room := { frames := 2, cells := 0, slots := 0, locals := 43 }
def J_Pattern_complete_27 (p : Program) (l : Launch) (e : Env) (s : State) (m : MethodId) (args : Array Value) (below : List Frame) (meth : Method) (c : Code) (A : Nat → Prop) (D : va_G) (cC cI : ClassId) (a0_0 a0_1 a0_2 a0_3 a0_4 a0_5 a0_6 a0_7 a0_8 a0_9 a0_10 a0_11 a0_12 : Nat) (out : O_Pattern_complete) (k : T_Pattern → Option O_Pattern_complete) : Prop := ∀ (v0 : T_Pattern) (ls : Array Slot) (H : Heap) (locs : List Loc), k v0 = some out → lv_has ls 1 [(0, .ref a0_0)] → va_P D classes (wd_Pattern_complete cC cI a0_0 a0_1 a0_2 a0_3 a0_4 a0_5 a0_6 a0_7 a0_8 a0_9 a0_10 a0_11 a0_12 v0) H → va_D A (wd_Pattern_complete cC cI a0_0 a0_1 a0_2 a0_3 a0_4 a0_5 a0_6 a0_7 a0_8 a0_9 a0_10 a0_11 a0_12 v0) → va_S A s.heap H locs → W p l e rm_Pattern_complete s m args below meth c H locs 0 0 (MQ below (q_Pattern_complete D cC cI a0_0 a0_1 a0_2 a0_3 a0_4 a0_5 a0_6 a0_7 a0_8 a0_9 a0_10 a0_11 a0_12 out A) args s 0 0 A) (F0 m 27 ls [.ref a0_0])
def J_Pattern_complete_32 (p : Program) (l : Launch) (e : Env) (s : State) (m : MethodId) (args : Array Value) (below : List Frame) (meth : Method) (c : Code) (A : Nat → Prop) (D : va_G) (cC cI : ClassId) (a0_0 a0_1 a0_2 a0_3 a0_4 a0_5 a0_6 a0_7 a0_8 a0_9 a0_10 a0_11 a0_12 : Nat) (out : O_Pattern_complete) (k : T_Pattern → Int32 → Option O_Pattern_complete) : Prop := ∀ (v0 : T_Pattern) (s1 : Int32) (ls : Array Slot) (H : Heap) (locs : List Loc), k v0 s1 = some out → lv_has ls 1 [(0, .ref a0_0)] → va_P D classes (wd_Pattern_complete cC cI a0_0 a0_1 a0_2 a0_3 a0_4 a0_5 a0_6 a0_7 a0_8 a0_9 a0_10 a0_11 a0_12 v0) H → va_D A (wd_Pattern_complete cC cI a0_0 a0_1 a0_2 a0_3 a0_4 a0_5 a0_6 a0_7 a0_8 a0_9 a0_10 a0_11 a0_12 v0) → va_S A s.heap H locs → W p l e rm_Pattern_complete s m args below meth c H locs 0 0 (MQ below (q_Pattern_complete D cC cI a0_0 a0_1 a0_2 a0_3 a0_4 a0_5 a0_6 a0_7 a0_8 a0_9 a0_10 a0_11 a0_12 out A) args s 0 0 A) (F0 m 32 ls [.int s1, .ref a0_0])
def J_Pattern_complete_108 (p : Program) (l : Launch) (e : Env) (s : State) (m : MethodId) (args : Array Value) (below : List Frame) (meth : Method) (c : Code) (A : Nat → Prop) (D : va_G) (cC cI : ClassId) (a0_0 a0_1 a0_2 a0_3 a0_4 a0_5 a0_6 a0_7 a0_8 a0_9 a0_10 a0_11 a0_12 : Nat) (out : O_Pattern_complete) (k : T_Pattern → Option O_Pattern_complete) : Prop := ∀ (v0 : T_Pattern) (ls : Array Slot) (H : Heap) (locs : List Loc), k v0 = some out → lv_has ls 1 [] → va_P D classes (wd_Pattern_complete cC cI a0_0 a0_1 a0_2 a0_3 a0_4 a0_5 a0_6 a0_7 a0_8 a0_9 a0_10 a0_11 a0_12 v0) H → va_D A (wd_Pattern_complete cC cI a0_0 a0_1 a0_2 a0_3 a0_4 a0_5 a0_6 a0_7 a0_8 a0_9 a0_10 a0_11 a0_12 v0) → va_S A s.heap H locs → W p l e rm_Pattern_complete s m args below meth c H locs 0 0 (MQ below (q_Pattern_complete D cC cI a0_0 a0_1 a0_2 a0_3 a0_4 a0_5 a0_6 a0_7 a0_8 a0_9 a0_10 a0_11 a0_12 out A) args s 0 0 A) (F0 m 108 ls [])
def f_Pattern_complete_108 (v0 : T_Pattern) : Option O_Pattern_complete := some v0
set_option maxHeartbeats 4000000 in
set_option maxRecDepth 100000 in
theorem w_Pattern_complete_108 {p : Program} {l : Launch} {e : Env} {s : State} {m : MethodId} {args : Array Value} {below : List Frame} {meth : Method} {c : Code} {A : Nat → Prop} {D : va_G} {cC cI : ClassId} {a0_0 a0_1 a0_2 a0_3 a0_4 a0_5 a0_6 a0_7 a0_8 a0_9 a0_10 a0_11 a0_12 : Nat} (X : xCX p s m args meth c A D cC cI b_Pattern_complete 1 R_Pattern none) {out : O_Pattern_complete}   : J_Pattern_complete_108 p l e s m args below meth c A D cC cI a0_0 a0_1 a0_2 a0_3 a0_4 a0_5 a0_6 a0_7 a0_8 a0_9 a0_10 a0_11 a0_12 out (f_Pattern_complete_108  ) := by
  obtain ⟨hx, hb, hml, hown, htB, ⟨hK, hN⟩, hZ, hA, hr, hlocks⟩ := id X
  intro v0 ls H locs h hl hP hD hS
  obtain rfl := Option.some.inj h
  exact W.vret hx hb hr (fun t ht hW => ⟨⟨(), rfl, trivial, by rw [ht]; exact hP, hD⟩, hS.F ht⟩) hS.2.2 d_Pattern_complete_108 hlocks

def f_Pattern_complete_32 (v0 : T_Pattern) (s1 : Int32) : Option O_Pattern_complete := if (s1 = 0 ∨ s1 = 1) then (if v0.2.2.1 = 0 then (f_Affix_clear v0.2.1.1).bind (fun o49 => (f_Affix_add o49 (45 : Int32)).bind (fun o61 => (f_Affix_addAll o61 v0.1.1).bind (fun o78 => (f_Affix_clear v0.2.1.2.2).bind (fun o88 => (f_Affix_addAll o88 v0.1.2.2).bind (fun o105 => f_Pattern_complete_108 (v0.1, (o78, v0.2.1.2.1, o105), v0.2.2.1, s1)))))) else f_Pattern_complete_108 (v0.1, v0.2.1, v0.2.2.1, s1)) else none
set_option maxHeartbeats 4000000 in
set_option maxRecDepth 100000 in
theorem w_Pattern_complete_32 {p : Program} {l : Launch} {e : Env} {s : State} {m : MethodId} {args : Array Value} {below : List Frame} {meth : Method} {c : Code} {A : Nat → Prop} {D : va_G} {cC cI : ClassId} {a0_0 a0_1 a0_2 a0_3 a0_4 a0_5 a0_6 a0_7 a0_8 a0_9 a0_10 a0_11 a0_12 : Nat} (X : xCX p s m args meth c A D cC cI b_Pattern_complete 1 R_Pattern none) {out : O_Pattern_complete}   : J_Pattern_complete_32 p l e s m args below meth c A D cC cI a0_0 a0_1 a0_2 a0_3 a0_4 a0_5 a0_6 a0_7 a0_8 a0_9 a0_10 a0_11 a0_12 out (f_Pattern_complete_32  ) := by
  obtain ⟨hx, hb, hml, hown, htB, ⟨hK, hN⟩, hZ, hA, hr, hlocks⟩ := id X
  intro v0 s1 ls H locs h hl hP hD hS
  obtain ⟨hc, h⟩ := x_chk h
  refine va_put (D := D) (ci := 4) (v := .int s1) (ty := .boolean) (C := R_Pattern) (T := F_Pattern) (N := 4) hx hb htB in_Pattern t_Pattern t_Pattern_ok n_Pattern hown hK hP hD hS 0 rfl rfl 3 (by decide) (htB _ b_39) (fun _ h9 => h9) rfl (by decide +kernel) (x_zn hc) (x_zf hc) (Nat.le_of_ble_eq_true rfl) d_Pattern_complete_32 (fun H locs hP hD hS => ?_)
  have hP : va_P D classes (wd_Pattern_complete cC cI a0_0 a0_1 a0_2 a0_3 a0_4 a0_5 a0_6 a0_7 a0_8 a0_9 a0_10 a0_11 a0_12 (v0.1, v0.2.1, v0.2.2.1, s1)) H := hP
  have hD : va_D A (wd_Pattern_complete cC cI a0_0 a0_1 a0_2 a0_3 a0_4 a0_5 a0_6 a0_7 a0_8 a0_9 a0_10 a0_11 a0_12 (v0.1, v0.2.1, v0.2.2.1, s1)) := hD
  refine lv_aload_n hx hb d_Pattern_complete_35 rfl (lv_at hl 0 rfl) ?_
  refine va_get (D := D) (ci := 4) (v := .int v0.2.2.1) (C := R_Pattern) (T := F_Pattern) (N := 4) hx hb htB in_Pattern hown hK hP 0 rfl rfl 2 (by decide) (htB _ b_40) (fun _ h9 => h9) rfl d_Pattern_complete_36 ?_
  refine lv_if_ne (tgt := 108) hx hb d_Pattern_complete_39 rfl (fun hc => ?_) (fun hc => ?_)
  · have h := (if_neg hc).symm.trans h
    exact w_Pattern_complete_108 X (v0.1, v0.2.1, v0.2.2.1, s1) ls H locs h (lv_sub hl [] rfl) hP hD hS
  have h := (if_pos hc).symm.trans h
  refine lv_aload_n hx hb d_Pattern_complete_42 rfl (lv_at hl 0 rfl) ?_
  refine va_get (D := D) (ci := 4) (v := .ref a0_7) (C := R_Pattern) (T := F_Pattern) (N := 4) hx hb htB in_Pattern hown hK hP 0 rfl rfl 1 (by decide) (htB _ b_41) (fun _ h9 => h9) rfl d_Pattern_complete_43 ?_
  refine va_getN (D := D) (ci := 3) (v := .ref a0_8) (C := R_Part) (T := F_Part) (N := 3) hx hb htB in_Part hown hK hP 7 rfl rfl 0 (by decide) (va_Nw.use rfl (hN _ n_2)) (fun _ h9 => h9) rfl d_Pattern_complete_46 ?_
  obtain ⟨o49, ho49, h⟩ := x_bnd h
  refine x_callv (ws2 := (wd_Pattern_complete cC cI a0_0 a0_1 a0_2 a0_3 a0_4 a0_5 a0_6 a0_7 a0_8 a0_9 a0_10 a0_11 a0_12 (v0.1, (o49, v0.2.1.2.1, v0.2.1.2.2), v0.2.2.1, s1))) (x_runVN (As := []) (rest := []) X (c_Affix_clear l D cC cI H.size a0_8 a0_9 v0.2.1.1 o49 ho49) b_42 0 (hN _ n_4) (htB _ b_43) (htB _ b_44) (htB _ b_9) ⟨by decide, by decide, by decide +kernel⟩ ⟨(Nat.le_of_ble_eq_true rfl), (Nat.le_of_ble_eq_true rfl)⟩ 8 rfl rfl hP hD hS [8, 9] rfl (by decide) rfl rfl hl.1 rfl rfl (Nat.le_of_ble_eq_true rfl) d_Pattern_complete_49) hP hD hS hA [8, 9] [0, 1, 2, 3, 4, 5, 6, 7, 10, 11, 12] [0, 1, 2, 3, 4, 5, 6, 7, 11, 12, 8, 9, 10] rfl rfl (by decide) (by decide) rfl (by decide) (fun H locs hP hD hS => ?_)
  refine lv_aload_n hx hb d_Pattern_complete_52 rfl (lv_at hl 0 rfl) ?_
  refine va_get (D := D) (ci := 4) (v := .ref a0_7) (C := R_Pattern) (T := F_Pattern) (N := 4) hx hb htB in_Pattern hown hK hP 0 rfl rfl 1 (by decide) (htB _ b_41) (fun _ h9 => h9) rfl d_Pattern_complete_53 ?_
  refine va_getN (D := D) (ci := 3) (v := .ref a0_8) (C := R_Part) (T := F_Part) (N := 3) hx hb htB in_Part hown hK hP 7 rfl rfl 0 (by decide) (va_Nw.use rfl (hN _ n_2)) (fun _ h9 => h9) rfl d_Pattern_complete_56 ?_
  refine lv_bipush (v := 45) hx hb d_Pattern_complete_59 (by decide) ?_
  obtain ⟨o61, ho61, h⟩ := x_bnd h
  refine x_callv (ws2 := (wd_Pattern_complete cC cI a0_0 a0_1 a0_2 a0_3 a0_4 a0_5 a0_6 a0_7 a0_8 a0_9 a0_10 a0_11 a0_12 (v0.1, (o61, v0.2.1.2.1, v0.2.1.2.2), v0.2.2.1, s1))) (x_runVN (As := [.int (45 : Int32)]) (rest := []) X (c_Affix_add l D cC cI H.size a0_8 a0_9 o49 (45 : Int32) o61 ho61) b_13 1 (hN _ n_5) (htB _ b_14) (htB _ b_15) (htB _ b_9) ⟨by decide, by decide, by decide +kernel⟩ ⟨(Nat.le_of_ble_eq_true rfl), (Nat.le_of_ble_eq_true rfl)⟩ 8 rfl rfl hP hD hS [8, 9] rfl (by decide) rfl rfl hl.1 rfl rfl (Nat.le_of_ble_eq_true rfl) d_Pattern_complete_61) hP hD hS hA [8, 9] [0, 1, 2, 3, 4, 5, 6, 7, 10, 11, 12] [0, 1, 2, 3, 4, 5, 6, 7, 11, 12, 8, 9, 10] rfl rfl (by decide) (by decide) rfl (by decide) (fun H locs hP hD hS => ?_)
  refine lv_aload_n hx hb d_Pattern_complete_64 rfl (lv_at hl 0 rfl) ?_
  refine va_get (D := D) (ci := 4) (v := .ref a0_7) (C := R_Pattern) (T := F_Pattern) (N := 4) hx hb htB in_Pattern hown hK hP 0 rfl rfl 1 (by decide) (htB _ b_41) (fun _ h9 => h9) rfl d_Pattern_complete_65 ?_
  refine va_getN (D := D) (ci := 3) (v := .ref a0_8) (C := R_Part) (T := F_Part) (N := 3) hx hb htB in_Part hown hK hP 7 rfl rfl 0 (by decide) (va_Nw.use rfl (hN _ n_2)) (fun _ h9 => h9) rfl d_Pattern_complete_68 ?_
  refine lv_aload_n hx hb d_Pattern_complete_71 rfl (lv_at hl 0 rfl) ?_
  refine va_get (D := D) (ci := 4) (v := .ref a0_1) (C := R_Pattern) (T := F_Pattern) (N := 4) hx hb htB in_Pattern hown hK hP 0 rfl rfl 0 (by decide) (htB _ b_35) (fun _ h9 => h9) rfl d_Pattern_complete_72 ?_
  refine va_getN (D := D) (ci := 3) (v := .ref a0_2) (C := R_Part) (T := F_Part) (N := 3) hx hb htB in_Part hown hK hP 1 rfl rfl 0 (by decide) (va_Nw.use rfl (hN _ n_2)) (fun _ h9 => h9) rfl d_Pattern_complete_75 ?_
  obtain ⟨o78, ho78, h⟩ := x_bnd h
  refine x_callv (ws2 := (wd_Pattern_complete cC cI a0_0 a0_1 a0_2 a0_3 a0_4 a0_5 a0_6 a0_7 a0_8 a0_9 a0_10 a0_11 a0_12 (v0.1, (o78, v0.2.1.2.1, v0.2.1.2.2), v0.2.2.1, s1))) (x_runVN (As := [.ref a0_2]) (rest := []) X (c_Affix_addAll l D cC cI H.size a0_8 a0_9 a0_2 a0_3 o61 v0.1.1 o78 ho78) b_45 1 (hN _ n_6) (htB _ b_46) (htB _ b_47) (htB _ b_9) ⟨by decide, by decide, by decide +kernel⟩ ⟨(Nat.le_of_ble_eq_true rfl), (Nat.le_of_ble_eq_true rfl)⟩ 8 rfl rfl hP hD hS [8, 9, 2, 3] rfl (by decide) rfl rfl hl.1 rfl rfl (Nat.le_of_ble_eq_true rfl) d_Pattern_complete_78) hP hD hS hA [8, 9, 2, 3] [0, 1, 4, 5, 6, 7, 10, 11, 12] [0, 1, 11, 12, 2, 3, 4, 5, 9, 10, 6, 7, 8] rfl rfl (by decide) (by decide) rfl (by decide) (fun H locs hP hD hS => ?_)
  refine lv_aload_n hx hb d_Pattern_complete_81 rfl (lv_at hl 0 rfl) ?_
  refine va_get (D := D) (ci := 4) (v := .ref a0_7) (C := R_Pattern) (T := F_Pattern) (N := 4) hx hb htB in_Pattern hown hK hP 0 rfl rfl 1 (by decide) (htB _ b_41) (fun _ h9 => h9) rfl d_Pattern_complete_82 ?_
  refine va_getN (D := D) (ci := 3) (v := .ref a0_11) (C := R_Part) (T := F_Part) (N := 3) hx hb htB in_Part hown hK hP 7 rfl rfl 2 (by decide) (va_Nw.use rfl (hN _ n_7)) (fun _ h9 => h9) rfl d_Pattern_complete_85 ?_
  obtain ⟨o88, ho88, h⟩ := x_bnd h
  refine x_callv (ws2 := (wd_Pattern_complete cC cI a0_0 a0_1 a0_2 a0_3 a0_4 a0_5 a0_6 a0_7 a0_8 a0_9 a0_10 a0_11 a0_12 (v0.1, (o78, v0.2.1.2.1, o88), v0.2.2.1, s1))) (x_runVN (As := []) (rest := []) X (c_Affix_clear l D cC cI H.size a0_11 a0_12 v0.2.1.2.2 o88 ho88) b_42 0 (hN _ n_4) (htB _ b_43) (htB _ b_44) (htB _ b_9) ⟨by decide, by decide, by decide +kernel⟩ ⟨(Nat.le_of_ble_eq_true rfl), (Nat.le_of_ble_eq_true rfl)⟩ 11 rfl rfl hP hD hS [11, 12] rfl (by decide) rfl rfl hl.1 rfl rfl (Nat.le_of_ble_eq_true rfl) d_Pattern_complete_88) hP hD hS hA [11, 12] [0, 1, 2, 3, 4, 5, 6, 7, 8, 9, 10] [0, 1, 2, 3, 4, 5, 6, 7, 8, 9, 10, 11, 12] rfl rfl (by decide) (by decide) rfl (by decide) (fun H locs hP hD hS => ?_)
  refine lv_aload_n hx hb d_Pattern_complete_91 rfl (lv_at hl 0 rfl) ?_
  refine va_get (D := D) (ci := 4) (v := .ref a0_7) (C := R_Pattern) (T := F_Pattern) (N := 4) hx hb htB in_Pattern hown hK hP 0 rfl rfl 1 (by decide) (htB _ b_41) (fun _ h9 => h9) rfl d_Pattern_complete_92 ?_
  refine va_getN (D := D) (ci := 3) (v := .ref a0_11) (C := R_Part) (T := F_Part) (N := 3) hx hb htB in_Part hown hK hP 7 rfl rfl 2 (by decide) (va_Nw.use rfl (hN _ n_7)) (fun _ h9 => h9) rfl d_Pattern_complete_95 ?_
  refine lv_aload_n hx hb d_Pattern_complete_98 rfl (lv_at hl 0 rfl) ?_
  refine va_get (D := D) (ci := 4) (v := .ref a0_1) (C := R_Pattern) (T := F_Pattern) (N := 4) hx hb htB in_Pattern hown hK hP 0 rfl rfl 0 (by decide) (htB _ b_35) (fun _ h9 => h9) rfl d_Pattern_complete_99 ?_
  refine va_getN (D := D) (ci := 3) (v := .ref a0_5) (C := R_Part) (T := F_Part) (N := 3) hx hb htB in_Part hown hK hP 1 rfl rfl 2 (by decide) (va_Nw.use rfl (hN _ n_7)) (fun _ h9 => h9) rfl d_Pattern_complete_102 ?_
  obtain ⟨o105, ho105, h⟩ := x_bnd h
  refine x_callv (ws2 := (wd_Pattern_complete cC cI a0_0 a0_1 a0_2 a0_3 a0_4 a0_5 a0_6 a0_7 a0_8 a0_9 a0_10 a0_11 a0_12 (v0.1, (o78, v0.2.1.2.1, o105), v0.2.2.1, s1))) (x_runVN (As := [.ref a0_5]) (rest := []) X (c_Affix_addAll l D cC cI H.size a0_11 a0_12 a0_5 a0_6 o88 v0.1.2.2 o105 ho105) b_45 1 (hN _ n_6) (htB _ b_46) (htB _ b_47) (htB _ b_9) ⟨by decide, by decide, by decide +kernel⟩ ⟨(Nat.le_of_ble_eq_true rfl), (Nat.le_of_ble_eq_true rfl)⟩ 11 rfl rfl hP hD hS [11, 12, 5, 6] rfl (by decide) rfl rfl hl.1 rfl rfl (Nat.le_of_ble_eq_true rfl) d_Pattern_complete_105) hP hD hS hA [11, 12, 5, 6] [0, 1, 2, 3, 4, 7, 8, 9, 10] [0, 1, 2, 3, 4, 11, 12, 5, 6, 7, 8, 9, 10] rfl rfl (by decide) (by decide) rfl (by decide) (fun H locs hP hD hS => ?_)
  exact w_Pattern_complete_108 X (v0.1, (o78, v0.2.1.2.1, o105), v0.2.2.1, s1) ls H locs h (lv_sub hl [] rfl) hP hD hS

def f_Pattern_complete_27 (v0 : T_Pattern) : Option O_Pattern_complete := f_Pattern_complete_32 v0 (1 : Int32)
set_option maxHeartbeats 4000000 in
set_option maxRecDepth 100000 in
theorem w_Pattern_complete_27 {p : Program} {l : Launch} {e : Env} {s : State} {m : MethodId} {args : Array Value} {below : List Frame} {meth : Method} {c : Code} {A : Nat → Prop} {D : va_G} {cC cI : ClassId} {a0_0 a0_1 a0_2 a0_3 a0_4 a0_5 a0_6 a0_7 a0_8 a0_9 a0_10 a0_11 a0_12 : Nat} (X : xCX p s m args meth c A D cC cI b_Pattern_complete 1 R_Pattern none) {out : O_Pattern_complete}   : J_Pattern_complete_27 p l e s m args below meth c A D cC cI a0_0 a0_1 a0_2 a0_3 a0_4 a0_5 a0_6 a0_7 a0_8 a0_9 a0_10 a0_11 a0_12 out (f_Pattern_complete_27  ) := by
  obtain ⟨hx, hb, hml, hown, htB, ⟨hK, hN⟩, hZ, hA, hr, hlocks⟩ := id X
  intro v0 ls H locs h hl hP hD hS
  refine lv_iconst (v := 1) hx hb d_Pattern_complete_27 (by decide) ?_
  refine lv_goto (tgt := 32) hx hb d_Pattern_complete_28 rfl ?_
  exact w_Pattern_complete_32 X v0 (1 : Int32) ls H locs h (lv_sub hl [0] rfl) hP hD hS

def f_Pattern_complete (v0 : T_Pattern) : Option O_Pattern_complete := (f_Affix_hasPercent v0.1.1).bind (fun o8 => (if o8 = 0 then (f_Affix_hasPercent v0.1.2.2).bind (fun o21 => (if o21 = 0 then f_Pattern_complete_32 v0 (0 : Int32) else f_Pattern_complete_27 v0)) else f_Pattern_complete_27 v0))
set_option maxHeartbeats 4000000 in
set_option maxRecDepth 100000 in
theorem w_Pattern_complete {p : Program} {l : Launch} {e : Env} {s : State} {m : MethodId} {args : Array Value} {below : List Frame} {meth : Method} {c : Code} {A : Nat → Prop} {D : va_G} {cC cI : ClassId} {a0_0 a0_1 a0_2 a0_3 a0_4 a0_5 a0_6 a0_7 a0_8 a0_9 a0_10 a0_11 a0_12 : Nat} (X : xCX p s m args meth c A D cC cI b_Pattern_complete 1 R_Pattern none) {out : O_Pattern_complete} (v0 : T_Pattern) {ls : Array Slot} {H : Heap} {locs : List Loc} (h : f_Pattern_complete v0 = some out) (hl : lv_has ls 1 [(0, .ref a0_0)]) (hP : va_P D classes (wd_Pattern_complete cC cI a0_0 a0_1 a0_2 a0_3 a0_4 a0_5 a0_6 a0_7 a0_8 a0_9 a0_10 a0_11 a0_12 v0) H) (hD : va_D A (wd_Pattern_complete cC cI a0_0 a0_1 a0_2 a0_3 a0_4 a0_5 a0_6 a0_7 a0_8 a0_9 a0_10 a0_11 a0_12 v0)) (hS : va_S A s.heap H locs) : W p l e rm_Pattern_complete s m args below meth c H locs 0 0 (MQ below (q_Pattern_complete D cC cI a0_0 a0_1 a0_2 a0_3 a0_4 a0_5 a0_6 a0_7 a0_8 a0_9 a0_10 a0_11 a0_12 out A) args s 0 0 A) (F0 m 0 ls []) := by
  obtain ⟨hx, hb, hml, hown, htB, ⟨hK, hN⟩, hZ, hA, hr, hlocks⟩ := id X
  refine lv_aload_n hx hb d_Pattern_complete_0 rfl (lv_at hl 0 rfl) ?_
  refine lv_aload_n hx hb d_Pattern_complete_1 rfl (lv_at hl 0 rfl) ?_
  refine va_get (D := D) (ci := 4) (v := .ref a0_1) (C := R_Pattern) (T := F_Pattern) (N := 4) hx hb htB in_Pattern hown hK hP 0 rfl rfl 0 (by decide) (htB _ b_35) (fun _ h9 => h9) rfl d_Pattern_complete_2 ?_
  refine va_getN (D := D) (ci := 3) (v := .ref a0_2) (C := R_Part) (T := F_Part) (N := 3) hx hb htB in_Part hown hK hP 1 rfl rfl 0 (by decide) (va_Nw.use rfl (hN _ n_2)) (fun _ h9 => h9) rfl d_Pattern_complete_5 ?_
  obtain ⟨o8, ho8, h⟩ := x_bnd h
  refine x_calli (r0 := o8) (ws2 := (wd_Pattern_complete cC cI a0_0 a0_1 a0_2 a0_3 a0_4 a0_5 a0_6 a0_7 a0_8 a0_9 a0_10 a0_11 a0_12 v0)) (x_runVN (As := []) (rest := [.ref a0_0]) X (c_Affix_hasPercent l D cC cI H.size a0_2 a0_3 v0.1.1 o8 ho8) b_36 0 (hN _ n_3) (htB _ b_37) (htB _ b_38) (htB _ b_9) ⟨by decide, by decide, by decide +kernel⟩ ⟨(Nat.le_of_ble_eq_true rfl), (Nat.le_of_ble_eq_true rfl)⟩ 2 rfl rfl hP hD hS [2, 3] rfl (by decide) rfl rfl hl.1 rfl rfl (Nat.le_of_ble_eq_true rfl) d_Pattern_complete_8) hP hD hS hA [2, 3] [0, 1, 4, 5, 6, 7, 8, 9, 10, 11, 12] [0, 1, 11, 12, 2, 3, 4, 5, 6, 7, 8, 9, 10] rfl rfl (by decide) (by decide) rfl (by decide) (fun H locs hP hD hS => ?_)
  refine lv_if_ne (tgt := 27) hx hb d_Pattern_complete_11 rfl (fun hc => ?_) (fun hc => ?_)
  · have h := (if_neg hc).symm.trans h
    exact w_Pattern_complete_27 X v0 ls H locs h (lv_sub hl [0] rfl) hP hD hS
  have h := (if_pos hc).symm.trans h
  refine lv_aload_n hx hb d_Pattern_complete_14 rfl (lv_at hl 0 rfl) ?_
  refine va_get (D := D) (ci := 4) (v := .ref a0_1) (C := R_Pattern) (T := F_Pattern) (N := 4) hx hb htB in_Pattern hown hK hP 0 rfl rfl 0 (by decide) (htB _ b_35) (fun _ h9 => h9) rfl d_Pattern_complete_15 ?_
  refine va_getN (D := D) (ci := 3) (v := .ref a0_5) (C := R_Part) (T := F_Part) (N := 3) hx hb htB in_Part hown hK hP 1 rfl rfl 2 (by decide) (va_Nw.use rfl (hN _ n_7)) (fun _ h9 => h9) rfl d_Pattern_complete_18 ?_
  obtain ⟨o21, ho21, h⟩ := x_bnd h
  refine x_calli (r0 := o21) (ws2 := (wd_Pattern_complete cC cI a0_0 a0_1 a0_2 a0_3 a0_4 a0_5 a0_6 a0_7 a0_8 a0_9 a0_10 a0_11 a0_12 v0)) (x_runVN (As := []) (rest := [.ref a0_0]) X (c_Affix_hasPercent l D cC cI H.size a0_5 a0_6 v0.1.2.2 o21 ho21) b_36 0 (hN _ n_3) (htB _ b_37) (htB _ b_38) (htB _ b_9) ⟨by decide, by decide, by decide +kernel⟩ ⟨(Nat.le_of_ble_eq_true rfl), (Nat.le_of_ble_eq_true rfl)⟩ 5 rfl rfl hP hD hS [5, 6] rfl (by decide) rfl rfl hl.1 rfl rfl (Nat.le_of_ble_eq_true rfl) d_Pattern_complete_21) hP hD hS hA [5, 6] [0, 1, 2, 3, 4, 7, 8, 9, 10, 11, 12] [0, 1, 2, 3, 4, 11, 12, 5, 6, 7, 8, 9, 10] rfl rfl (by decide) (by decide) rfl (by decide) (fun H locs hP hD hS => ?_)
  refine lv_if_eq (tgt := 31) hx hb d_Pattern_complete_24 rfl (fun hc => ?_) (fun hc => ?_)
  · have h := (if_pos hc).symm.trans h
    refine lv_iconst (v := 0) hx hb d_Pattern_complete_31 (by decide) ?_
    exact w_Pattern_complete_32 X v0 (0 : Int32) ls H locs h (lv_sub hl [0] rfl) hP hD hS
  have h := (if_neg hc).symm.trans h
  exact w_Pattern_complete_27 X v0 ls H locs h (lv_sub hl [0] rfl) hP hD hS

set_option maxHeartbeats 4000000 in
set_option maxRecDepth 100000 in
theorem c_Pattern_complete (l : Launch) (D : va_G) (cC cI : ClassId) (sz : Nat) (a0_0 a0_1 a0_2 a0_3 a0_4 a0_5 a0_6 a0_7 a0_8 a0_9 a0_10 a0_11 a0_12 : Nat) (v0 : T_Pattern) (out : O_Pattern_complete) (h : f_Pattern_complete v0 = some out) : Met l y_Pattern_complete (.code y_Pattern_complete b_Pattern_complete 1 none :: BIG) rm_Pattern_complete (va_Pc [.ref a0_0] (xPre D cC cI (wd_Pattern_complete cC cI a0_0 a0_1 a0_2 a0_3 a0_4 a0_5 a0_6 a0_7 a0_8 a0_9 a0_10 a0_11 a0_12 v0) sz)) (q_Pattern_complete D cC cI a0_0 a0_1 a0_2 a0_3 a0_4 a0_5 a0_6 a0_7 a0_8 a0_9 a0_10 a0_11 a0_12 out (va_A (wd_Pattern_complete cC cI a0_0 a0_1 a0_2 a0_3 a0_4 a0_5 a0_6 a0_7 a0_8 a0_9 a0_10 a0_11 a0_12 v0) sz)) 0 0 (va_A (wd_Pattern_complete cC cI a0_0 a0_1 a0_2 a0_3 a0_4 a0_5 a0_6 a0_7 a0_8 a0_9 a0_10 a0_11 a0_12 v0) sz) := by
  refine Met.ofW (cc := b_Pattern_complete) (maxL := 1) (ret := none) (by decide) rfl ?_
  intro p e s m args below meth c s₁ B hml hv
  obtain ⟨rfl, rfl, hP, hD0, hG, hZ⟩ := hv
  have hl := lv_entry [.ref a0_0] (n := 1) (Nat.le_of_ble_eq_true rfl)
  rw [lg_entry_eq]
  exact w_Pattern_complete (x_cx B hml hG hZ) v0 h hl hP hD0.self va_S.rf

