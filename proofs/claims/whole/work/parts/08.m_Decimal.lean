abbrev wd_Decimal_fractionCount (cC cI : ClassId) (a0_0 : Nat) (v0 : T_Decimal) : va_W := [(a0_0, .inr (7, [.int v0.1, .long v0.2.1, .int v0.2.2]))]
abbrev O_Decimal_fractionCount : Type := Int32
abbrev q_Decimal_fractionCount (D : va_G) (cC cI : ClassId) (a0_0 : Nat) (v0 : T_Decimal) (out : O_Decimal_fractionCount) (A : Nat → Prop) : Array Value → State → Outcome → State → Prop := va_Qi (fun r (_ : Unit) => r = out) (fun _ t => va_P D classes (wd_Decimal_fractionCount cC cI a0_0 v0) t.heap ∧ va_D A (wd_Decimal_fractionCount cC cI a0_0 v0)) A
abbrev rm_Decimal_fractionCount : Room := { frames := 2, cells := 0, slots := 0, locals := 41 }
def J_Decimal_fractionCount_18 (p : Program) (l : Launch) (e : Env) (s : State) (m : MethodId) (args : Array Value) (below : List Frame) (meth : Method) (c : Code) (A : Nat → Prop) (D : va_G) (cC cI : ClassId) (a0_0 : Nat) (v0 : T_Decimal) (out : O_Decimal_fractionCount) (k : Int32 → Int64 → Option O_Decimal_fractionCount) : Prop := ∀ (x1 : Int32) (x2 : Int64) (ls : Array Slot) (H : Heap) (locs : List Loc), k x1 x2 = some out → lv_has ls 4 [(1, .int x1), (2, .long x2)] → va_P D classes (wd_Decimal_fractionCount cC cI a0_0 v0) H → va_D A (wd_Decimal_fractionCount cC cI a0_0 v0) → va_S A s.heap H locs → W p l e rm_Decimal_fractionCount s m args below meth c H locs 0 0 (MQ below (q_Decimal_fractionCount D cC cI a0_0 v0 out A) args s 0 0 A) (F0 m 18 ls [])
def J_Decimal_fractionCount_44 (p : Program) (l : Launch) (e : Env) (s : State) (m : MethodId) (args : Array Value) (below : List Frame) (meth : Method) (c : Code) (A : Nat → Prop) (D : va_G) (cC cI : ClassId) (a0_0 : Nat) (v0 : T_Decimal) (out : O_Decimal_fractionCount) (k : Int32 → Option O_Decimal_fractionCount) : Prop := ∀ (x1 : Int32) (ls : Array Slot) (H : Heap) (locs : List Loc), k x1 = some out → lv_has ls 4 [(1, .int x1)] → va_P D classes (wd_Decimal_fractionCount cC cI a0_0 v0) H → va_D A (wd_Decimal_fractionCount cC cI a0_0 v0) → va_S A s.heap H locs → W p l e rm_Decimal_fractionCount s m args below meth c H locs 0 0 (MQ below (q_Decimal_fractionCount D cC cI a0_0 v0 out A) args s 0 0 A) (F0 m 44 ls [])
def f_Decimal_fractionCount_44 (v0 : T_Decimal) (x1 : Int32) : Option O_Decimal_fractionCount := some x1
set_option maxHeartbeats 4000000 in
set_option maxRecDepth 100000 in
theorem w_Decimal_fractionCount_44 {p : Program} {l : Launch} {e : Env} {s : State} {m : MethodId} {args : Array Value} {below : List Frame} {meth : Method} {c : Code} {A : Nat → Prop} {D : va_G} {cC cI : ClassId} {a0_0 : Nat} {v0 : T_Decimal} (X : xCX p s m args meth c A D cC cI b_Decimal_fractionCount 4 R_Decimal (some .int)) {out : O_Decimal_fractionCount}   : J_Decimal_fractionCount_44 p l e s m args below meth c A D cC cI a0_0 v0 out (f_Decimal_fractionCount_44 v0 ) := by
  obtain ⟨hx, hb, hml, hown, htB, ⟨hK, hN⟩, hZ, hA, hr, hlocks⟩ := id X
  intro x1 ls H locs h hl hP hD hS
  refine lv_iload_n hx hb d_Decimal_fractionCount_44 rfl (lv_at hl 0 rfl) ?_
  obtain rfl := Option.some.inj h
  exact W.iret (v := x1) hx hb hr (fun t ht hW => ⟨⟨x1, (), rfl, rfl, by rw [ht]; exact hP, hD⟩, hS.F ht⟩) hS.2.2 d_Decimal_fractionCount_45 hlocks

def f_Decimal_fractionCount_18 (v0 : T_Decimal)  : Nat → Int32 → Int64 → Option O_Decimal_fractionCount
  | 0, _, _ => none
  | n + 1, x1, x2 => (if x1 ≤ 0 then f_Decimal_fractionCount_44 v0 x1 else (if (lg_cmp (x2 - x2 / (10 : Int64) * (10 : Int64)) (0 : Int64)) = 0 then (f_Decimal_fractionCount_18 v0 n) (x1 + (-1 : Int32)) (x2 / (10 : Int64)) else f_Decimal_fractionCount_44 v0 x1))
set_option maxHeartbeats 4000000 in
set_option maxRecDepth 100000 in
theorem w_Decimal_fractionCount_18 {p : Program} {l : Launch} {e : Env} {s : State} {m : MethodId} {args : Array Value} {below : List Frame} {meth : Method} {c : Code} {A : Nat → Prop} {D : va_G} {cC cI : ClassId} {a0_0 : Nat} {v0 : T_Decimal} (X : xCX p s m args meth c A D cC cI b_Decimal_fractionCount 4 R_Decimal (some .int)) {out : O_Decimal_fractionCount}   : ∀ n : Nat, J_Decimal_fractionCount_18 p l e s m args below meth c A D cC cI a0_0 v0 out (f_Decimal_fractionCount_18 v0  n) := by
  obtain ⟨hx, hb, hml, hown, htB, ⟨hK, hN⟩, hZ, hA, hr, hlocks⟩ := id X
  intro n
  induction n with
  | zero =>
    intro x1 x2 ls H locs h hl hP hD hS
    cases h
  | succ n ih =>
    intro x1 x2 ls H locs h hl hP hD hS
    refine lv_iload_n hx hb d_Decimal_fractionCount_18 rfl (lv_at hl 0 rfl) ?_
    refine lv_if_le (tgt := 44) hx hb d_Decimal_fractionCount_19 rfl (fun hc => ?_) (fun hc => ?_)
    · have h := (if_pos hc).symm.trans h
      exact w_Decimal_fractionCount_44 X x1 ls H locs h (lv_sub hl [0] rfl) hP hD hS
    have h := (if_neg hc).symm.trans h
    refine lv_lload_n hx hb d_Decimal_fractionCount_22 rfl (lv_at hl 1 rfl) ?_
    refine lv_ldc2 (v := 10) hx hb hown (htB _ b_155) d_Decimal_fractionCount_23 ?_
    refine lv_lrem hx hb d_Decimal_fractionCount_26 (by decide) ?_
    refine lv_lconst (v := 0) hx hb d_Decimal_fractionCount_27 (by decide) ?_
    refine W.lcmp hx hb d_Decimal_fractionCount_28 ?_
    refine lv_if_ne (tgt := 44) hx hb d_Decimal_fractionCount_29 rfl (fun hc => ?_) (fun hc => ?_)
    · have h := (if_neg hc).symm.trans h
      exact w_Decimal_fractionCount_44 X x1 ls H locs h (lv_sub hl [0] rfl) hP hD hS
    have h := (if_pos hc).symm.trans h
    refine lv_lload_n hx hb d_Decimal_fractionCount_32 rfl (lv_at hl 1 rfl) ?_
    refine lv_ldc2 (v := 10) hx hb hown (htB _ b_155) d_Decimal_fractionCount_33 ?_
    refine lv_ldiv hx hb d_Decimal_fractionCount_36 (by decide) ?_
    refine lv_lstore_n (lv' := [(2, .long (x2 / (10 : Int64))), (1, .int x1)]) hx hb d_Decimal_fractionCount_37 rfl hl (by decide) rfl (fun ls hl => ?_)
    refine lv_iinc (k := 1) (v := (x1 + (-1 : Int32))) (lv' := [(1, .int (x1 + (-1 : Int32))), (2, .long (x2 / (10 : Int64)))]) hx hb d_Decimal_fractionCount_38 hl rfl (congrArg (fun z => x1 + z) (by decide : Int32.ofInt (-1) = (-1 : Int32))) (by decide) rfl (fun ls hl => ?_)
    refine lv_goto (tgt := 18) hx hb d_Decimal_fractionCount_41 rfl ?_
    exact ih (x1 + (-1 : Int32)) (x2 / (10 : Int64)) ls H locs h (lv_sub hl [0, 1] rfl) hP hD hS

def f_Decimal_fractionCount (v0 : T_Decimal) : Option O_Decimal_fractionCount := (f_Deci_tenTo v0.2.2).bind (fun o13 => if ¬ o13 = 0 then f_Decimal_fractionCount_18 v0 FU v0.2.2 (v0.2.1 - v0.2.1 / o13 * o13) else none)
set_option maxHeartbeats 4000000 in
set_option maxRecDepth 100000 in
theorem w_Decimal_fractionCount {p : Program} {l : Launch} {e : Env} {s : State} {m : MethodId} {args : Array Value} {below : List Frame} {meth : Method} {c : Code} {A : Nat → Prop} {D : va_G} {cC cI : ClassId} {a0_0 : Nat} {v0 : T_Decimal} (X : xCX p s m args meth c A D cC cI b_Decimal_fractionCount 4 R_Decimal (some .int)) {out : O_Decimal_fractionCount}  {ls : Array Slot} {H : Heap} {locs : List Loc} (h : f_Decimal_fractionCount v0 = some out) (hl : lv_has ls 4 [(0, .ref a0_0)]) (hP : va_P D classes (wd_Decimal_fractionCount cC cI a0_0 v0) H) (hD : va_D A (wd_Decimal_fractionCount cC cI a0_0 v0)) (hS : va_S A s.heap H locs) : W p l e rm_Decimal_fractionCount s m args below meth c H locs 0 0 (MQ below (q_Decimal_fractionCount D cC cI a0_0 v0 out A) args s 0 0 A) (F0 m 0 ls []) := by
  obtain ⟨hx, hb, hml, hown, htB, ⟨hK, hN⟩, hZ, hA, hr, hlocks⟩ := id X
  refine lv_aload_n hx hb d_Decimal_fractionCount_0 rfl (lv_at hl 0 rfl) ?_
  refine va_get (D := D) (ci := 7) (v := .int v0.2.2) (C := R_Decimal) (T := F_Decimal) (N := 3) hx hb htB in_Decimal hown hK hP 0 rfl rfl 2 (by decide) (htB _ b_137) (fun _ h9 => h9) rfl d_Decimal_fractionCount_1 ?_
  refine lv_istore_n (lv' := [(1, .int v0.2.2), (0, .ref a0_0)]) hx hb d_Decimal_fractionCount_4 rfl hl (by decide) rfl (fun ls hl => ?_)
  refine lv_aload_n hx hb d_Decimal_fractionCount_5 rfl (lv_at hl 1 rfl) ?_
  refine va_get (D := D) (ci := 7) (v := .long v0.2.1) (C := R_Decimal) (T := F_Decimal) (N := 3) hx hb htB in_Decimal hown hK hP 0 rfl rfl 1 (by decide) (htB _ b_136) (fun _ h9 => h9) rfl d_Decimal_fractionCount_6 ?_
  refine lv_aload_n hx hb d_Decimal_fractionCount_9 rfl (lv_at hl 1 rfl) ?_
  refine va_get (D := D) (ci := 7) (v := .int v0.2.2) (C := R_Decimal) (T := F_Decimal) (N := 3) hx hb htB in_Decimal hown hK hP 0 rfl rfl 2 (by decide) (htB _ b_137) (fun _ h9 => h9) rfl d_Decimal_fractionCount_10 ?_
  obtain ⟨o13, ho13, h⟩ := x_bnd h
  refine x_calll (r0 := o13) (ws2 := (wd_Decimal_fractionCount cC cI a0_0 v0)) (x_runSN (As := [.int v0.2.2]) (rest := [.long v0.2.1]) X (c_Deci_tenTo l D cC cI H.size v0.2.2 o13 ho13) b_143 1 (hN _ n_45) (htB _ b_144) (htB _ b_56) ⟨by decide, by decide, by decide +kernel⟩ ⟨(Nat.le_of_ble_eq_true rfl), (Nat.le_of_ble_eq_true rfl)⟩ hP hD hS [] rfl (by decide) rfl rfl hl.1 rfl rfl (Nat.le_of_ble_eq_true rfl) d_Decimal_fractionCount_13) hP hD hS hA [] [0] [0] rfl rfl (by decide) (by decide) rfl (by decide) (fun H locs hP hD hS => ?_)
  obtain ⟨hc, h⟩ := x_chk h
  refine lv_lrem hx hb d_Decimal_fractionCount_16 hc ?_
  refine lv_lstore_n (lv' := [(2, .long (v0.2.1 - v0.2.1 / o13 * o13)), (1, .int v0.2.2), (0, .ref a0_0)]) hx hb d_Decimal_fractionCount_17 rfl hl (by decide) rfl (fun ls hl => ?_)
  exact w_Decimal_fractionCount_18 X FU v0.2.2 (v0.2.1 - v0.2.1 / o13 * o13) ls H locs h (lv_sub hl [1, 0] rfl) hP hD hS

set_option maxHeartbeats 4000000 in
set_option maxRecDepth 100000 in
theorem c_Decimal_fractionCount (l : Launch) (D : va_G) (cC cI : ClassId) (sz : Nat) (a0_0 : Nat) (v0 : T_Decimal) (out : O_Decimal_fractionCount) (h : f_Decimal_fractionCount v0 = some out) : Met l y_Decimal_fractionCount (.code y_Decimal_fractionCount b_Decimal_fractionCount 4 (some .int) :: BIG) rm_Decimal_fractionCount (va_Pc [.ref a0_0] (xPre D cC cI (wd_Decimal_fractionCount cC cI a0_0 v0) sz)) (q_Decimal_fractionCount D cC cI a0_0 v0 out (va_A (wd_Decimal_fractionCount cC cI a0_0 v0) sz)) 0 0 (va_A (wd_Decimal_fractionCount cC cI a0_0 v0) sz) := by
  refine Met.ofW (cc := b_Decimal_fractionCount) (maxL := 4) (ret := (some .int)) (by decide) rfl ?_
  intro p e s m args below meth c s₁ B hml hv
  obtain ⟨rfl, rfl, hP, hD0, hG, hZ⟩ := hv
  have hl := lv_entry [.ref a0_0] (n := 4) (Nat.le_of_ble_eq_true rfl)
  rw [lg_entry_eq]
  exact w_Decimal_fractionCount (x_cx B hml hG hZ) h hl hP hD0.self va_S.rf

abbrev wd_Decimal_fractionDigit (cC cI : ClassId) (a0_0 : Nat) (v0 : T_Decimal) : va_W := [(a0_0, .inr (7, [.int v0.1, .long v0.2.1, .int v0.2.2]))]
abbrev O_Decimal_fractionDigit : Type := Int32
abbrev q_Decimal_fractionDigit (D : va_G) (cC cI : ClassId) (a0_0 : Nat) (v0 : T_Decimal) (out : O_Decimal_fractionDigit) (A : Nat → Prop) : Array Value → State → Outcome → State → Prop := va_Qi (fun r (_ : Unit) => r = out) (fun _ t => va_P D classes (wd_Decimal_fractionDigit cC cI a0_0 v0) t.heap ∧ va_D A (wd_Decimal_fractionDigit cC cI a0_0 v0)) A
abbrev rm_Decimal_fractionDigit : Room := { frames := 2, cells := 0, slots := 0, locals := 41 }
def J_Decimal_fractionDigit_33 (p : Program) (l : Launch) (e : Env) (s : State) (m : MethodId) (args : Array Value) (below : List Frame) (meth : Method) (c : Code) (A : Nat → Prop) (D : va_G) (cC cI : ClassId) (a0_0 : Nat) (v0 : T_Decimal) (out : O_Decimal_fractionDigit) (k : Int32 → Option O_Decimal_fractionDigit) : Prop := ∀ (s0 : Int32) (ls : Array Slot) (H : Heap) (locs : List Loc), k s0 = some out → lv_has ls 2 [] → va_P D classes (wd_Decimal_fractionDigit cC cI a0_0 v0) H → va_D A (wd_Decimal_fractionDigit cC cI a0_0 v0) → va_S A s.heap H locs → W p l e rm_Decimal_fractionDigit s m args below meth c H locs 0 0 (MQ below (q_Decimal_fractionDigit D cC cI a0_0 v0 out A) args s 0 0 A) (F0 m 33 ls [.int s0])
def f_Decimal_fractionDigit_33 (v0 : T_Decimal) (s0 : Int32) : Option O_Decimal_fractionDigit := some s0
set_option maxHeartbeats 4000000 in
set_option maxRecDepth 100000 in
theorem w_Decimal_fractionDigit_33 {p : Program} {l : Launch} {e : Env} {s : State} {m : MethodId} {args : Array Value} {below : List Frame} {meth : Method} {c : Code} {A : Nat → Prop} {D : va_G} {cC cI : ClassId} {a0_0 : Nat} {v0 : T_Decimal} (X : xCX p s m args meth c A D cC cI b_Decimal_fractionDigit 2 R_Decimal (some .int)) {out : O_Decimal_fractionDigit}   : J_Decimal_fractionDigit_33 p l e s m args below meth c A D cC cI a0_0 v0 out (f_Decimal_fractionDigit_33 v0 ) := by
  obtain ⟨hx, hb, hml, hown, htB, ⟨hK, hN⟩, hZ, hA, hr, hlocks⟩ := id X
  intro s0 ls H locs h hl hP hD hS
  obtain rfl := Option.some.inj h
  exact W.iret (v := s0) hx hb hr (fun t ht hW => ⟨⟨s0, (), rfl, rfl, by rw [ht]; exact hP, hD⟩, hS.F ht⟩) hS.2.2 d_Decimal_fractionDigit_33 hlocks

def f_Decimal_fractionDigit (v0 : T_Decimal) (v1 : Int32) : Option O_Decimal_fractionDigit := (if v0.2.2 ≤ v1 then f_Decimal_fractionDigit_33 v0 (0 : Int32) else (f_Deci_tenTo ((v0.2.2 - (1 : Int32)) - v1)).bind (fun o20 => if ¬ o20 = 0 then f_Decimal_fractionDigit_33 v0 (((v0.2.1 / o20) - (v0.2.1 / o20) / (10 : Int64) * (10 : Int64)).toInt32) else none))
set_option maxHeartbeats 4000000 in
set_option maxRecDepth 100000 in
theorem w_Decimal_fractionDigit {p : Program} {l : Launch} {e : Env} {s : State} {m : MethodId} {args : Array Value} {below : List Frame} {meth : Method} {c : Code} {A : Nat → Prop} {D : va_G} {cC cI : ClassId} {a0_0 : Nat} {v0 : T_Decimal} (X : xCX p s m args meth c A D cC cI b_Decimal_fractionDigit 2 R_Decimal (some .int)) {out : O_Decimal_fractionDigit} (v1 : Int32) {ls : Array Slot} {H : Heap} {locs : List Loc} (h : f_Decimal_fractionDigit v0 v1 = some out) (hl : lv_has ls 2 [(0, .ref a0_0), (1, .int v1)]) (hP : va_P D classes (wd_Decimal_fractionDigit cC cI a0_0 v0) H) (hD : va_D A (wd_Decimal_fractionDigit cC cI a0_0 v0)) (hS : va_S A s.heap H locs) : W p l e rm_Decimal_fractionDigit s m args below meth c H locs 0 0 (MQ below (q_Decimal_fractionDigit D cC cI a0_0 v0 out A) args s 0 0 A) (F0 m 0 ls []) := by
  obtain ⟨hx, hb, hml, hown, htB, ⟨hK, hN⟩, hZ, hA, hr, hlocks⟩ := id X
  refine lv_iload_n hx hb d_Decimal_fractionDigit_0 rfl (lv_at hl 1 rfl) ?_
  refine lv_aload_n hx hb d_Decimal_fractionDigit_1 rfl (lv_at hl 0 rfl) ?_
  refine va_get (D := D) (ci := 7) (v := .int v0.2.2) (C := R_Decimal) (T := F_Decimal) (N := 3) hx hb htB in_Decimal hown hK hP 0 rfl rfl 2 (by decide) (htB _ b_137) (fun _ h9 => h9) rfl d_Decimal_fractionDigit_2 ?_
  refine lv_icmp_ge (tgt := 32) hx hb d_Decimal_fractionDigit_5 rfl (fun hc => ?_) (fun hc => ?_)
  · have h := (if_pos hc).symm.trans h
    refine lv_iconst (v := 0) hx hb d_Decimal_fractionDigit_32 (by decide) ?_
    exact w_Decimal_fractionDigit_33 X (0 : Int32) ls H locs h (lv_sub hl [] rfl) hP hD hS
  have h := (if_neg hc).symm.trans h
  refine lv_aload_n hx hb d_Decimal_fractionDigit_8 rfl (lv_at hl 0 rfl) ?_
  refine va_get (D := D) (ci := 7) (v := .long v0.2.1) (C := R_Decimal) (T := F_Decimal) (N := 3) hx hb htB in_Decimal hown hK hP 0 rfl rfl 1 (by decide) (htB _ b_136) (fun _ h9 => h9) rfl d_Decimal_fractionDigit_9 ?_
  refine lv_aload_n hx hb d_Decimal_fractionDigit_12 rfl (lv_at hl 0 rfl) ?_
  refine va_get (D := D) (ci := 7) (v := .int v0.2.2) (C := R_Decimal) (T := F_Decimal) (N := 3) hx hb htB in_Decimal hown hK hP 0 rfl rfl 2 (by decide) (htB _ b_137) (fun _ h9 => h9) rfl d_Decimal_fractionDigit_13 ?_
  refine lv_iconst (v := 1) hx hb d_Decimal_fractionDigit_16 (by decide) ?_
  refine lv_isub hx hb d_Decimal_fractionDigit_17 ?_
  refine lv_iload_n hx hb d_Decimal_fractionDigit_18 rfl (lv_at hl 1 rfl) ?_
  refine lv_isub hx hb d_Decimal_fractionDigit_19 ?_
  obtain ⟨o20, ho20, h⟩ := x_bnd h
  refine x_calll (r0 := o20) (ws2 := (wd_Decimal_fractionDigit cC cI a0_0 v0)) (x_runSN (As := [.int ((v0.2.2 - (1 : Int32)) - v1)]) (rest := [.long v0.2.1]) X (c_Deci_tenTo l D cC cI H.size ((v0.2.2 - (1 : Int32)) - v1) o20 ho20) b_143 1 (hN _ n_45) (htB _ b_144) (htB _ b_56) ⟨by decide, by decide, by decide +kernel⟩ ⟨(Nat.le_of_ble_eq_true rfl), (Nat.le_of_ble_eq_true rfl)⟩ hP hD hS [] rfl (by decide) rfl rfl hl.1 rfl rfl (Nat.le_of_ble_eq_true rfl) d_Decimal_fractionDigit_20) hP hD hS hA [] [0] [0] rfl rfl (by decide) (by decide) rfl (by decide) (fun H locs hP hD hS => ?_)
  obtain ⟨hc, h⟩ := x_chk h
  refine lv_ldiv hx hb d_Decimal_fractionDigit_23 hc ?_
  refine lv_ldc2 (v := 10) hx hb hown (htB _ b_155) d_Decimal_fractionDigit_24 ?_
  refine lv_lrem hx hb d_Decimal_fractionDigit_27 (by decide) ?_
  refine lv_l2i hx hb d_Decimal_fractionDigit_28 rfl ?_
  refine lv_goto (tgt := 33) hx hb d_Decimal_fractionDigit_29 rfl ?_
  exact w_Decimal_fractionDigit_33 X (((v0.2.1 / o20) - (v0.2.1 / o20) / (10 : Int64) * (10 : Int64)).toInt32) ls H locs h (lv_sub hl [] rfl) hP hD hS

set_option maxHeartbeats 4000000 in
set_option maxRecDepth 100000 in
theorem c_Decimal_fractionDigit (l : Launch) (D : va_G) (cC cI : ClassId) (sz : Nat) (a0_0 : Nat) (v0 : T_Decimal) (v1 : Int32) (out : O_Decimal_fractionDigit) (h : f_Decimal_fractionDigit v0 v1 = some out) : Met l y_Decimal_fractionDigit (.code y_Decimal_fractionDigit b_Decimal_fractionDigit 2 (some .int) :: BIG) rm_Decimal_fractionDigit (va_Pc [.ref a0_0, .int v1] (xPre D cC cI (wd_Decimal_fractionDigit cC cI a0_0 v0) sz)) (q_Decimal_fractionDigit D cC cI a0_0 v0 out (va_A (wd_Decimal_fractionDigit cC cI a0_0 v0) sz)) 0 0 (va_A (wd_Decimal_fractionDigit cC cI a0_0 v0) sz) := by
  refine Met.ofW (cc := b_Decimal_fractionDigit) (maxL := 2) (ret := (some .int)) (by decide) rfl ?_
  intro p e s m args below meth c s₁ B hml hv
  obtain ⟨rfl, rfl, hP, hD0, hG, hZ⟩ := hv
  have hl := lv_entry [.ref a0_0, .int v1] (n := 2) (Nat.le_of_ble_eq_true rfl)
  rw [lg_entry_eq]
  exact w_Decimal_fractionDigit (x_cx B hml hG hZ) v1 h hl hP hD0.self va_S.rf

abbrev wd_NumberWriter_forgetFields (cC cI : ClassId) (a0_0 a0_1 a0_2 : Nat) (v0 : T_NumberWriter) : va_W := [(a0_0, .inr (8, [.ref a0_1, .int v0.2.1, .ref a0_2, .int v0.2.2.2])), (a0_1, .inr (7, [.int v0.1.1, .long v0.1.2.1, .int v0.1.2.2])), (a0_2, .inl (cI, 6, .inl v0.2.2.1))]
abbrev O_NumberWriter_forgetFields : Type := T_NumberWriter
abbrev q_NumberWriter_forgetFields (D : va_G) (cC cI : ClassId) (a0_0 a0_1 a0_2 : Nat)  (out : O_NumberWriter_forgetFields) (A : Nat → Prop) : Array Value → State → Outcome → State → Prop := va_Qv (fun _ : Unit => True) (fun _ t => va_P D classes (wd_NumberWriter_forgetFields cC cI a0_0 a0_1 a0_2 out) t.heap ∧ va_D A (wd_NumberWriter_forgetFields cC cI a0_0 a0_1 a0_2 out)) A
abbrev rm_NumberWriter_forgetFields : Room := { frames := 0, cells := 0, slots := 0, locals := 0 }
def f_NumberWriter_forgetFields (v0 : T_NumberWriter) : Option O_NumberWriter_forgetFields := some (v0.1, v0.2.1, v0.2.2.1, (0 : Int32))
set_option maxHeartbeats 4000000 in
set_option maxRecDepth 100000 in
theorem w_NumberWriter_forgetFields {p : Program} {l : Launch} {e : Env} {s : State} {m : MethodId} {args : Array Value} {below : List Frame} {meth : Method} {c : Code} {A : Nat → Prop} {D : va_G} {cC cI : ClassId} {a0_0 a0_1 a0_2 : Nat} (X : xCX p s m args meth c A D cC cI b_NumberWriter_forgetFields 1 R_NumberWriter none) {out : O_NumberWriter_forgetFields} (v0 : T_NumberWriter) {ls : Array Slot} {H : Heap} {locs : List Loc} (h : f_NumberWriter_forgetFields v0 = some out) (hl : lv_has ls 1 [(0, .ref a0_0)]) (hP : va_P D classes (wd_NumberWriter_forgetFields cC cI a0_0 a0_1 a0_2 v0) H) (hD : va_D A (wd_NumberWriter_forgetFields cC cI a0_0 a0_1 a0_2 v0)) (hS : va_S A s.heap H locs) : W p l e rm_NumberWriter_forgetFields s m args below meth c H locs 0 0 (MQ below (q_NumberWriter_forgetFields D cC cI a0_0 a0_1 a0_2 out A) args s 0 0 A) (F0 m 0 ls []) := by
  obtain ⟨hx, hb, hml, hown, htB, ⟨hK, hN⟩, hZ, hA, hr, hlocks⟩ := id X
  refine lv_aload_n hx hb d_NumberWriter_forgetFields_0 rfl (lv_at hl 0 rfl) ?_
  refine lv_iconst (v := 0) hx hb d_NumberWriter_forgetFields_1 (by decide) ?_
  refine va_put (D := D) (ci := 8) (v := .int (0 : Int32)) (ty := .boolean) (C := R_NumberWriter) (T := F_NumberWriter) (N := 4) hx hb htB in_NumberWriter t_NumberWriter t_NumberWriter_ok n_NumberWriter hown hK hP hD hS 0 rfl rfl 3 (by decide) (htB _ b_156) (fun _ h9 => h9) rfl (by decide +kernel) rfl rfl (Nat.le_of_ble_eq_true rfl) d_NumberWriter_forgetFields_2 (fun H locs hP hD hS => ?_)
  have hP : va_P D classes (wd_NumberWriter_forgetFields cC cI a0_0 a0_1 a0_2 (v0.1, v0.2.1, v0.2.2.1, (0 : Int32))) H := hP
  have hD : va_D A (wd_NumberWriter_forgetFields cC cI a0_0 a0_1 a0_2 (v0.1, v0.2.1, v0.2.2.1, (0 : Int32))) := hD
  obtain rfl := Option.some.inj h
  exact W.vret hx hb hr (fun t ht hW => ⟨⟨(), rfl, trivial, by rw [ht]; exact hP, hD⟩, hS.F ht⟩) hS.2.2 d_NumberWriter_forgetFields_5 hlocks

set_option maxHeartbeats 4000000 in
set_option maxRecDepth 100000 in
theorem c_NumberWriter_forgetFields (l : Launch) (D : va_G) (cC cI : ClassId) (sz : Nat) (a0_0 a0_1 a0_2 : Nat) (v0 : T_NumberWriter) (out : O_NumberWriter_forgetFields) (h : f_NumberWriter_forgetFields v0 = some out) : Met l y_NumberWriter_forgetFields (.code y_NumberWriter_forgetFields b_NumberWriter_forgetFields 1 none :: BIG) rm_NumberWriter_forgetFields (va_Pc [.ref a0_0] (xPre D cC cI (wd_NumberWriter_forgetFields cC cI a0_0 a0_1 a0_2 v0) sz)) (q_NumberWriter_forgetFields D cC cI a0_0 a0_1 a0_2 out (va_A (wd_NumberWriter_forgetFields cC cI a0_0 a0_1 a0_2 v0) sz)) 0 0 (va_A (wd_NumberWriter_forgetFields cC cI a0_0 a0_1 a0_2 v0) sz) := by
  refine Met.ofW (cc := b_NumberWriter_forgetFields) (maxL := 1) (ret := none) (by decide) rfl ?_
  intro p e s m args below meth c s₁ B hml hv
  obtain ⟨rfl, rfl, hP, hD0, hG, hZ⟩ := hv
  have hl := lv_entry [.ref a0_0] (n := 1) (Nat.le_of_ble_eq_true rfl)
  rw [lg_entry_eq]
  exact w_NumberWriter_forgetFields (x_cx B hml hG hZ) v0 h hl hP hD0.self va_S.rf

abbrev wd_NumberWriter_fieldEdge (cC cI : ClassId) (a0_0 a0_1 a0_2 : Nat) (v0 : T_NumberWriter) : va_W := [(a0_0, .inr (8, [.ref a0_1, .int v0.2.1, .ref a0_2, .int v0.2.2.2])), (a0_1, .inr (7, [.int v0.1.1, .long v0.1.2.1, .int v0.1.2.2])), (a0_2, .inl (cI, 6, .inl v0.2.2.1))]
abbrev O_NumberWriter_fieldEdge : Type := Int32
abbrev q_NumberWriter_fieldEdge (D : va_G) (cC cI : ClassId) (a0_0 a0_1 a0_2 : Nat) (v0 : T_NumberWriter) (out : O_NumberWriter_fieldEdge) (A : Nat → Prop) : Array Value → State → Outcome → State → Prop := va_Qi (fun r (_ : Unit) => r = out) (fun _ t => va_P D classes (wd_NumberWriter_fieldEdge cC cI a0_0 a0_1 a0_2 v0) t.heap ∧ va_D A (wd_NumberWriter_fieldEdge cC cI a0_0 a0_1 a0_2 v0)) A
abbrev rm_NumberWriter_fieldEdge : Room := { frames := 0, cells := 0, slots := 0, locals := 0 }
def J_NumberWriter_fieldEdge_16 (p : Program) (l : Launch) (e : Env) (s : State) (m : MethodId) (args : Array Value) (below : List Frame) (meth : Method) (c : Code) (A : Nat → Prop) (D : va_G) (cC cI : ClassId) (a0_0 a0_1 a0_2 : Nat) (v0 : T_NumberWriter) (out : O_NumberWriter_fieldEdge) (k : Option O_NumberWriter_fieldEdge) : Prop := ∀  (ls : Array Slot) (H : Heap) (locs : List Loc), k  = some out → lv_has ls 3 [] → va_P D classes (wd_NumberWriter_fieldEdge cC cI a0_0 a0_1 a0_2 v0) H → va_D A (wd_NumberWriter_fieldEdge cC cI a0_0 a0_1 a0_2 v0) → va_S A s.heap H locs → W p l e rm_NumberWriter_fieldEdge s m args below meth c H locs 0 0 (MQ below (q_NumberWriter_fieldEdge D cC cI a0_0 a0_1 a0_2 v0 out A) args s 0 0 A) (F0 m 16 ls [])
def f_NumberWriter_fieldEdge_16 (v0 : T_NumberWriter) : Option O_NumberWriter_fieldEdge := some (-1 : Int32)
set_option maxHeartbeats 4000000 in
set_option maxRecDepth 100000 in
theorem w_NumberWriter_fieldEdge_16 {p : Program} {l : Launch} {e : Env} {s : State} {m : MethodId} {args : Array Value} {below : List Frame} {meth : Method} {c : Code} {A : Nat → Prop} {D : va_G} {cC cI : ClassId} {a0_0 a0_1 a0_2 : Nat} {v0 : T_NumberWriter} (X : xCX p s m args meth c A D cC cI b_NumberWriter_fieldEdge 3 R_NumberWriter (some .int)) {out : O_NumberWriter_fieldEdge}   : J_NumberWriter_fieldEdge_16 p l e s m args below meth c A D cC cI a0_0 a0_1 a0_2 v0 out (f_NumberWriter_fieldEdge_16 v0 ) := by
  obtain ⟨hx, hb, hml, hown, htB, ⟨hK, hN⟩, hZ, hA, hr, hlocks⟩ := id X
  intro  ls H locs h hl hP hD hS
  refine lv_iconst (v := -1) hx hb d_NumberWriter_fieldEdge_16 (by decide) ?_
  obtain rfl := Option.some.inj h
  exact W.iret (v := (-1 : Int32)) hx hb hr (fun t ht hW => ⟨⟨(-1 : Int32), (), rfl, rfl, by rw [ht]; exact hP, hD⟩, hS.F ht⟩) hS.2.2 d_NumberWriter_fieldEdge_17 hlocks

def J_NumberWriter_fieldEdge_37 (p : Program) (l : Launch) (e : Env) (s : State) (m : MethodId) (args : Array Value) (below : List Frame) (meth : Method) (c : Code) (A : Nat → Prop) (D : va_G) (cC cI : ClassId) (a0_0 a0_1 a0_2 : Nat) (v0 : T_NumberWriter) (out : O_NumberWriter_fieldEdge) (k : Int32 → Option O_NumberWriter_fieldEdge) : Prop := ∀ (s1 : Int32) (ls : Array Slot) (H : Heap) (locs : List Loc), k s1 = some out → lv_has ls 3 [] → va_P D classes (wd_NumberWriter_fieldEdge cC cI a0_0 a0_1 a0_2 v0) H → va_D A (wd_NumberWriter_fieldEdge cC cI a0_0 a0_1 a0_2 v0) → va_S A s.heap H locs → W p l e rm_NumberWriter_fieldEdge s m args below meth c H locs 0 0 (MQ below (q_NumberWriter_fieldEdge D cC cI a0_0 a0_1 a0_2 v0 out A) args s 0 0 A) (F0 m 37 ls [.int s1, .ref a0_2])
def f_NumberWriter_fieldEdge_37 (v0 : T_NumberWriter) (s1 : Int32) : Option O_NumberWriter_fieldEdge := if ix s1 6 then some (v0.2.2.1 s1.toNatClampNeg) else none
set_option maxHeartbeats 4000000 in
set_option maxRecDepth 100000 in
theorem w_NumberWriter_fieldEdge_37 {p : Program} {l : Launch} {e : Env} {s : State} {m : MethodId} {args : Array Value} {below : List Frame} {meth : Method} {c : Code} {A : Nat → Prop} {D : va_G} {cC cI : ClassId} {a0_0 a0_1 a0_2 : Nat} {v0 : T_NumberWriter} (X : xCX p s m args meth c A D cC cI b_NumberWriter_fieldEdge 3 R_NumberWriter (some .int)) {out : O_NumberWriter_fieldEdge}   : J_NumberWriter_fieldEdge_37 p l e s m args below meth c A D cC cI a0_0 a0_1 a0_2 v0 out (f_NumberWriter_fieldEdge_37 v0 ) := by
  obtain ⟨hx, hb, hml, hown, htB, ⟨hK, hN⟩, hZ, hA, hr, hlocks⟩ := id X
  intro s1 ls H locs h hl hP hD hS
  obtain ⟨hc, h⟩ := x_chk h
  refine va_iald hx hb hK hP 2 1 rfl rfl hc d_NumberWriter_fieldEdge_37 ?_
  obtain rfl := Option.some.inj h
  exact W.iret (v := (v0.2.2.1 s1.toNatClampNeg)) hx hb hr (fun t ht hW => ⟨⟨(v0.2.2.1 s1.toNatClampNeg), (), rfl, rfl, by rw [ht]; exact hP, hD⟩, hS.F ht⟩) hS.2.2 d_NumberWriter_fieldEdge_38 hlocks

def f_NumberWriter_fieldEdge (v0 : T_NumberWriter) (v1 : Int32) (v2 : Int32) : Option O_NumberWriter_fieldEdge := (if v0.2.2.2 = 0 then f_NumberWriter_fieldEdge_16 v0 else (if v1 < 0 then f_NumberWriter_fieldEdge_16 v0 else (if v1 ≤ (2 : Int32) then (if v2 = 0 then f_NumberWriter_fieldEdge_37 v0 ((2 : Int32) * v1) else f_NumberWriter_fieldEdge_37 v0 (((2 : Int32) * v1) + (1 : Int32))) else f_NumberWriter_fieldEdge_16 v0)))
set_option maxHeartbeats 4000000 in
set_option maxRecDepth 100000 in
theorem w_NumberWriter_fieldEdge {p : Program} {l : Launch} {e : Env} {s : State} {m : MethodId} {args : Array Value} {below : List Frame} {meth : Method} {c : Code} {A : Nat → Prop} {D : va_G} {cC cI : ClassId} {a0_0 a0_1 a0_2 : Nat} {v0 : T_NumberWriter} (X : xCX p s m args meth c A D cC cI b_NumberWriter_fieldEdge 3 R_NumberWriter (some .int)) {out : O_NumberWriter_fieldEdge} (v1 : Int32) (v2 : Int32) {ls : Array Slot} {H : Heap} {locs : List Loc} (h : f_NumberWriter_fieldEdge v0 v1 v2 = some out) (hl : lv_has ls 3 [(0, .ref a0_0), (1, .int v1), (2, .int v2)]) (hP : va_P D classes (wd_NumberWriter_fieldEdge cC cI a0_0 a0_1 a0_2 v0) H) (hD : va_D A (wd_NumberWriter_fieldEdge cC cI a0_0 a0_1 a0_2 v0)) (hS : va_S A s.heap H locs) : W p l e rm_NumberWriter_fieldEdge s m args below meth c H locs 0 0 (MQ below (q_NumberWriter_fieldEdge D cC cI a0_0 a0_1 a0_2 v0 out A) args s 0 0 A) (F0 m 0 ls []) := by
  obtain ⟨hx, hb, hml, hown, htB, ⟨hK, hN⟩, hZ, hA, hr, hlocks⟩ := id X
  refine lv_aload_n hx hb d_NumberWriter_fieldEdge_0 rfl (lv_at hl 0 rfl) ?_
  refine va_get (D := D) (ci := 8) (v := .int v0.2.2.2) (C := R_NumberWriter) (T := F_NumberWriter) (N := 4) hx hb htB in_NumberWriter hown hK hP 0 rfl rfl 3 (by decide) (htB _ b_156) (fun _ h9 => h9) rfl d_NumberWriter_fieldEdge_1 ?_
  refine lv_if_eq (tgt := 16) hx hb d_NumberWriter_fieldEdge_4 rfl (fun hc => ?_) (fun hc => ?_)
  · have h := (if_pos hc).symm.trans h
    exact w_NumberWriter_fieldEdge_16 X ls H locs h (lv_sub hl [] rfl) hP hD hS
  have h := (if_neg hc).symm.trans h
  refine lv_iload_n hx hb d_NumberWriter_fieldEdge_7 rfl (lv_at hl 1 rfl) ?_
  refine lv_if_lt (tgt := 16) hx hb d_NumberWriter_fieldEdge_8 rfl (fun hc => ?_) (fun hc => ?_)
  · have h := (if_pos hc).symm.trans h
    exact w_NumberWriter_fieldEdge_16 X ls H locs h (lv_sub hl [] rfl) hP hD hS
  have h := (if_neg hc).symm.trans h
  refine lv_iload_n hx hb d_NumberWriter_fieldEdge_11 rfl (lv_at hl 1 rfl) ?_
  refine lv_iconst (v := 2) hx hb d_NumberWriter_fieldEdge_12 (by decide) ?_
  refine lv_icmp_le (tgt := 18) hx hb d_NumberWriter_fieldEdge_13 rfl (fun hc => ?_) (fun hc => ?_)
  · have h := (if_pos hc).symm.trans h
    refine lv_aload_n hx hb d_NumberWriter_fieldEdge_18 rfl (lv_at hl 0 rfl) ?_
    refine va_get (D := D) (ci := 8) (v := .ref a0_2) (C := R_NumberWriter) (T := F_NumberWriter) (N := 4) hx hb htB in_NumberWriter hown hK hP 0 rfl rfl 2 (by decide) (htB _ b_157) (fun _ h9 => h9) rfl d_NumberWriter_fieldEdge_19 ?_
    refine lv_iload_n hx hb d_NumberWriter_fieldEdge_22 rfl (lv_at hl 2 rfl) ?_
    refine lv_if_eq (tgt := 34) hx hb d_NumberWriter_fieldEdge_23 rfl (fun hc => ?_) (fun hc => ?_)
    · have h := (if_pos hc).symm.trans h
      refine lv_iconst (v := 2) hx hb d_NumberWriter_fieldEdge_34 (by decide) ?_
      refine lv_iload_n hx hb d_NumberWriter_fieldEdge_35 rfl (lv_at hl 1 rfl) ?_
      refine lv_imul hx hb d_NumberWriter_fieldEdge_36 ?_
      exact w_NumberWriter_fieldEdge_37 X ((2 : Int32) * v1) ls H locs h (lv_sub hl [] rfl) hP hD hS
    have h := (if_neg hc).symm.trans h
    refine lv_iconst (v := 2) hx hb d_NumberWriter_fieldEdge_26 (by decide) ?_
    refine lv_iload_n hx hb d_NumberWriter_fieldEdge_27 rfl (lv_at hl 1 rfl) ?_
    refine lv_imul hx hb d_NumberWriter_fieldEdge_28 ?_
    refine lv_iconst (v := 1) hx hb d_NumberWriter_fieldEdge_29 (by decide) ?_
    refine lv_iadd hx hb d_NumberWriter_fieldEdge_30 ?_
    refine lv_goto (tgt := 37) hx hb d_NumberWriter_fieldEdge_31 rfl ?_
    exact w_NumberWriter_fieldEdge_37 X (((2 : Int32) * v1) + (1 : Int32)) ls H locs h (lv_sub hl [] rfl) hP hD hS
  have h := (if_neg hc).symm.trans h
  exact w_NumberWriter_fieldEdge_16 X ls H locs h (lv_sub hl [] rfl) hP hD hS

set_option maxHeartbeats 4000000 in
set_option maxRecDepth 100000 in
theorem c_NumberWriter_fieldEdge (l : Launch) (D : va_G) (cC cI : ClassId) (sz : Nat) (a0_0 a0_1 a0_2 : Nat) (v0 : T_NumberWriter) (v1 : Int32) (v2 : Int32) (out : O_NumberWriter_fieldEdge) (h : f_NumberWriter_fieldEdge v0 v1 v2 = some out) : Met l y_NumberWriter_fieldEdge (.code y_NumberWriter_fieldEdge b_NumberWriter_fieldEdge 3 (some .int) :: BIG) rm_NumberWriter_fieldEdge (va_Pc [.ref a0_0, .int v1, .int v2] (xPre D cC cI (wd_NumberWriter_fieldEdge cC cI a0_0 a0_1 a0_2 v0) sz)) (q_NumberWriter_fieldEdge D cC cI a0_0 a0_1 a0_2 v0 out (va_A (wd_NumberWriter_fieldEdge cC cI a0_0 a0_1 a0_2 v0) sz)) 0 0 (va_A (wd_NumberWriter_fieldEdge cC cI a0_0 a0_1 a0_2 v0) sz) := by
  refine Met.ofW (cc := b_NumberWriter_fieldEdge) (maxL := 3) (ret := (some .int)) (by decide) rfl ?_
  intro p e s m args below meth c s₁ B hml hv
  obtain ⟨rfl, rfl, hP, hD0, hG, hZ⟩ := hv
  have hl := lv_entry [.ref a0_0, .int v1, .int v2] (n := 3) (Nat.le_of_ble_eq_true rfl)
  rw [lg_entry_eq]
  exact w_NumberWriter_fieldEdge (x_cx B hml hG hZ) v1 v2 h hl hP hD0.self va_S.rf

abbrev wd_Deci_digitCount (cC cI : ClassId)  : va_W := []
abbrev O_Deci_digitCount : Type := Int32
abbrev q_Deci_digitCount (D : va_G) (cC cI : ClassId)  (out : O_Deci_digitCount) (A : Nat → Prop) : Array Value → State → Outcome → State → Prop := va_Qi (fun r (_ : Unit) => r = out) (fun _ t => va_P D classes (wd_Deci_digitCount cC cI ) t.heap ∧ va_D A (wd_Deci_digitCount cC cI )) A
abbrev rm_Deci_digitCount : Room := { frames := 0, cells := 0, slots := 0, locals := 0 }
def J_Deci_digitCount_2 (p : Program) (l : Launch) (e : Env) (s : State) (m : MethodId) (args : Array Value) (below : List Frame) (meth : Method) (c : Code) (A : Nat → Prop) (D : va_G) (cC cI : ClassId) (out : O_Deci_digitCount) (k : Int64 → Int32 → Option O_Deci_digitCount) : Prop := ∀ (x0 : Int64) (x2 : Int32) (ls : Array Slot) (H : Heap) (locs : List Loc), k x0 x2 = some out → lv_has ls 3 [(0, .long x0), (2, .int x2)] → va_P D classes (wd_Deci_digitCount cC cI) H → va_D A (wd_Deci_digitCount cC cI) → va_S A s.heap H locs → W p l e rm_Deci_digitCount s m args below meth c H locs 0 0 (MQ below (q_Deci_digitCount D cC cI  out A) args s 0 0 A) (F0 m 2 ls [])
def J_Deci_digitCount_26 (p : Program) (l : Launch) (e : Env) (s : State) (m : MethodId) (args : Array Value) (below : List Frame) (meth : Method) (c : Code) (A : Nat → Prop) (D : va_G) (cC cI : ClassId) (out : O_Deci_digitCount) (k : Int32 → Option O_Deci_digitCount) : Prop := ∀ (x2 : Int32) (ls : Array Slot) (H : Heap) (locs : List Loc), k x2 = some out → lv_has ls 3 [(2, .int x2)] → va_P D classes (wd_Deci_digitCount cC cI) H → va_D A (wd_Deci_digitCount cC cI) → va_S A s.heap H locs → W p l e rm_Deci_digitCount s m args below meth c H locs 0 0 (MQ below (q_Deci_digitCount D cC cI  out A) args s 0 0 A) (F0 m 26 ls [])
def f_Deci_digitCount_26 (x2 : Int32) : Option O_Deci_digitCount := some x2
set_option maxHeartbeats 4000000 in
set_option maxRecDepth 100000 in
theorem w_Deci_digitCount_26 {p : Program} {l : Launch} {e : Env} {s : State} {m : MethodId} {args : Array Value} {below : List Frame} {meth : Method} {c : Code} {A : Nat → Prop} {D : va_G} {cC cI : ClassId} (X : xCX p s m args meth c A D cC cI b_Deci_digitCount 3 R_Deci (some .int)) {out : O_Deci_digitCount}   : J_Deci_digitCount_26 p l e s m args below meth c A D cC cI  out (f_Deci_digitCount_26  ) := by
  obtain ⟨hx, hb, hml, hown, htB, ⟨hK, hN⟩, hZ, hA, hr, hlocks⟩ := id X
  obtain ⟨tP, hZ1, hT1⟩ := id hZ
  intro x2 ls H locs h hl hP hD hS
  refine lv_iload_n hx hb d_Deci_digitCount_26 rfl (lv_at hl 0 rfl) ?_
  obtain rfl := Option.some.inj h
  exact W.iret (v := x2) hx hb hr (fun t ht hW => ⟨⟨x2, (), rfl, rfl, by rw [ht]; exact hP, hD⟩, hS.F ht⟩) hS.2.2 d_Deci_digitCount_27 hlocks

def f_Deci_digitCount_2   : Nat → Int64 → Int32 → Option O_Deci_digitCount
  | 0, _, _ => none
  | n + 1, x0, x2 => (if (19 : Int32) ≤ x2 then f_Deci_digitCount_26 x2 else if ix x2 19 then (if (lg_cmp x0 (pw x2.toNatClampNeg)) < 0 then f_Deci_digitCount_26 x2 else (f_Deci_digitCount_2  n) x0 (x2 + (1 : Int32))) else none)
set_option maxHeartbeats 4000000 in
set_option maxRecDepth 100000 in
theorem w_Deci_digitCount_2 {p : Program} {l : Launch} {e : Env} {s : State} {m : MethodId} {args : Array Value} {below : List Frame} {meth : Method} {c : Code} {A : Nat → Prop} {D : va_G} {cC cI : ClassId} (X : xCX p s m args meth c A D cC cI b_Deci_digitCount 3 R_Deci (some .int)) {out : O_Deci_digitCount}   : ∀ n : Nat, J_Deci_digitCount_2 p l e s m args below meth c A D cC cI  out (f_Deci_digitCount_2   n) := by
  obtain ⟨hx, hb, hml, hown, htB, ⟨hK, hN⟩, hZ, hA, hr, hlocks⟩ := id X
  obtain ⟨tP, hZ1, hT1⟩ := id hZ
  intro n
  induction n with
  | zero =>
    intro x0 x2 ls H locs h hl hP hD hS
    cases h
  | succ n ih =>
    intro x0 x2 ls H locs h hl hP hD hS
    refine lv_iload_n hx hb d_Deci_digitCount_2 rfl (lv_at hl 1 rfl) ?_
    refine va_gets hx hb hZ1 hS hown (htB _ b_138) (fun _ h9 => h9) d_Deci_digitCount_3 ?_
    refine va_tlen hx hb hT1 hS (v := 19) rfl d_Deci_digitCount_6 ?_
    refine lv_icmp_ge (tgt := 26) hx hb d_Deci_digitCount_7 rfl (fun hc => ?_) (fun hc => ?_)
    · have h := (if_pos hc).symm.trans h
      exact w_Deci_digitCount_26 X x2 ls H locs h (lv_sub hl [1] rfl) hP hD hS
    have h := (if_neg hc).symm.trans h
    refine lv_lload_n hx hb d_Deci_digitCount_10 rfl (lv_at hl 0 rfl) ?_
    refine va_gets hx hb hZ1 hS hown (htB _ b_138) (fun _ h9 => h9) d_Deci_digitCount_11 ?_
    refine lv_iload_n hx hb d_Deci_digitCount_14 rfl (lv_at hl 1 rfl) ?_
    obtain ⟨hc, h⟩ := x_chk h
    refine va_tl hx hb hT1 hS hc (v := .long (pw x2.toNatClampNeg)) rfl d_Deci_digitCount_15 ?_
    refine W.lcmp hx hb d_Deci_digitCount_16 ?_
    refine lv_if_lt (tgt := 26) hx hb d_Deci_digitCount_17 rfl (fun hc => ?_) (fun hc => ?_)
    · have h := (if_pos hc).symm.trans h
      exact w_Deci_digitCount_26 X x2 ls H locs h (lv_sub hl [1] rfl) hP hD hS
    have h := (if_neg hc).symm.trans h
    refine lv_iinc (k := 1) (v := (x2 + (1 : Int32))) (lv' := [(2, .int (x2 + (1 : Int32))), (0, .long x0)]) hx hb d_Deci_digitCount_20 hl rfl (congrArg (fun z => x2 + z) (by decide : Int32.ofInt 1 = (1 : Int32))) (by decide) rfl (fun ls hl => ?_)
    refine lv_goto (tgt := 2) hx hb d_Deci_digitCount_23 rfl ?_
    exact ih x0 (x2 + (1 : Int32)) ls H locs h (lv_sub hl [1, 0] rfl) hP hD hS

def f_Deci_digitCount (v0 : Int64) : Option O_Deci_digitCount := f_Deci_digitCount_2 FU v0 (0 : Int32)
set_option maxHeartbeats 4000000 in
set_option maxRecDepth 100000 in
theorem w_Deci_digitCount {p : Program} {l : Launch} {e : Env} {s : State} {m : MethodId} {args : Array Value} {below : List Frame} {meth : Method} {c : Code} {A : Nat → Prop} {D : va_G} {cC cI : ClassId} (X : xCX p s m args meth c A D cC cI b_Deci_digitCount 3 R_Deci (some .int)) {out : O_Deci_digitCount} (v0 : Int64) {ls : Array Slot} {H : Heap} {locs : List Loc} (h : f_Deci_digitCount v0 = some out) (hl : lv_has ls 3 [(0, .long v0)]) (hP : va_P D classes (wd_Deci_digitCount cC cI) H) (hD : va_D A (wd_Deci_digitCount cC cI)) (hS : va_S A s.heap H locs) : W p l e rm_Deci_digitCount s m args below meth c H locs 0 0 (MQ below (q_Deci_digitCount D cC cI  out A) args s 0 0 A) (F0 m 0 ls []) := by
  obtain ⟨hx, hb, hml, hown, htB, ⟨hK, hN⟩, hZ, hA, hr, hlocks⟩ := id X
  obtain ⟨tP, hZ1, hT1⟩ := id hZ
  refine lv_iconst (v := 0) hx hb d_Deci_digitCount_0 (by decide) ?_
  refine lv_istore_n (lv' := [(2, .int (0 : Int32)), (0, .long v0)]) hx hb d_Deci_digitCount_1 rfl hl (by decide) rfl (fun ls hl => ?_)
  exact w_Deci_digitCount_2 X FU v0 (0 : Int32) ls H locs h (lv_sub hl [1, 0] rfl) hP hD hS

set_option maxHeartbeats 4000000 in
set_option maxRecDepth 100000 in
theorem c_Deci_digitCount (l : Launch) (D : va_G) (cC cI : ClassId) (sz : Nat) (v0 : Int64) (out : O_Deci_digitCount) (h : f_Deci_digitCount v0 = some out) : Met l y_Deci_digitCount (.code y_Deci_digitCount b_Deci_digitCount 3 (some .int) :: BIG) rm_Deci_digitCount (va_Pc [.long v0] (xPre D cC cI (wd_Deci_digitCount cC cI) sz)) (q_Deci_digitCount D cC cI  out (va_A (wd_Deci_digitCount cC cI) sz)) 0 0 (va_A (wd_Deci_digitCount cC cI) sz) := by
  refine Met.ofW (cc := b_Deci_digitCount) (maxL := 3) (ret := (some .int)) (by decide) rfl ?_
  intro p e s m args below meth c s₁ B hml hv
  obtain ⟨rfl, rfl, hP, hD0, hG, hZ⟩ := hv
  have hl := lv_entry [.long v0] (n := 3) (Nat.le_of_ble_eq_true rfl)
  rw [lg_entry_eq]
  exact w_Deci_digitCount (x_cx B hml hG hZ) v0 h hl hP hD0.self va_S.rf

abbrev wd_NumberWriter_takeExponent (cC cI : ClassId) (a0_0 a0_1 a0_2 : Nat) (v0 : T_NumberWriter) : va_W := [(a0_0, .inr (8, [.ref a0_1, .int v0.2.1, .ref a0_2, .int v0.2.2.2])), (a0_1, .inr (7, [.int v0.1.1, .long v0.1.2.1, .int v0.1.2.2])), (a0_2, .inl (cI, 6, .inl v0.2.2.1))]
abbrev O_NumberWriter_takeExponent : Type := T_NumberWriter
abbrev q_NumberWriter_takeExponent (D : va_G) (cC cI : ClassId) (a0_0 a0_1 a0_2 : Nat)  (out : O_NumberWriter_takeExponent) (A : Nat → Prop) : Array Value → State → Outcome → State → Prop := va_Qv (fun _ : Unit => True) (fun _ t => va_P D classes (wd_NumberWriter_takeExponent cC cI a0_0 a0_1 a0_2 out) t.heap ∧ va_D A (wd_NumberWriter_takeExponent cC cI a0_0 a0_1 a0_2 out)) A
abbrev rm_NumberWriter_takeExponent : Room := { frames := 2, cells := 0, slots := 0, locals := 41 }
def J_NumberWriter_takeExponent_73 (p : Program) (l : Launch) (e : Env) (s : State) (m : MethodId) (args : Array Value) (below : List Frame) (meth : Method) (c : Code) (A : Nat → Prop) (D : va_G) (cC cI : ClassId) (a0_0 a0_1 a0_2 : Nat) (out : O_NumberWriter_takeExponent) (k : T_NumberWriter → Option O_NumberWriter_takeExponent) : Prop := ∀ (v0 : T_NumberWriter) (ls : Array Slot) (H : Heap) (locs : List Loc), k v0 = some out → lv_has ls 3 [] → va_P D classes (wd_NumberWriter_takeExponent cC cI a0_0 a0_1 a0_2 v0) H → va_D A (wd_NumberWriter_takeExponent cC cI a0_0 a0_1 a0_2 v0) → va_S A s.heap H locs → W p l e rm_NumberWriter_takeExponent s m args below meth c H locs 0 0 (MQ below (q_NumberWriter_takeExponent D cC cI a0_0 a0_1 a0_2 out A) args s 0 0 A) (F0 m 73 ls [])
def f_NumberWriter_takeExponent_73 (v0 : T_NumberWriter) : Option O_NumberWriter_takeExponent := some v0
set_option maxHeartbeats 4000000 in
set_option maxRecDepth 100000 in
theorem w_NumberWriter_takeExponent_73 {p : Program} {l : Launch} {e : Env} {s : State} {m : MethodId} {args : Array Value} {below : List Frame} {meth : Method} {c : Code} {A : Nat → Prop} {D : va_G} {cC cI : ClassId} {a0_0 a0_1 a0_2 : Nat} (X : xCX p s m args meth c A D cC cI b_NumberWriter_takeExponent 3 R_NumberWriter none) {out : O_NumberWriter_takeExponent}   : J_NumberWriter_takeExponent_73 p l e s m args below meth c A D cC cI a0_0 a0_1 a0_2 out (f_NumberWriter_takeExponent_73  ) := by
  obtain ⟨hx, hb, hml, hown, htB, ⟨hK, hN⟩, hZ, hA, hr, hlocks⟩ := id X
  intro v0 ls H locs h hl hP hD hS
  obtain rfl := Option.some.inj h
  exact W.vret hx hb hr (fun t ht hW => ⟨⟨(), rfl, trivial, by rw [ht]; exact hP, hD⟩, hS.F ht⟩) hS.2.2 d_NumberWriter_takeExponent_73 hlocks

def f_NumberWriter_takeExponent (v0 : T_NumberWriter) (v1 : Int32) : Option O_NumberWriter_takeExponent := (f_Deci_digitCount v0.1.2.1).bind (fun o7 => (if v1 ≤ o7 then f_NumberWriter_takeExponent_73 ((v0.1.1, v0.1.2.1, (o7 - v1)), ((o7 - v0.1.2.2) - v1), v0.2.2.1, v0.2.2.2) else (f_Deci_tenTo (v1 - o7)).bind (fun o45 => f_NumberWriter_takeExponent_73 ((v0.1.1, (v0.1.2.1 * o45), (0 : Int32)), ((o7 - v0.1.2.2) - v1), v0.2.2.1, v0.2.2.2))))
set_option maxHeartbeats 4000000 in
set_option maxRecDepth 100000 in
theorem w_NumberWriter_takeExponent {p : Program} {l : Launch} {e : Env} {s : State} {m : MethodId} {args : Array Value} {below : List Frame} {meth : Method} {c : Code} {A : Nat → Prop} {D : va_G} {cC cI : ClassId} {a0_0 a0_1 a0_2 : Nat} (X : xCX p s m args meth c A D cC cI b_NumberWriter_takeExponent 3 R_NumberWriter none) {out : O_NumberWriter_takeExponent} (v0 : T_NumberWriter) (v1 : Int32) {ls : Array Slot} {H : Heap} {locs : List Loc} (h : f_NumberWriter_takeExponent v0 v1 = some out) (hl : lv_has ls 3 [(0, .ref a0_0), (1, .int v1)]) (hP : va_P D classes (wd_NumberWriter_takeExponent cC cI a0_0 a0_1 a0_2 v0) H) (hD : va_D A (wd_NumberWriter_takeExponent cC cI a0_0 a0_1 a0_2 v0)) (hS : va_S A s.heap H locs) : W p l e rm_NumberWriter_takeExponent s m args below meth c H locs 0 0 (MQ below (q_NumberWriter_takeExponent D cC cI a0_0 a0_1 a0_2 out A) args s 0 0 A) (F0 m 0 ls []) := by
  obtain ⟨hx, hb, hml, hown, htB, ⟨hK, hN⟩, hZ, hA, hr, hlocks⟩ := id X
  refine lv_aload_n hx hb d_NumberWriter_takeExponent_0 rfl (lv_at hl 0 rfl) ?_
  refine va_get (D := D) (ci := 8) (v := .ref a0_1) (C := R_NumberWriter) (T := F_NumberWriter) (N := 4) hx hb htB in_NumberWriter hown hK hP 0 rfl rfl 0 (by decide) (htB _ b_158) (fun _ h9 => h9) rfl d_NumberWriter_takeExponent_1 ?_
  refine va_getN (D := D) (ci := 7) (v := .long v0.1.2.1) (C := R_Decimal) (T := F_Decimal) (N := 3) hx hb htB in_Decimal hown hK hP 1 rfl rfl 1 (by decide) (va_Nw.use rfl (hN _ n_46)) (fun _ h9 => h9) rfl d_NumberWriter_takeExponent_4 ?_
  obtain ⟨o7, ho7, h⟩ := x_bnd h
  refine x_calli (r0 := o7) (ws2 := (wd_NumberWriter_takeExponent cC cI a0_0 a0_1 a0_2 v0)) (x_runSN (As := [.long v0.1.2.1]) (rest := []) X (c_Deci_digitCount l D cC cI H.size v0.1.2.1 o7 ho7) b_159 1 (hN _ n_47) (htB _ b_160) (htB _ b_56) ⟨by decide, by decide, by decide +kernel⟩ ⟨(Nat.le_of_ble_eq_true rfl), (Nat.le_of_ble_eq_true rfl)⟩ hP hD hS [] rfl (by decide) rfl rfl hl.1 rfl rfl (Nat.le_of_ble_eq_true rfl) d_NumberWriter_takeExponent_7) hP hD hS hA [] [0, 1, 2] [0, 1, 2] rfl rfl (by decide) (by decide) rfl (by decide) (fun H locs hP hD hS => ?_)
  refine lv_istore_n (lv' := [(2, .int o7), (0, .ref a0_0), (1, .int v1)]) hx hb d_NumberWriter_takeExponent_10 rfl hl (by decide) rfl (fun ls hl => ?_)
  refine lv_aload_n hx hb d_NumberWriter_takeExponent_11 rfl (lv_at hl 1 rfl) ?_
  refine lv_iload_n hx hb d_NumberWriter_takeExponent_12 rfl (lv_at hl 0 rfl) ?_
  refine lv_aload_n hx hb d_NumberWriter_takeExponent_13 rfl (lv_at hl 1 rfl) ?_
  refine va_get (D := D) (ci := 8) (v := .ref a0_1) (C := R_NumberWriter) (T := F_NumberWriter) (N := 4) hx hb htB in_NumberWriter hown hK hP 0 rfl rfl 0 (by decide) (htB _ b_158) (fun _ h9 => h9) rfl d_NumberWriter_takeExponent_14 ?_
  refine va_getN (D := D) (ci := 7) (v := .int v0.1.2.2) (C := R_Decimal) (T := F_Decimal) (N := 3) hx hb htB in_Decimal hown hK hP 1 rfl rfl 2 (by decide) (va_Nw.use rfl (hN _ n_48)) (fun _ h9 => h9) rfl d_NumberWriter_takeExponent_17 ?_
  refine lv_isub hx hb d_NumberWriter_takeExponent_20 ?_
  refine lv_iload_n hx hb d_NumberWriter_takeExponent_21 rfl (lv_at hl 2 rfl) ?_
  refine lv_isub hx hb d_NumberWriter_takeExponent_22 ?_
  refine va_put (D := D) (ci := 8) (v := .int ((o7 - v0.1.2.2) - v1)) (ty := .int) (C := R_NumberWriter) (T := F_NumberWriter) (N := 4) hx hb htB in_NumberWriter t_NumberWriter t_NumberWriter_ok n_NumberWriter hown hK hP hD hS 0 rfl rfl 1 (by decide) (htB _ b_161) (fun _ h9 => h9) rfl (by decide +kernel) rfl rfl (Nat.le_of_ble_eq_true rfl) d_NumberWriter_takeExponent_23 (fun H locs hP hD hS => ?_)
  have hP : va_P D classes (wd_NumberWriter_takeExponent cC cI a0_0 a0_1 a0_2 (v0.1, ((o7 - v0.1.2.2) - v1), v0.2.2.1, v0.2.2.2)) H := hP
  have hD : va_D A (wd_NumberWriter_takeExponent cC cI a0_0 a0_1 a0_2 (v0.1, ((o7 - v0.1.2.2) - v1), v0.2.2.1, v0.2.2.2)) := hD
  refine lv_iload_n hx hb d_NumberWriter_takeExponent_26 rfl (lv_at hl 0 rfl) ?_
  refine lv_iload_n hx hb d_NumberWriter_takeExponent_27 rfl (lv_at hl 2 rfl) ?_
  refine lv_icmp_ge (tgt := 63) hx hb d_NumberWriter_takeExponent_28 rfl (fun hc => ?_) (fun hc => ?_)
  · have h := (if_pos hc).symm.trans h
    refine lv_aload_n hx hb d_NumberWriter_takeExponent_63 rfl (lv_at hl 1 rfl) ?_
    refine va_get (D := D) (ci := 8) (v := .ref a0_1) (C := R_NumberWriter) (T := F_NumberWriter) (N := 4) hx hb htB in_NumberWriter hown hK hP 0 rfl rfl 0 (by decide) (htB _ b_158) (fun _ h9 => h9) rfl d_NumberWriter_takeExponent_64 ?_
    refine lv_iload_n hx hb d_NumberWriter_takeExponent_67 rfl (lv_at hl 0 rfl) ?_
    refine lv_iload_n hx hb d_NumberWriter_takeExponent_68 rfl (lv_at hl 2 rfl) ?_
    refine lv_isub hx hb d_NumberWriter_takeExponent_69 ?_
    refine va_putN (D := D) (ci := 7) (v := .int (o7 - v1)) (ty := .int) (C := R_Decimal) (T := F_Decimal) (N := 3) hx hb htB in_Decimal t_Decimal t_Decimal_ok n_Decimal hown hK hP hD hS 1 rfl rfl 2 (by decide) (va_Nw.use rfl (hN _ n_48)) (fun _ h9 => h9) rfl (by decide +kernel) rfl rfl (Nat.le_of_ble_eq_true rfl) d_NumberWriter_takeExponent_70 (fun H locs hP hD hS => ?_)
    have hP : va_P D classes (wd_NumberWriter_takeExponent cC cI a0_0 a0_1 a0_2 ((v0.1.1, v0.1.2.1, (o7 - v1)), ((o7 - v0.1.2.2) - v1), v0.2.2.1, v0.2.2.2)) H := hP
    have hD : va_D A (wd_NumberWriter_takeExponent cC cI a0_0 a0_1 a0_2 ((v0.1.1, v0.1.2.1, (o7 - v1)), ((o7 - v0.1.2.2) - v1), v0.2.2.1, v0.2.2.2)) := hD
    exact w_NumberWriter_takeExponent_73 X ((v0.1.1, v0.1.2.1, (o7 - v1)), ((o7 - v0.1.2.2) - v1), v0.2.2.1, v0.2.2.2) ls H locs h (lv_sub hl [] rfl) hP hD hS
  have h := (if_neg hc).symm.trans h
  refine lv_aload_n hx hb d_NumberWriter_takeExponent_31 rfl (lv_at hl 1 rfl) ?_
  refine va_get (D := D) (ci := 8) (v := .ref a0_1) (C := R_NumberWriter) (T := F_NumberWriter) (N := 4) hx hb htB in_NumberWriter hown hK hP 0 rfl rfl 0 (by decide) (htB _ b_158) (fun _ h9 => h9) rfl d_NumberWriter_takeExponent_32 ?_
  refine lv_aload_n hx hb d_NumberWriter_takeExponent_35 rfl (lv_at hl 1 rfl) ?_
  refine va_get (D := D) (ci := 8) (v := .ref a0_1) (C := R_NumberWriter) (T := F_NumberWriter) (N := 4) hx hb htB in_NumberWriter hown hK hP 0 rfl rfl 0 (by decide) (htB _ b_158) (fun _ h9 => h9) rfl d_NumberWriter_takeExponent_36 ?_
  refine va_getN (D := D) (ci := 7) (v := .long v0.1.2.1) (C := R_Decimal) (T := F_Decimal) (N := 3) hx hb htB in_Decimal hown hK hP 1 rfl rfl 1 (by decide) (va_Nw.use rfl (hN _ n_46)) (fun _ h9 => h9) rfl d_NumberWriter_takeExponent_39 ?_
  refine lv_iload_n hx hb d_NumberWriter_takeExponent_42 rfl (lv_at hl 2 rfl) ?_
  refine lv_iload_n hx hb d_NumberWriter_takeExponent_43 rfl (lv_at hl 0 rfl) ?_
  refine lv_isub hx hb d_NumberWriter_takeExponent_44 ?_
  obtain ⟨o45, ho45, h⟩ := x_bnd h
  refine x_calll (r0 := o45) (ws2 := (wd_NumberWriter_takeExponent cC cI a0_0 a0_1 a0_2 (v0.1, ((o7 - v0.1.2.2) - v1), v0.2.2.1, v0.2.2.2))) (x_runSN (As := [.int (v1 - o7)]) (rest := [.long v0.1.2.1, .ref a0_1]) X (c_Deci_tenTo l D cC cI H.size (v1 - o7) o45 ho45) b_143 1 (hN _ n_49) (htB _ b_144) (htB _ b_56) ⟨by decide, by decide, by decide +kernel⟩ ⟨(Nat.le_of_ble_eq_true rfl), (Nat.le_of_ble_eq_true rfl)⟩ hP hD hS [] rfl (by decide) rfl rfl hl.1 rfl rfl (Nat.le_of_ble_eq_true rfl) d_NumberWriter_takeExponent_45) hP hD hS hA [] [0, 1, 2] [0, 1, 2] rfl rfl (by decide) (by decide) rfl (by decide) (fun H locs hP hD hS => ?_)
  refine lv_lmul hx hb d_NumberWriter_takeExponent_48 ?_
  refine va_putN (D := D) (ci := 7) (v := .long (v0.1.2.1 * o45)) (ty := .long) (C := R_Decimal) (T := F_Decimal) (N := 3) hx hb htB in_Decimal t_Decimal t_Decimal_ok n_Decimal hown hK hP hD hS 1 rfl rfl 1 (by decide) (va_Nw.use rfl (hN _ n_46)) (fun _ h9 => h9) rfl (by decide +kernel) rfl rfl (Nat.le_of_ble_eq_true rfl) d_NumberWriter_takeExponent_49 (fun H locs hP hD hS => ?_)
  have hP : va_P D classes (wd_NumberWriter_takeExponent cC cI a0_0 a0_1 a0_2 ((v0.1.1, (v0.1.2.1 * o45), v0.1.2.2), ((o7 - v0.1.2.2) - v1), v0.2.2.1, v0.2.2.2)) H := hP
  have hD : va_D A (wd_NumberWriter_takeExponent cC cI a0_0 a0_1 a0_2 ((v0.1.1, (v0.1.2.1 * o45), v0.1.2.2), ((o7 - v0.1.2.2) - v1), v0.2.2.1, v0.2.2.2)) := hD
  refine lv_aload_n hx hb d_NumberWriter_takeExponent_52 rfl (lv_at hl 1 rfl) ?_
  refine va_get (D := D) (ci := 8) (v := .ref a0_1) (C := R_NumberWriter) (T := F_NumberWriter) (N := 4) hx hb htB in_NumberWriter hown hK hP 0 rfl rfl 0 (by decide) (htB _ b_158) (fun _ h9 => h9) rfl d_NumberWriter_takeExponent_53 ?_
  refine lv_iconst (v := 0) hx hb d_NumberWriter_takeExponent_56 (by decide) ?_
  refine va_putN (D := D) (ci := 7) (v := .int (0 : Int32)) (ty := .int) (C := R_Decimal) (T := F_Decimal) (N := 3) hx hb htB in_Decimal t_Decimal t_Decimal_ok n_Decimal hown hK hP hD hS 1 rfl rfl 2 (by decide) (va_Nw.use rfl (hN _ n_48)) (fun _ h9 => h9) rfl (by decide +kernel) rfl rfl (Nat.le_of_ble_eq_true rfl) d_NumberWriter_takeExponent_57 (fun H locs hP hD hS => ?_)
  have hP : va_P D classes (wd_NumberWriter_takeExponent cC cI a0_0 a0_1 a0_2 ((v0.1.1, (v0.1.2.1 * o45), (0 : Int32)), ((o7 - v0.1.2.2) - v1), v0.2.2.1, v0.2.2.2)) H := hP
  have hD : va_D A (wd_NumberWriter_takeExponent cC cI a0_0 a0_1 a0_2 ((v0.1.1, (v0.1.2.1 * o45), (0 : Int32)), ((o7 - v0.1.2.2) - v1), v0.2.2.1, v0.2.2.2)) := hD
  refine lv_goto (tgt := 73) hx hb d_NumberWriter_takeExponent_60 rfl ?_
  exact w_NumberWriter_takeExponent_73 X ((v0.1.1, (v0.1.2.1 * o45), (0 : Int32)), ((o7 - v0.1.2.2) - v1), v0.2.2.1, v0.2.2.2) ls H locs h (lv_sub hl [] rfl) hP hD hS

set_option maxHeartbeats 4000000 in
set_option maxRecDepth 100000 in
theorem c_NumberWriter_takeExponent (l : Launch) (D : va_G) (cC cI : ClassId) (sz : Nat) (a0_0 a0_1 a0_2 : Nat) (v0 : T_NumberWriter) (v1 : Int32) (out : O_NumberWriter_takeExponent) (h : f_NumberWriter_takeExponent v0 v1 = some out) : Met l y_NumberWriter_takeExponent (.code y_NumberWriter_takeExponent b_NumberWriter_takeExponent 3 none :: BIG) rm_NumberWriter_takeExponent (va_Pc [.ref a0_0, .int v1] (xPre D cC cI (wd_NumberWriter_takeExponent cC cI a0_0 a0_1 a0_2 v0) sz)) (q_NumberWriter_takeExponent D cC cI a0_0 a0_1 a0_2 out (va_A (wd_NumberWriter_takeExponent cC cI a0_0 a0_1 a0_2 v0) sz)) 0 0 (va_A (wd_NumberWriter_takeExponent cC cI a0_0 a0_1 a0_2 v0) sz) := by
  refine Met.ofW (cc := b_NumberWriter_takeExponent) (maxL := 3) (ret := none) (by decide) rfl ?_
  intro p e s m args below meth c s₁ B hml hv
  obtain ⟨rfl, rfl, hP, hD0, hG, hZ⟩ := hv
  have hl := lv_entry [.ref a0_0, .int v1] (n := 3) (Nat.le_of_ble_eq_true rfl)
  rw [lg_entry_eq]
  exact w_NumberWriter_takeExponent (x_cx B hml hG hZ) v0 v1 h hl hP hD0.self va_S.rf

abbrev wd_NumberWriter_carryExponent (cC cI : ClassId) (a0_0 a0_1 a0_2 : Nat) (v0 : T_NumberWriter) : va_W := [(a0_0, .inr (8, [.ref a0_1, .int v0.2.1, .ref a0_2, .int v0.2.2.2])), (a0_1, .inr (7, [.int v0.1.1, .long v0.1.2.1, .int v0.1.2.2])), (a0_2, .inl (cI, 6, .inl v0.2.2.1))]
abbrev O_NumberWriter_carryExponent : Type := T_NumberWriter
abbrev q_NumberWriter_carryExponent (D : va_G) (cC cI : ClassId) (a0_0 a0_1 a0_2 : Nat)  (out : O_NumberWriter_carryExponent) (A : Nat → Prop) : Array Value → State → Outcome → State → Prop := va_Qv (fun _ : Unit => True) (fun _ t => va_P D classes (wd_NumberWriter_carryExponent cC cI a0_0 a0_1 a0_2 out) t.heap ∧ va_D A (wd_NumberWriter_carryExponent cC cI a0_0 a0_1 a0_2 out)) A
abbrev rm_NumberWriter_carryExponent : Room := { frames := 3, cells := 0, slots := 0, locals := 61 }
def J_NumberWriter_carryExponent_46 (p : Program) (l : Launch) (e : Env) (s : State) (m : MethodId) (args : Array Value) (below : List Frame) (meth : Method) (c : Code) (A : Nat → Prop) (D : va_G) (cC cI : ClassId) (a0_0 a0_1 a0_2 : Nat) (out : O_NumberWriter_carryExponent) (k : T_NumberWriter → Option O_NumberWriter_carryExponent) : Prop := ∀ (v0 : T_NumberWriter) (ls : Array Slot) (H : Heap) (locs : List Loc), k v0 = some out → lv_has ls 2 [] → va_P D classes (wd_NumberWriter_carryExponent cC cI a0_0 a0_1 a0_2 v0) H → va_D A (wd_NumberWriter_carryExponent cC cI a0_0 a0_1 a0_2 v0) → va_S A s.heap H locs → W p l e rm_NumberWriter_carryExponent s m args below meth c H locs 0 0 (MQ below (q_NumberWriter_carryExponent D cC cI a0_0 a0_1 a0_2 out A) args s 0 0 A) (F0 m 46 ls [])
def f_NumberWriter_carryExponent_46 (v0 : T_NumberWriter) : Option O_NumberWriter_carryExponent := some v0
set_option maxHeartbeats 4000000 in
set_option maxRecDepth 100000 in
theorem w_NumberWriter_carryExponent_46 {p : Program} {l : Launch} {e : Env} {s : State} {m : MethodId} {args : Array Value} {below : List Frame} {meth : Method} {c : Code} {A : Nat → Prop} {D : va_G} {cC cI : ClassId} {a0_0 a0_1 a0_2 : Nat} (X : xCX p s m args meth c A D cC cI b_NumberWriter_carryExponent 2 R_NumberWriter none) {out : O_NumberWriter_carryExponent}   : J_NumberWriter_carryExponent_46 p l e s m args below meth c A D cC cI a0_0 a0_1 a0_2 out (f_NumberWriter_carryExponent_46  ) := by
  obtain ⟨hx, hb, hml, hown, htB, ⟨hK, hN⟩, hZ, hA, hr, hlocks⟩ := id X
  intro v0 ls H locs h hl hP hD hS
  obtain rfl := Option.some.inj h
  exact W.vret hx hb hr (fun t ht hW => ⟨⟨(), rfl, trivial, by rw [ht]; exact hP, hD⟩, hS.F ht⟩) hS.2.2 d_NumberWriter_carryExponent_46 hlocks

def f_NumberWriter_carryExponent (v0 : T_NumberWriter) (v1 : Int32) : Option O_NumberWriter_carryExponent := (f_Decimal_whole v0.1).bind (fun o4 => (f_Deci_tenTo v1).bind (fun o8 => (if (lg_cmp o4 o8) < 0 then f_NumberWriter_carryExponent_46 v0 else (f_Deci_tenTo (v1 - (1 : Int32))).bind (fun o22 => f_NumberWriter_carryExponent_46 ((v0.1.1, o22, (0 : Int32)), (v0.2.1 + (1 : Int32)), v0.2.2.1, v0.2.2.2)))))
set_option maxHeartbeats 4000000 in
set_option maxRecDepth 100000 in
theorem w_NumberWriter_carryExponent {p : Program} {l : Launch} {e : Env} {s : State} {m : MethodId} {args : Array Value} {below : List Frame} {meth : Method} {c : Code} {A : Nat → Prop} {D : va_G} {cC cI : ClassId} {a0_0 a0_1 a0_2 : Nat} (X : xCX p s m args meth c A D cC cI b_NumberWriter_carryExponent 2 R_NumberWriter none) {out : O_NumberWriter_carryExponent} (v0 : T_NumberWriter) (v1 : Int32) {ls : Array Slot} {H : Heap} {locs : List Loc} (h : f_NumberWriter_carryExponent v0 v1 = some out) (hl : lv_has ls 2 [(0, .ref a0_0), (1, .int v1)]) (hP : va_P D classes (wd_NumberWriter_carryExponent cC cI a0_0 a0_1 a0_2 v0) H) (hD : va_D A (wd_NumberWriter_carryExponent cC cI a0_0 a0_1 a0_2 v0)) (hS : va_S A s.heap H locs) : W p l e rm_NumberWriter_carryExponent s m args below meth c H locs 0 0 (MQ below (q_NumberWriter_carryExponent D cC cI a0_0 a0_1 a0_2 out A) args s 0 0 A) (F0 m 0 ls []) := by
  obtain ⟨hx, hb, hml, hown, htB, ⟨hK, hN⟩, hZ, hA, hr, hlocks⟩ := id X
  refine lv_aload_n hx hb d_NumberWriter_carryExponent_0 rfl (lv_at hl 0 rfl) ?_
  refine va_get (D := D) (ci := 8) (v := .ref a0_1) (C := R_NumberWriter) (T := F_NumberWriter) (N := 4) hx hb htB in_NumberWriter hown hK hP 0 rfl rfl 0 (by decide) (htB _ b_158) (fun _ h9 => h9) rfl d_NumberWriter_carryExponent_1 ?_
  obtain ⟨o4, ho4, h⟩ := x_bnd h
  refine x_calll (r0 := o4) (ws2 := (wd_NumberWriter_carryExponent cC cI a0_0 a0_1 a0_2 v0)) (x_runVN (As := []) (rest := []) X (c_Decimal_whole l D cC cI H.size a0_1 v0.1 o4 ho4) b_162 0 (hN _ n_50) (htB _ b_163) (htB _ b_164) (htB _ b_151) ⟨by decide, by decide, by decide +kernel⟩ ⟨(Nat.le_of_ble_eq_true rfl), (Nat.le_of_ble_eq_true rfl)⟩ 1 rfl rfl hP hD hS [1] rfl (by decide) rfl rfl hl.1 rfl rfl (Nat.le_of_ble_eq_true rfl) d_NumberWriter_carryExponent_4) hP hD hS hA [1] [0, 2] [0, 2, 1] rfl rfl (by decide) (by decide) rfl (by decide) (fun H locs hP hD hS => ?_)
  refine lv_iload_n hx hb d_NumberWriter_carryExponent_7 rfl (lv_at hl 1 rfl) ?_
  obtain ⟨o8, ho8, h⟩ := x_bnd h
  refine x_calll (r0 := o8) (ws2 := (wd_NumberWriter_carryExponent cC cI a0_0 a0_1 a0_2 v0)) (x_runSN (As := [.int v1]) (rest := [.long o4]) X (c_Deci_tenTo l D cC cI H.size v1 o8 ho8) b_143 1 (hN _ n_49) (htB _ b_144) (htB _ b_56) ⟨by decide, by decide, by decide +kernel⟩ ⟨(Nat.le_of_ble_eq_true rfl), (Nat.le_of_ble_eq_true rfl)⟩ hP hD hS [] rfl (by decide) rfl rfl hl.1 rfl rfl (Nat.le_of_ble_eq_true rfl) d_NumberWriter_carryExponent_8) hP hD hS hA [] [0, 1, 2] [0, 1, 2] rfl rfl (by decide) (by decide) rfl (by decide) (fun H locs hP hD hS => ?_)
  refine W.lcmp hx hb d_NumberWriter_carryExponent_11 ?_
  refine lv_if_lt (tgt := 46) hx hb d_NumberWriter_carryExponent_12 rfl (fun hc => ?_) (fun hc => ?_)
  · have h := (if_pos hc).symm.trans h
    exact w_NumberWriter_carryExponent_46 X v0 ls H locs h (lv_sub hl [] rfl) hP hD hS
  have h := (if_neg hc).symm.trans h
  refine lv_aload_n hx hb d_NumberWriter_carryExponent_15 rfl (lv_at hl 0 rfl) ?_
  refine va_get (D := D) (ci := 8) (v := .ref a0_1) (C := R_NumberWriter) (T := F_NumberWriter) (N := 4) hx hb htB in_NumberWriter hown hK hP 0 rfl rfl 0 (by decide) (htB _ b_158) (fun _ h9 => h9) rfl d_NumberWriter_carryExponent_16 ?_
  refine lv_iload_n hx hb d_NumberWriter_carryExponent_19 rfl (lv_at hl 1 rfl) ?_
  refine lv_iconst (v := 1) hx hb d_NumberWriter_carryExponent_20 (by decide) ?_
  refine lv_isub hx hb d_NumberWriter_carryExponent_21 ?_
  obtain ⟨o22, ho22, h⟩ := x_bnd h
  refine x_calll (r0 := o22) (ws2 := (wd_NumberWriter_carryExponent cC cI a0_0 a0_1 a0_2 v0)) (x_runSN (As := [.int (v1 - (1 : Int32))]) (rest := [.ref a0_1]) X (c_Deci_tenTo l D cC cI H.size (v1 - (1 : Int32)) o22 ho22) b_143 1 (hN _ n_49) (htB _ b_144) (htB _ b_56) ⟨by decide, by decide, by decide +kernel⟩ ⟨(Nat.le_of_ble_eq_true rfl), (Nat.le_of_ble_eq_true rfl)⟩ hP hD hS [] rfl (by decide) rfl rfl hl.1 rfl rfl (Nat.le_of_ble_eq_true rfl) d_NumberWriter_carryExponent_22) hP hD hS hA [] [0, 1, 2] [0, 1, 2] rfl rfl (by decide) (by decide) rfl (by decide) (fun H locs hP hD hS => ?_)
  refine va_putN (D := D) (ci := 7) (v := .long o22) (ty := .long) (C := R_Decimal) (T := F_Decimal) (N := 3) hx hb htB in_Decimal t_Decimal t_Decimal_ok n_Decimal hown hK hP hD hS 1 rfl rfl 1 (by decide) (va_Nw.use rfl (hN _ n_46)) (fun _ h9 => h9) rfl (by decide +kernel) rfl rfl (Nat.le_of_ble_eq_true rfl) d_NumberWriter_carryExponent_25 (fun H locs hP hD hS => ?_)
  have hP : va_P D classes (wd_NumberWriter_carryExponent cC cI a0_0 a0_1 a0_2 ((v0.1.1, o22, v0.1.2.2), v0.2.1, v0.2.2.1, v0.2.2.2)) H := hP
  have hD : va_D A (wd_NumberWriter_carryExponent cC cI a0_0 a0_1 a0_2 ((v0.1.1, o22, v0.1.2.2), v0.2.1, v0.2.2.1, v0.2.2.2)) := hD
  refine lv_aload_n hx hb d_NumberWriter_carryExponent_28 rfl (lv_at hl 0 rfl) ?_
  refine va_get (D := D) (ci := 8) (v := .ref a0_1) (C := R_NumberWriter) (T := F_NumberWriter) (N := 4) hx hb htB in_NumberWriter hown hK hP 0 rfl rfl 0 (by decide) (htB _ b_158) (fun _ h9 => h9) rfl d_NumberWriter_carryExponent_29 ?_
  refine lv_iconst (v := 0) hx hb d_NumberWriter_carryExponent_32 (by decide) ?_
  refine va_putN (D := D) (ci := 7) (v := .int (0 : Int32)) (ty := .int) (C := R_Decimal) (T := F_Decimal) (N := 3) hx hb htB in_Decimal t_Decimal t_Decimal_ok n_Decimal hown hK hP hD hS 1 rfl rfl 2 (by decide) (va_Nw.use rfl (hN _ n_48)) (fun _ h9 => h9) rfl (by decide +kernel) rfl rfl (Nat.le_of_ble_eq_true rfl) d_NumberWriter_carryExponent_33 (fun H locs hP hD hS => ?_)
  have hP : va_P D classes (wd_NumberWriter_carryExponent cC cI a0_0 a0_1 a0_2 ((v0.1.1, o22, (0 : Int32)), v0.2.1, v0.2.2.1, v0.2.2.2)) H := hP
  have hD : va_D A (wd_NumberWriter_carryExponent cC cI a0_0 a0_1 a0_2 ((v0.1.1, o22, (0 : Int32)), v0.2.1, v0.2.2.1, v0.2.2.2)) := hD
  refine lv_aload_n hx hb d_NumberWriter_carryExponent_36 rfl (lv_at hl 0 rfl) ?_
  refine lv_dup hx hb d_NumberWriter_carryExponent_37 rfl ?_
  refine va_get (D := D) (ci := 8) (v := .int v0.2.1) (C := R_NumberWriter) (T := F_NumberWriter) (N := 4) hx hb htB in_NumberWriter hown hK hP 0 rfl rfl 1 (by decide) (htB _ b_161) (fun _ h9 => h9) rfl d_NumberWriter_carryExponent_38 ?_
  refine lv_iconst (v := 1) hx hb d_NumberWriter_carryExponent_41 (by decide) ?_
  refine lv_iadd hx hb d_NumberWriter_carryExponent_42 ?_
  refine va_put (D := D) (ci := 8) (v := .int (v0.2.1 + (1 : Int32))) (ty := .int) (C := R_NumberWriter) (T := F_NumberWriter) (N := 4) hx hb htB in_NumberWriter t_NumberWriter t_NumberWriter_ok n_NumberWriter hown hK hP hD hS 0 rfl rfl 1 (by decide) (htB _ b_161) (fun _ h9 => h9) rfl (by decide +kernel) rfl rfl (Nat.le_of_ble_eq_true rfl) d_NumberWriter_carryExponent_43 (fun H locs hP hD hS => ?_)
  have hP : va_P D classes (wd_NumberWriter_carryExponent cC cI a0_0 a0_1 a0_2 ((v0.1.1, o22, (0 : Int32)), (v0.2.1 + (1 : Int32)), v0.2.2.1, v0.2.2.2)) H := hP
  have hD : va_D A (wd_NumberWriter_carryExponent cC cI a0_0 a0_1 a0_2 ((v0.1.1, o22, (0 : Int32)), (v0.2.1 + (1 : Int32)), v0.2.2.1, v0.2.2.2)) := hD
  exact w_NumberWriter_carryExponent_46 X ((v0.1.1, o22, (0 : Int32)), (v0.2.1 + (1 : Int32)), v0.2.2.1, v0.2.2.2) ls H locs h (lv_sub hl [] rfl) hP hD hS

set_option maxHeartbeats 4000000 in
set_option maxRecDepth 100000 in
theorem c_NumberWriter_carryExponent (l : Launch) (D : va_G) (cC cI : ClassId) (sz : Nat) (a0_0 a0_1 a0_2 : Nat) (v0 : T_NumberWriter) (v1 : Int32) (out : O_NumberWriter_carryExponent) (h : f_NumberWriter_carryExponent v0 v1 = some out) : Met l y_NumberWriter_carryExponent (.code y_NumberWriter_carryExponent b_NumberWriter_carryExponent 2 none :: BIG) rm_NumberWriter_carryExponent (va_Pc [.ref a0_0, .int v1] (xPre D cC cI (wd_NumberWriter_carryExponent cC cI a0_0 a0_1 a0_2 v0) sz)) (q_NumberWriter_carryExponent D cC cI a0_0 a0_1 a0_2 out (va_A (wd_NumberWriter_carryExponent cC cI a0_0 a0_1 a0_2 v0) sz)) 0 0 (va_A (wd_NumberWriter_carryExponent cC cI a0_0 a0_1 a0_2 v0) sz) := by
  refine Met.ofW (cc := b_NumberWriter_carryExponent) (maxL := 2) (ret := none) (by decide) rfl ?_
  intro p e s m args below meth c s₁ B hml hv
  obtain ⟨rfl, rfl, hP, hD0, hG, hZ⟩ := hv
  have hl := lv_entry [.ref a0_0, .int v1] (n := 2) (Nat.le_of_ble_eq_true rfl)
  rw [lg_entry_eq]
  exact w_NumberWriter_carryExponent (x_cx B hml hG hZ) v0 v1 h hl hP hD0.self va_S.rf

abbrev wd_NumberWriter_prepare (cC cI : ClassId) (a0_0 a0_1 a0_2 a1_0 : Nat) (v0 : T_NumberWriter) (v1 : T_Shape) : va_W := [(a0_0, .inr (8, [.ref a0_1, .int v0.2.1, .ref a0_2, .int v0.2.2.2])), (a0_1, .inr (7, [.int v0.1.1, .long v0.1.2.1, .int v0.1.2.2])), (a0_2, .inl (cI, 6, .inl v0.2.2.1)), (a1_0, .inr (2, [.int v1.1, .int v1.2.1, .int v1.2.2.1, .int v1.2.2.2.1, .int v1.2.2.2.2.1, .int v1.2.2.2.2.2.1, .int v1.2.2.2.2.2.2]))]
abbrev O_NumberWriter_prepare : Type := Int32 × T_NumberWriter
abbrev q_NumberWriter_prepare (D : va_G) (cC cI : ClassId) (a0_0 a0_1 a0_2 a1_0 : Nat) (v1 : T_Shape) (out : O_NumberWriter_prepare) (A : Nat → Prop) : Array Value → State → Outcome → State → Prop := va_Qi (fun r (_ : Unit) => r = out.1) (fun _ t => va_P D classes (wd_NumberWriter_prepare cC cI a0_0 a0_1 a0_2 a1_0 out.2 v1) t.heap ∧ va_D A (wd_NumberWriter_prepare cC cI a0_0 a0_1 a0_2 a1_0 out.2 v1)) A
abbrev rm_NumberWriter_prepare : Room := { frames := 4, cells := 0, slots := 0, locals := 82 }
def J_NumberWriter_prepare_28 (p : Program) (l : Launch) (e : Env) (s : State) (m : MethodId) (args : Array Value) (below : List Frame) (meth : Method) (c : Code) (A : Nat → Prop) (D : va_G) (cC cI : ClassId) (a0_0 a0_1 a0_2 a1_0 : Nat) (v1 : T_Shape) (out : O_NumberWriter_prepare) (k : T_NumberWriter → Int32 → Option O_NumberWriter_prepare) : Prop := ∀ (v0 : T_NumberWriter) (x5 : Int32) (ls : Array Slot) (H : Heap) (locs : List Loc), k v0 x5 = some out → lv_has ls 6 [(0, .ref a0_0), (1, .ref a1_0), (5, .int x5)] → va_P D classes (wd_NumberWriter_prepare cC cI a0_0 a0_1 a0_2 a1_0 v0 v1) H → va_D A (wd_NumberWriter_prepare cC cI a0_0 a0_1 a0_2 a1_0 v0 v1) → va_S A s.heap H locs → W p l e rm_NumberWriter_prepare s m args below meth c H locs 0 0 (MQ below (q_NumberWriter_prepare D cC cI a0_0 a0_1 a0_2 a1_0 v1 out A) args s 0 0 A) (F0 m 28 ls [])
def f_NumberWriter_prepare_28 (v1 : T_Shape) (v0 : T_NumberWriter) (x5 : Int32) : Option O_NumberWriter_prepare := (f_Decimal_roundTo v0.1 v1.2.2.2.1 x5).bind (fun o38 => if (o38.1 = 0 ∨ o38.1 = 1) then some (o38.1, (o38.2, v0.2.1, v0.2.2.1, v0.2.2.2)) else none)
set_option maxHeartbeats 4000000 in
set_option maxRecDepth 100000 in
theorem w_NumberWriter_prepare_28 {p : Program} {l : Launch} {e : Env} {s : State} {m : MethodId} {args : Array Value} {below : List Frame} {meth : Method} {c : Code} {A : Nat → Prop} {D : va_G} {cC cI : ClassId} {a0_0 a0_1 a0_2 a1_0 : Nat} {v1 : T_Shape} (X : xCX p s m args meth c A D cC cI b_NumberWriter_prepare 6 R_NumberWriter (some .boolean)) {out : O_NumberWriter_prepare}   : J_NumberWriter_prepare_28 p l e s m args below meth c A D cC cI a0_0 a0_1 a0_2 a1_0 v1 out (f_NumberWriter_prepare_28 v1 ) := by
  obtain ⟨hx, hb, hml, hown, htB, ⟨hK, hN⟩, hZ, hA, hr, hlocks⟩ := id X
  intro v0 x5 ls H locs h hl hP hD hS
  refine lv_aload_n hx hb d_NumberWriter_prepare_28 rfl (lv_at hl 0 rfl) ?_
  refine va_get (D := D) (ci := 8) (v := .ref a0_1) (C := R_NumberWriter) (T := F_NumberWriter) (N := 4) hx hb htB in_NumberWriter hown hK hP 0 rfl rfl 0 (by decide) (htB _ b_158) (fun _ h9 => h9) rfl d_NumberWriter_prepare_29 ?_
  refine lv_aload_n hx hb d_NumberWriter_prepare_32 rfl (lv_at hl 1 rfl) ?_
  refine va_getN (D := D) (ci := 2) (v := .int v1.2.2.2.1) (C := R_Shape) (T := F_Shape) (N := 7) hx hb htB in_Shape hown hK hP 3 rfl rfl 3 (by decide) (va_Nw.use rfl (hN _ n_53)) (fun _ h9 => h9) rfl d_NumberWriter_prepare_33 ?_
  refine lv_iload hx hb d_NumberWriter_prepare_36 (lv_at hl 2 rfl) ?_
  obtain ⟨o38, ho38, h⟩ := x_bnd h
  refine x_calli (r0 := o38.1) (ws2 := (wd_NumberWriter_prepare cC cI a0_0 a0_1 a0_2 a1_0 (o38.2, v0.2.1, v0.2.2.1, v0.2.2.2) v1)) (x_runVN (As := [.int v1.2.2.2.1, .int x5]) (rest := []) X (c_Decimal_roundTo l D cC cI H.size a0_1 v0.1 v1.2.2.2.1 x5 o38 ho38) b_168 2 (hN _ n_54) (htB _ b_169) (htB _ b_170) (htB _ b_151) ⟨by decide, by decide, by decide +kernel⟩ ⟨(Nat.le_of_ble_eq_true rfl), (Nat.le_of_ble_eq_true rfl)⟩ 1 rfl rfl hP hD hS [1] rfl (by decide) rfl rfl hl.1 rfl rfl (Nat.le_of_ble_eq_true rfl) d_NumberWriter_prepare_38) hP hD hS hA [1] [0, 2, 3] [0, 3, 1, 2] rfl rfl (by decide) (by decide) rfl (by decide) (fun H locs hP hD hS => ?_)
  obtain ⟨hc, h⟩ := x_chk h
  obtain rfl := Option.some.inj h
  exact W.zret (v := o38.1) (ty := .boolean) hx hb hr (x_zn hc) (fun t ht hW => ⟨⟨o38.1, (), rfl, rfl, by rw [ht]; exact hP, hD⟩, hS.F ht⟩) hS.2.2 d_NumberWriter_prepare_41 hlocks

def f_NumberWriter_prepare (v0 : T_NumberWriter) (v1 : T_Shape) (v2 : Int64) (v3 : Int32) (v4 : Int32) : Option O_NumberWriter_prepare := (f_Decimal_set v0.1 v2 v3).bind (fun o7 => (if v1.2.2.2.2.2.2 = 0 then f_NumberWriter_prepare_28 v1 (o7, (0 : Int32), v0.2.2.1, v0.2.2.2) v4 else (if (lg_cmp v2 (0 : Int64)) = 0 then f_NumberWriter_prepare_28 v1 (o7, (0 : Int32), v0.2.2.1, v0.2.2.2) v4 else (f_NumberWriter_takeExponent (o7, (0 : Int32), v0.2.2.1, v0.2.2.2) v1.2.1).bind (fun o47 => (f_Decimal_roundTo o47.1 v1.2.2.2.1 v4).bind (fun o60 => (if o60.1 = 0 then some ((0 : Int32), (o60.2, o47.2.1, o47.2.2.1, o47.2.2.2)) else (f_NumberWriter_carryExponent (o60.2, o47.2.1, o47.2.2.1, o47.2.2.2) v1.2.1).bind (fun o73 => some ((1 : Int32), o73))))))))
set_option maxHeartbeats 4000000 in
set_option maxRecDepth 100000 in
theorem w_NumberWriter_prepare {p : Program} {l : Launch} {e : Env} {s : State} {m : MethodId} {args : Array Value} {below : List Frame} {meth : Method} {c : Code} {A : Nat → Prop} {D : va_G} {cC cI : ClassId} {a0_0 a0_1 a0_2 a1_0 : Nat} {v1 : T_Shape} (X : xCX p s m args meth c A D cC cI b_NumberWriter_prepare 6 R_NumberWriter (some .boolean)) {out : O_NumberWriter_prepare} (v0 : T_NumberWriter) (v2 : Int64) (v3 : Int32) (v4 : Int32) {ls : Array Slot} {H : Heap} {locs : List Loc} (h : f_NumberWriter_prepare v0 v1 v2 v3 v4 = some out) (hl : lv_has ls 6 [(0, .ref a0_0), (1, .ref a1_0), (2, .long v2), (4, .int v3), (5, .int v4)]) (hP : va_P D classes (wd_NumberWriter_prepare cC cI a0_0 a0_1 a0_2 a1_0 v0 v1) H) (hD : va_D A (wd_NumberWriter_prepare cC cI a0_0 a0_1 a0_2 a1_0 v0 v1)) (hS : va_S A s.heap H locs) : W p l e rm_NumberWriter_prepare s m args below meth c H locs 0 0 (MQ below (q_NumberWriter_prepare D cC cI a0_0 a0_1 a0_2 a1_0 v1 out A) args s 0 0 A) (F0 m 0 ls []) := by
  obtain ⟨hx, hb, hml, hown, htB, ⟨hK, hN⟩, hZ, hA, hr, hlocks⟩ := id X
  refine lv_aload_n hx hb d_NumberWriter_prepare_0 rfl (lv_at hl 0 rfl) ?_
  refine va_get (D := D) (ci := 8) (v := .ref a0_1) (C := R_NumberWriter) (T := F_NumberWriter) (N := 4) hx hb htB in_NumberWriter hown hK hP 0 rfl rfl 0 (by decide) (htB _ b_158) (fun _ h9 => h9) rfl d_NumberWriter_prepare_1 ?_
  refine lv_lload_n hx hb d_NumberWriter_prepare_4 rfl (lv_at hl 2 rfl) ?_
  refine lv_iload hx hb d_NumberWriter_prepare_5 (lv_at hl 3 rfl) ?_
  obtain ⟨o7, ho7, h⟩ := x_bnd h
  refine x_callv (ws2 := (wd_NumberWriter_prepare cC cI a0_0 a0_1 a0_2 a1_0 (o7, v0.2.1, v0.2.2.1, v0.2.2.2) v1)) (x_runVN (As := [.long v2, .int v3]) (rest := []) X (c_Decimal_set l D cC cI H.size a0_1 v0.1 v2 v3 o7 ho7) b_165 2 (hN _ n_51) (htB _ b_166) (htB _ b_167) (htB _ b_151) ⟨by decide, by decide, by decide +kernel⟩ ⟨(Nat.le_of_ble_eq_true rfl), (Nat.le_of_ble_eq_true rfl)⟩ 1 rfl rfl hP hD hS [1] rfl (by decide) rfl rfl hl.1 rfl rfl (Nat.le_of_ble_eq_true rfl) d_NumberWriter_prepare_7) hP hD hS hA [1] [0, 2, 3] [0, 3, 1, 2] rfl rfl (by decide) (by decide) rfl (by decide) (fun H locs hP hD hS => ?_)
  refine lv_aload_n hx hb d_NumberWriter_prepare_10 rfl (lv_at hl 0 rfl) ?_
  refine lv_iconst (v := 0) hx hb d_NumberWriter_prepare_11 (by decide) ?_
  refine va_put (D := D) (ci := 8) (v := .int (0 : Int32)) (ty := .int) (C := R_NumberWriter) (T := F_NumberWriter) (N := 4) hx hb htB in_NumberWriter t_NumberWriter t_NumberWriter_ok n_NumberWriter hown hK hP hD hS 0 rfl rfl 1 (by decide) (htB _ b_161) (fun _ h9 => h9) rfl (by decide +kernel) rfl rfl (Nat.le_of_ble_eq_true rfl) d_NumberWriter_prepare_12 (fun H locs hP hD hS => ?_)
  have hP : va_P D classes (wd_NumberWriter_prepare cC cI a0_0 a0_1 a0_2 a1_0 (o7, (0 : Int32), v0.2.2.1, v0.2.2.2) v1) H := hP
  have hD : va_D A (wd_NumberWriter_prepare cC cI a0_0 a0_1 a0_2 a1_0 (o7, (0 : Int32), v0.2.2.1, v0.2.2.2) v1) := hD
  refine lv_aload_n hx hb d_NumberWriter_prepare_15 rfl (lv_at hl 1 rfl) ?_
  refine va_getN (D := D) (ci := 2) (v := .int v1.2.2.2.2.2.2) (C := R_Shape) (T := F_Shape) (N := 7) hx hb htB in_Shape hown hK hP 3 rfl rfl 6 (by decide) (va_Nw.use rfl (hN _ n_52)) (fun _ h9 => h9) rfl d_NumberWriter_prepare_16 ?_
  refine lv_if_eq (tgt := 28) hx hb d_NumberWriter_prepare_19 rfl (fun hc => ?_) (fun hc => ?_)
  · have h := (if_pos hc).symm.trans h
    exact w_NumberWriter_prepare_28 X (o7, (0 : Int32), v0.2.2.1, v0.2.2.2) v4 ls H locs h (lv_sub hl [0, 1, 4] rfl) hP hD hS
  have h := (if_neg hc).symm.trans h
  refine lv_lload_n hx hb d_NumberWriter_prepare_22 rfl (lv_at hl 2 rfl) ?_
  refine lv_lconst (v := 0) hx hb d_NumberWriter_prepare_23 (by decide) ?_
  refine W.lcmp hx hb d_NumberWriter_prepare_24 ?_
  refine lv_if_ne (tgt := 42) hx hb d_NumberWriter_prepare_25 rfl (fun hc => ?_) (fun hc => ?_)
  · have h := (if_neg hc).symm.trans h
    refine lv_aload_n hx hb d_NumberWriter_prepare_42 rfl (lv_at hl 0 rfl) ?_
    refine lv_aload_n hx hb d_NumberWriter_prepare_43 rfl (lv_at hl 1 rfl) ?_
    refine va_getN (D := D) (ci := 2) (v := .int v1.2.1) (C := R_Shape) (T := F_Shape) (N := 7) hx hb htB in_Shape hown hK hP 3 rfl rfl 1 (by decide) (va_Nw.use rfl (hN _ n_55)) (fun _ h9 => h9) rfl d_NumberWriter_prepare_44 ?_
    obtain ⟨o47, ho47, h⟩ := x_bnd h
    refine x_callv (ws2 := (wd_NumberWriter_prepare cC cI a0_0 a0_1 a0_2 a1_0 o47 v1)) (x_runV (As := [.int v1.2.1]) (rest := []) X (c_NumberWriter_takeExponent l D cC cI H.size a0_0 a0_1 a0_2 (o7, (0 : Int32), v0.2.2.1, v0.2.2.2) v1.2.1 o47 ho47) b_171 1 (htB _ b_175) (htB _ b_173) (htB _ b_174) (htB _ b_172) ⟨by decide, by decide, by decide +kernel⟩ ⟨(Nat.le_of_ble_eq_true rfl), (Nat.le_of_ble_eq_true rfl)⟩ 0 rfl rfl hP hD hS [0, 1, 2] rfl (by decide) rfl rfl hl.1 rfl rfl (Nat.le_of_ble_eq_true rfl) d_NumberWriter_prepare_47) hP hD hS hA [0, 1, 2] [3] [1, 2, 3, 0] rfl rfl (by decide) (by decide) rfl (by decide) (fun H locs hP hD hS => ?_)
    refine lv_aload_n hx hb d_NumberWriter_prepare_50 rfl (lv_at hl 0 rfl) ?_
    refine va_get (D := D) (ci := 8) (v := .ref a0_1) (C := R_NumberWriter) (T := F_NumberWriter) (N := 4) hx hb htB in_NumberWriter hown hK hP 0 rfl rfl 0 (by decide) (htB _ b_158) (fun _ h9 => h9) rfl d_NumberWriter_prepare_51 ?_
    refine lv_aload_n hx hb d_NumberWriter_prepare_54 rfl (lv_at hl 1 rfl) ?_
    refine va_getN (D := D) (ci := 2) (v := .int v1.2.2.2.1) (C := R_Shape) (T := F_Shape) (N := 7) hx hb htB in_Shape hown hK hP 3 rfl rfl 3 (by decide) (va_Nw.use rfl (hN _ n_53)) (fun _ h9 => h9) rfl d_NumberWriter_prepare_55 ?_
    refine lv_iload hx hb d_NumberWriter_prepare_58 (lv_at hl 4 rfl) ?_
    obtain ⟨o60, ho60, h⟩ := x_bnd h
    refine x_calli (r0 := o60.1) (ws2 := (wd_NumberWriter_prepare cC cI a0_0 a0_1 a0_2 a1_0 (o60.2, o47.2.1, o47.2.2.1, o47.2.2.2) v1)) (x_runVN (As := [.int v1.2.2.2.1, .int v4]) (rest := []) X (c_Decimal_roundTo l D cC cI H.size a0_1 o47.1 v1.2.2.2.1 v4 o60 ho60) b_168 2 (hN _ n_54) (htB _ b_169) (htB _ b_170) (htB _ b_151) ⟨by decide, by decide, by decide +kernel⟩ ⟨(Nat.le_of_ble_eq_true rfl), (Nat.le_of_ble_eq_true rfl)⟩ 1 rfl rfl hP hD hS [1] rfl (by decide) rfl rfl hl.1 rfl rfl (Nat.le_of_ble_eq_true rfl) d_NumberWriter_prepare_60) hP hD hS hA [1] [0, 2, 3] [0, 3, 1, 2] rfl rfl (by decide) (by decide) rfl (by decide) (fun H locs hP hD hS => ?_)
    refine lv_if_ne (tgt := 68) hx hb d_NumberWriter_prepare_63 rfl (fun hc => ?_) (fun hc => ?_)
    · have h := (if_neg hc).symm.trans h
      refine lv_aload_n hx hb d_NumberWriter_prepare_68 rfl (lv_at hl 0 rfl) ?_
      refine lv_aload_n hx hb d_NumberWriter_prepare_69 rfl (lv_at hl 1 rfl) ?_
      refine va_getN (D := D) (ci := 2) (v := .int v1.2.1) (C := R_Shape) (T := F_Shape) (N := 7) hx hb htB in_Shape hown hK hP 3 rfl rfl 1 (by decide) (va_Nw.use rfl (hN _ n_55)) (fun _ h9 => h9) rfl d_NumberWriter_prepare_70 ?_
      obtain ⟨o73, ho73, h⟩ := x_bnd h
      refine x_callv (ws2 := (wd_NumberWriter_prepare cC cI a0_0 a0_1 a0_2 a1_0 o73 v1)) (x_runV (As := [.int v1.2.1]) (rest := []) X (c_NumberWriter_carryExponent l D cC cI H.size a0_0 a0_1 a0_2 (o60.2, o47.2.1, o47.2.2.1, o47.2.2.2) v1.2.1 o73 ho73) b_176 1 (htB _ b_179) (htB _ b_177) (htB _ b_178) (htB _ b_172) ⟨by decide, by decide, by decide +kernel⟩ ⟨(Nat.le_of_ble_eq_true rfl), (Nat.le_of_ble_eq_true rfl)⟩ 0 rfl rfl hP hD hS [0, 1, 2] rfl (by decide) rfl rfl hl.1 rfl rfl (Nat.le_of_ble_eq_true rfl) d_NumberWriter_prepare_73) hP hD hS hA [0, 1, 2] [3] [1, 2, 3, 0] rfl rfl (by decide) (by decide) rfl (by decide) (fun H locs hP hD hS => ?_)
      refine lv_iconst (v := 1) hx hb d_NumberWriter_prepare_76 (by decide) ?_
      obtain rfl := Option.some.inj h
      exact W.zret (v := (1 : Int32)) (ty := .boolean) hx hb hr rfl (fun t ht hW => ⟨⟨(1 : Int32), (), rfl, rfl, by rw [ht]; exact hP, hD⟩, hS.F ht⟩) hS.2.2 d_NumberWriter_prepare_77 hlocks
    have h := (if_pos hc).symm.trans h
    refine lv_iconst (v := 0) hx hb d_NumberWriter_prepare_66 (by decide) ?_
    obtain rfl := Option.some.inj h
    exact W.zret (v := (0 : Int32)) (ty := .boolean) hx hb hr rfl (fun t ht hW => ⟨⟨(0 : Int32), (), rfl, rfl, by rw [ht]; exact hP, hD⟩, hS.F ht⟩) hS.2.2 d_NumberWriter_prepare_67 hlocks
  have h := (if_pos hc).symm.trans h
  exact w_NumberWriter_prepare_28 X (o7, (0 : Int32), v0.2.2.1, v0.2.2.2) v4 ls H locs h (lv_sub hl [0, 1, 4] rfl) hP hD hS

set_option maxHeartbeats 4000000 in
set_option maxRecDepth 100000 in
theorem c_NumberWriter_prepare (l : Launch) (D : va_G) (cC cI : ClassId) (sz : Nat) (a0_0 a0_1 a0_2 a1_0 : Nat) (v0 : T_NumberWriter) (v1 : T_Shape) (v2 : Int64) (v3 : Int32) (v4 : Int32) (out : O_NumberWriter_prepare) (h : f_NumberWriter_prepare v0 v1 v2 v3 v4 = some out) : Met l y_NumberWriter_prepare (.code y_NumberWriter_prepare b_NumberWriter_prepare 6 (some .boolean) :: BIG) rm_NumberWriter_prepare (va_Pc [.ref a0_0, .ref a1_0, .long v2, .int v3, .int v4] (xPre D cC cI (wd_NumberWriter_prepare cC cI a0_0 a0_1 a0_2 a1_0 v0 v1) sz)) (q_NumberWriter_prepare D cC cI a0_0 a0_1 a0_2 a1_0 v1 out (va_A (wd_NumberWriter_prepare cC cI a0_0 a0_1 a0_2 a1_0 v0 v1) sz)) 0 0 (va_A (wd_NumberWriter_prepare cC cI a0_0 a0_1 a0_2 a1_0 v0 v1) sz) := by
  refine Met.ofW (cc := b_NumberWriter_prepare) (maxL := 6) (ret := (some .boolean)) (by decide) rfl ?_
  intro p e s m args below meth c s₁ B hml hv
  obtain ⟨rfl, rfl, hP, hD0, hG, hZ⟩ := hv
  have hl := lv_entry [.ref a0_0, .ref a1_0, .long v2, .int v3, .int v4] (n := 6) (Nat.le_of_ble_eq_true rfl)
  rw [lg_entry_eq]
  exact w_NumberWriter_prepare (x_cx B hml hG hZ) v0 v2 v3 v4 h hl hP hD0.self va_S.rf

abbrev wd_NumberWriter_shownFraction (cC cI : ClassId) (a0_0 a0_1 a0_2 a1_0 : Nat) (v0 : T_NumberWriter) (v1 : T_Shape) : va_W := [(a0_0, .inr (8, [.ref a0_1, .int v0.2.1, .ref a0_2, .int v0.2.2.2])), (a0_1, .inr (7, [.int v0.1.1, .long v0.1.2.1, .int v0.1.2.2])), (a0_2, .inl (cI, 6, .inl v0.2.2.1)), (a1_0, .inr (2, [.int v1.1, .int v1.2.1, .int v1.2.2.1, .int v1.2.2.2.1, .int v1.2.2.2.2.1, .int v1.2.2.2.2.2.1, .int v1.2.2.2.2.2.2]))]
abbrev O_NumberWriter_shownFraction : Type := Int32
abbrev q_NumberWriter_shownFraction (D : va_G) (cC cI : ClassId) (a0_0 a0_1 a0_2 a1_0 : Nat) (v0 : T_NumberWriter) (v1 : T_Shape) (out : O_NumberWriter_shownFraction) (A : Nat → Prop) : Array Value → State → Outcome → State → Prop := va_Qi (fun r (_ : Unit) => r = out) (fun _ t => va_P D classes (wd_NumberWriter_shownFraction cC cI a0_0 a0_1 a0_2 a1_0 v0 v1) t.heap ∧ va_D A (wd_NumberWriter_shownFraction cC cI a0_0 a0_1 a0_2 a1_0 v0 v1)) A
abbrev rm_NumberWriter_shownFraction : Room := { frames := 3, cells := 0, slots := 0, locals := 64 }
def f_NumberWriter_shownFraction (v0 : T_NumberWriter) (v1 : T_Shape) : Option O_NumberWriter_shownFraction := (f_Decimal_fractionCount v0.1).bind (fun o4 => some (if o4 < v1.2.2.1 then v1.2.2.1 else o4))
set_option maxHeartbeats 4000000 in
set_option maxRecDepth 100000 in
theorem w_NumberWriter_shownFraction {p : Program} {l : Launch} {e : Env} {s : State} {m : MethodId} {args : Array Value} {below : List Frame} {meth : Method} {c : Code} {A : Nat → Prop} {D : va_G} {cC cI : ClassId} {a0_0 a0_1 a0_2 a1_0 : Nat} {v0 : T_NumberWriter} {v1 : T_Shape} (X : xCX p s m args meth c A D cC cI b_NumberWriter_shownFraction 2 R_NumberWriter (some .int)) {out : O_NumberWriter_shownFraction}  {ls : Array Slot} {H : Heap} {locs : List Loc} (h : f_NumberWriter_shownFraction v0 v1 = some out) (hl : lv_has ls 2 [(0, .ref a0_0), (1, .ref a1_0)]) (hP : va_P D classes (wd_NumberWriter_shownFraction cC cI a0_0 a0_1 a0_2 a1_0 v0 v1) H) (hD : va_D A (wd_NumberWriter_shownFraction cC cI a0_0 a0_1 a0_2 a1_0 v0 v1)) (hS : va_S A s.heap H locs) : W p l e rm_NumberWriter_shownFraction s m args below meth c H locs 0 0 (MQ below (q_NumberWriter_shownFraction D cC cI a0_0 a0_1 a0_2 a1_0 v0 v1 out A) args s 0 0 A) (F0 m 0 ls []) := by
  obtain ⟨hx, hb, hml, hown, htB, ⟨hK, hN⟩, hZ, hA, hr, hlocks⟩ := id X
  refine lv_aload_n hx hb d_NumberWriter_shownFraction_0 rfl (lv_at hl 0 rfl) ?_
  refine va_get (D := D) (ci := 8) (v := .ref a0_1) (C := R_NumberWriter) (T := F_NumberWriter) (N := 4) hx hb htB in_NumberWriter hown hK hP 0 rfl rfl 0 (by decide) (htB _ b_158) (fun _ h9 => h9) rfl d_NumberWriter_shownFraction_1 ?_
  obtain ⟨o4, ho4, h⟩ := x_bnd h
  refine x_calli (r0 := o4) (ws2 := (wd_NumberWriter_shownFraction cC cI a0_0 a0_1 a0_2 a1_0 v0 v1)) (x_runVN (As := []) (rest := []) X (c_Decimal_fractionCount l D cC cI H.size a0_1 v0.1 o4 ho4) b_180 0 (hN _ n_56) (htB _ b_181) (htB _ b_182) (htB _ b_151) ⟨by decide, by decide, by decide +kernel⟩ ⟨(Nat.le_of_ble_eq_true rfl), (Nat.le_of_ble_eq_true rfl)⟩ 1 rfl rfl hP hD hS [1] rfl (by decide) rfl rfl hl.1 rfl rfl (Nat.le_of_ble_eq_true rfl) d_NumberWriter_shownFraction_4) hP hD hS hA [1] [0, 2, 3] [0, 3, 1, 2] rfl rfl (by decide) (by decide) rfl (by decide) (fun H locs hP hD hS => ?_)
  refine lv_aload_n hx hb d_NumberWriter_shownFraction_7 rfl (lv_at hl 1 rfl) ?_
  refine va_getN (D := D) (ci := 2) (v := .int v1.2.2.1) (C := R_Shape) (T := F_Shape) (N := 7) hx hb htB in_Shape hown hK hP 3 rfl rfl 2 (by decide) (va_Nw.use rfl (hN _ n_57)) (fun _ h9 => h9) rfl d_NumberWriter_shownFraction_8 ?_
  refine va_mmax hx hb (hml.trans hl.1.symm) hown (htB _ b_183) (htB _ b_107) (htB _ b_108) (htB _ b_109) (Nat.le_of_ble_eq_true rfl) (Nat.le_of_ble_eq_true rfl) (Nat.le_of_ble_eq_true rfl) (Nat.le_of_ble_eq_true rfl) d_NumberWriter_shownFraction_11 ?_
  obtain rfl := Option.some.inj h
  exact W.iret (v := (if o4 < v1.2.2.1 then v1.2.2.1 else o4)) hx hb hr (fun t ht hW => ⟨⟨(if o4 < v1.2.2.1 then v1.2.2.1 else o4), (), rfl, rfl, by rw [ht]; exact hP, hD⟩, hS.F ht⟩) hS.2.2 d_NumberWriter_shownFraction_14 hlocks

set_option maxHeartbeats 4000000 in
set_option maxRecDepth 100000 in
theorem c_NumberWriter_shownFraction (l : Launch) (D : va_G) (cC cI : ClassId) (sz : Nat) (a0_0 a0_1 a0_2 a1_0 : Nat) (v0 : T_NumberWriter) (v1 : T_Shape) (out : O_NumberWriter_shownFraction) (h : f_NumberWriter_shownFraction v0 v1 = some out) : Met l y_NumberWriter_shownFraction (.code y_NumberWriter_shownFraction b_NumberWriter_shownFraction 2 (some .int) :: BIG) rm_NumberWriter_shownFraction (va_Pc [.ref a0_0, .ref a1_0] (xPre D cC cI (wd_NumberWriter_shownFraction cC cI a0_0 a0_1 a0_2 a1_0 v0 v1) sz)) (q_NumberWriter_shownFraction D cC cI a0_0 a0_1 a0_2 a1_0 v0 v1 out (va_A (wd_NumberWriter_shownFraction cC cI a0_0 a0_1 a0_2 a1_0 v0 v1) sz)) 0 0 (va_A (wd_NumberWriter_shownFraction cC cI a0_0 a0_1 a0_2 a1_0 v0 v1) sz) := by
  refine Met.ofW (cc := b_NumberWriter_shownFraction) (maxL := 2) (ret := (some .int)) (by decide) rfl ?_
  intro p e s m args below meth c s₁ B hml hv
  obtain ⟨rfl, rfl, hP, hD0, hG, hZ⟩ := hv
  have hl := lv_entry [.ref a0_0, .ref a1_0] (n := 2) (Nat.le_of_ble_eq_true rfl)
  rw [lg_entry_eq]
  exact w_NumberWriter_shownFraction (x_cx B hml hG hZ) h hl hP hD0.self va_S.rf

abbrev wd_NumberWriter_writeDigits (cC cI : ClassId) (a3_0 a3_1 : Nat) (v3 : T_Row) : va_W := [(a3_0, .inr (0, [.ref a3_1, .int v3.2])), (a3_1, .inl (cC, 120, .inl v3.1))]
abbrev O_NumberWriter_writeDigits : Type := T_Row
abbrev q_NumberWriter_writeDigits (D : va_G) (cC cI : ClassId) (a3_0 a3_1 : Nat)  (out : O_NumberWriter_writeDigits) (A : Nat → Prop) : Array Value → State → Outcome → State → Prop := va_Qv (fun _ : Unit => True) (fun _ t => va_P D classes (wd_NumberWriter_writeDigits cC cI a3_0 a3_1 out) t.heap ∧ va_D A (wd_NumberWriter_writeDigits cC cI a3_0 a3_1 out)) A
abbrev rm_NumberWriter_writeDigits : Room := { frames := 2, cells := 0, slots := 0, locals := 41 }
def J_NumberWriter_writeDigits_3 (p : Program) (l : Launch) (e : Env) (s : State) (m : MethodId) (args : Array Value) (below : List Frame) (meth : Method) (c : Code) (A : Nat → Prop) (D : va_G) (cC cI : ClassId) (a3_0 a3_1 : Nat) (out : O_NumberWriter_writeDigits) (k : T_Row → Int64 → Int32 → Int32 → Int32 → Option O_NumberWriter_writeDigits) : Prop := ∀ (v3 : T_Row) (x0 : Int64) (x2 : Int32) (x3 : Int32) (x5 : Int32) (ls : Array Slot) (H : Heap) (locs : List Loc), k v3 x0 x2 x3 x5 = some out → lv_has ls 6 [(0, .long x0), (2, .int x2), (3, .int x3), (4, .ref a3_0), (5, .int x5)] → va_P D classes (wd_NumberWriter_writeDigits cC cI a3_0 a3_1 v3) H → va_D A (wd_NumberWriter_writeDigits cC cI a3_0 a3_1 v3) → va_S A s.heap H locs → W p l e rm_NumberWriter_writeDigits s m args below meth c H locs 0 0 (MQ below (q_NumberWriter_writeDigits D cC cI a3_0 a3_1 out A) args s 0 0 A) (F0 m 3 ls [])
def J_NumberWriter_writeDigits_33 (p : Program) (l : Launch) (e : Env) (s : State) (m : MethodId) (args : Array Value) (below : List Frame) (meth : Method) (c : Code) (A : Nat → Prop) (D : va_G) (cC cI : ClassId) (a3_0 a3_1 : Nat) (out : O_NumberWriter_writeDigits) (k : T_Row → Int64 → Int32 → Int32 → Int32 → Option O_NumberWriter_writeDigits) : Prop := ∀ (v3 : T_Row) (x0 : Int64) (x2 : Int32) (x3 : Int32) (x5 : Int32) (ls : Array Slot) (H : Heap) (locs : List Loc), k v3 x0 x2 x3 x5 = some out → lv_has ls 6 [(0, .long x0), (2, .int x2), (3, .int x3), (4, .ref a3_0), (5, .int x5)] → va_P D classes (wd_NumberWriter_writeDigits cC cI a3_0 a3_1 v3) H → va_D A (wd_NumberWriter_writeDigits cC cI a3_0 a3_1 v3) → va_S A s.heap H locs → W p l e rm_NumberWriter_writeDigits s m args below meth c H locs 0 0 (MQ below (q_NumberWriter_writeDigits D cC cI a3_0 a3_1 out A) args s 0 0 A) (F0 m 33 ls [])
def f_NumberWriter_writeDigits_33 (k3 : T_Row → Int64 → Int32 → Int32 → Int32 → Option O_NumberWriter_writeDigits) (v3 : T_Row) (x0 : Int64) (x2 : Int32) (x3 : Int32) (x5 : Int32) : Option O_NumberWriter_writeDigits := (f_Deci_tenTo (x5 - (1 : Int32))).bind (fun o42 => if ¬ o42 = 0 then (f_Row_add v3 (i2c ((48 : Int32) + ((x0 / o42) - (x0 / o42) / (10 : Int64) * (10 : Int64)).toInt32))).bind (fun o53 => k3 o53.2 x0 x2 x3 (x5 + (-1 : Int32))) else none)
set_option maxHeartbeats 4000000 in
set_option maxRecDepth 100000 in
theorem w_NumberWriter_writeDigits_33 {p : Program} {l : Launch} {e : Env} {s : State} {m : MethodId} {args : Array Value} {below : List Frame} {meth : Method} {c : Code} {A : Nat → Prop} {D : va_G} {cC cI : ClassId} {a3_0 a3_1 : Nat} (X : xCX p s m args meth c A D cC cI b_NumberWriter_writeDigits 6 R_NumberWriter none) {out : O_NumberWriter_writeDigits} {k3 : T_Row → Int64 → Int32 → Int32 → Int32 → Option O_NumberWriter_writeDigits} (hk3 : J_NumberWriter_writeDigits_3 p l e s m args below meth c A D cC cI a3_0 a3_1 out k3) : J_NumberWriter_writeDigits_33 p l e s m args below meth c A D cC cI a3_0 a3_1 out (f_NumberWriter_writeDigits_33  k3) := by
  obtain ⟨hx, hb, hml, hown, htB, ⟨hK, hN⟩, hZ, hA, hr, hlocks⟩ := id X
  intro v3 x0 x2 x3 x5 ls H locs h hl hP hD hS
  refine lv_aload hx hb d_NumberWriter_writeDigits_33 (lv_at hl 3 rfl) ?_
  refine lv_bipush (v := 48) hx hb d_NumberWriter_writeDigits_35 (by decide) ?_
  refine lv_lload_n hx hb d_NumberWriter_writeDigits_37 rfl (lv_at hl 0 rfl) ?_
  refine lv_iload hx hb d_NumberWriter_writeDigits_38 (lv_at hl 4 rfl) ?_
  refine lv_iconst (v := 1) hx hb d_NumberWriter_writeDigits_40 (by decide) ?_
  refine lv_isub hx hb d_NumberWriter_writeDigits_41 ?_
  obtain ⟨o42, ho42, h⟩ := x_bnd h
  refine x_calll (r0 := o42) (ws2 := (wd_NumberWriter_writeDigits cC cI a3_0 a3_1 v3)) (x_runSN (As := [.int (x5 - (1 : Int32))]) (rest := [.long x0, .int (48 : Int32), .ref a3_0]) X (c_Deci_tenTo l D cC cI H.size (x5 - (1 : Int32)) o42 ho42) b_143 1 (hN _ n_49) (htB _ b_144) (htB _ b_56) ⟨by decide, by decide, by decide +kernel⟩ ⟨(Nat.le_of_ble_eq_true rfl), (Nat.le_of_ble_eq_true rfl)⟩ hP hD hS [] rfl (by decide) rfl rfl hl.1 rfl rfl (Nat.le_of_ble_eq_true rfl) d_NumberWriter_writeDigits_42) hP hD hS hA [] [0, 1] [0, 1] rfl rfl (by decide) (by decide) rfl (by decide) (fun H locs hP hD hS => ?_)
  obtain ⟨hc, h⟩ := x_chk h
  refine lv_ldiv hx hb d_NumberWriter_writeDigits_45 hc ?_
  refine lv_ldc2 (v := 10) hx hb hown (htB _ b_184) d_NumberWriter_writeDigits_46 ?_
  refine lv_lrem hx hb d_NumberWriter_writeDigits_49 (by decide) ?_
  refine lv_l2i hx hb d_NumberWriter_writeDigits_50 rfl ?_
  refine lv_iadd hx hb d_NumberWriter_writeDigits_51 ?_
  refine lv_i2c (v := i2c ((48 : Int32) + ((x0 / o42) - (x0 / o42) / (10 : Int64) * (10 : Int64)).toInt32)) hx hb d_NumberWriter_writeDigits_52 rfl ?_
  obtain ⟨o53, ho53, h⟩ := x_bnd h
  refine x_calli (r0 := o53.1) (ws2 := (wd_NumberWriter_writeDigits cC cI a3_0 a3_1 o53.2)) (x_runVN (As := [.int (i2c ((48 : Int32) + ((x0 / o42) - (x0 / o42) / (10 : Int64) * (10 : Int64)).toInt32))]) (rest := []) X (c_Row_add l D cC cI H.size a3_0 a3_1 v3 (i2c ((48 : Int32) + ((x0 / o42) - (x0 / o42) / (10 : Int64) * (10 : Int64)).toInt32)) o53 ho53) b_21 1 (hN _ n_58) (htB _ b_23) (htB _ b_24) (htB _ b_22) ⟨by decide, by decide, by decide +kernel⟩ ⟨(Nat.le_of_ble_eq_true rfl), (Nat.le_of_ble_eq_true rfl)⟩ 0 rfl rfl hP hD hS [0, 1] rfl (by decide) rfl rfl hl.1 rfl rfl (Nat.le_of_ble_eq_true rfl) d_NumberWriter_writeDigits_53) hP hD hS hA [0, 1] [] [0, 1] rfl rfl (by decide) (by decide) rfl (by decide) (fun H locs hP hD hS => ?_)
  refine lv_pop hx hb d_NumberWriter_writeDigits_56 rfl ?_
  refine lv_iinc (k := 4) (v := (x5 + (-1 : Int32))) (lv' := [(5, .int (x5 + (-1 : Int32))), (0, .long x0), (2, .int x2), (3, .int x3), (4, .ref a3_0)]) hx hb d_NumberWriter_writeDigits_57 hl rfl (congrArg (fun z => x5 + z) (by decide : Int32.ofInt (-1) = (-1 : Int32))) (by decide) rfl (fun ls hl => ?_)
  refine lv_goto (tgt := 3) hx hb d_NumberWriter_writeDigits_60 rfl ?_
  exact hk3 o53.2 x0 x2 x3 (x5 + (-1 : Int32)) ls H locs h (lv_sub hl [1, 2, 3, 4, 0] rfl) hP hD hS

def f_NumberWriter_writeDigits_3   : Nat → T_Row → Int64 → Int32 → Int32 → Int32 → Option O_NumberWriter_writeDigits
  | 0, _, _, _, _, _ => none
  | n + 1, v3, x0, x2, x3, x5 => (if x5 ≤ 0 then some v3 else (if x3 ≤ 0 then f_NumberWriter_writeDigits_33 (f_NumberWriter_writeDigits_3  n) v3 x0 x2 x3 x5 else (if x2 ≤ x5 then f_NumberWriter_writeDigits_33 (f_NumberWriter_writeDigits_3  n) v3 x0 x2 x3 x5 else if ¬ x3 = 0 then (if (x5 - x5 / x3 * x3) = 0 then (f_Row_add v3 (44 : Int32)).bind (fun o29 => f_NumberWriter_writeDigits_33 (f_NumberWriter_writeDigits_3  n) o29.2 x0 x2 x3 x5) else f_NumberWriter_writeDigits_33 (f_NumberWriter_writeDigits_3  n) v3 x0 x2 x3 x5) else none)))
set_option maxHeartbeats 4000000 in
set_option maxRecDepth 100000 in
theorem w_NumberWriter_writeDigits_3 {p : Program} {l : Launch} {e : Env} {s : State} {m : MethodId} {args : Array Value} {below : List Frame} {meth : Method} {c : Code} {A : Nat → Prop} {D : va_G} {cC cI : ClassId} {a3_0 a3_1 : Nat} (X : xCX p s m args meth c A D cC cI b_NumberWriter_writeDigits 6 R_NumberWriter none) {out : O_NumberWriter_writeDigits}   : ∀ n : Nat, J_NumberWriter_writeDigits_3 p l e s m args below meth c A D cC cI a3_0 a3_1 out (f_NumberWriter_writeDigits_3   n) := by
  obtain ⟨hx, hb, hml, hown, htB, ⟨hK, hN⟩, hZ, hA, hr, hlocks⟩ := id X
  intro n
  induction n with
  | zero =>
    intro v3 x0 x2 x3 x5 ls H locs h hl hP hD hS
    cases h
  | succ n ih =>
    intro v3 x0 x2 x3 x5 ls H locs h hl hP hD hS
    refine lv_iload hx hb d_NumberWriter_writeDigits_3 (lv_at hl 4 rfl) ?_
    refine lv_if_le (tgt := 63) hx hb d_NumberWriter_writeDigits_5 rfl (fun hc => ?_) (fun hc => ?_)
    · have h := (if_pos hc).symm.trans h
      obtain rfl := Option.some.inj h
      exact W.vret hx hb hr (fun t ht hW => ⟨⟨(), rfl, trivial, by rw [ht]; exact hP, hD⟩, hS.F ht⟩) hS.2.2 d_NumberWriter_writeDigits_63 hlocks
    have h := (if_neg hc).symm.trans h
    refine lv_iload_n hx hb d_NumberWriter_writeDigits_8 rfl (lv_at hl 2 rfl) ?_
    refine lv_if_le (tgt := 33) hx hb d_NumberWriter_writeDigits_9 rfl (fun hc => ?_) (fun hc => ?_)
    · have h := (if_pos hc).symm.trans h
      exact w_NumberWriter_writeDigits_33 X ih v3 x0 x2 x3 x5 ls H locs h (lv_sub hl [0, 1, 2, 3, 4] rfl) hP hD hS
    have h := (if_neg hc).symm.trans h
    refine lv_iload hx hb d_NumberWriter_writeDigits_12 (lv_at hl 4 rfl) ?_
    refine lv_iload_n hx hb d_NumberWriter_writeDigits_14 rfl (lv_at hl 1 rfl) ?_
    refine lv_icmp_ge (tgt := 33) hx hb d_NumberWriter_writeDigits_15 rfl (fun hc => ?_) (fun hc => ?_)
    · have h := (if_pos hc).symm.trans h
      exact w_NumberWriter_writeDigits_33 X ih v3 x0 x2 x3 x5 ls H locs h (lv_sub hl [0, 1, 2, 3, 4] rfl) hP hD hS
    have h := (if_neg hc).symm.trans h
    refine lv_iload hx hb d_NumberWriter_writeDigits_18 (lv_at hl 4 rfl) ?_
    refine lv_iload_n hx hb d_NumberWriter_writeDigits_20 rfl (lv_at hl 2 rfl) ?_
    obtain ⟨hc, h⟩ := x_chk h
    refine lv_irem hx hb d_NumberWriter_writeDigits_21 hc ?_
    refine lv_if_ne (tgt := 33) hx hb d_NumberWriter_writeDigits_22 rfl (fun hc => ?_) (fun hc => ?_)
    · have h := (if_neg hc).symm.trans h
      exact w_NumberWriter_writeDigits_33 X ih v3 x0 x2 x3 x5 ls H locs h (lv_sub hl [0, 1, 2, 3, 4] rfl) hP hD hS
    have h := (if_pos hc).symm.trans h
    refine lv_aload hx hb d_NumberWriter_writeDigits_25 (lv_at hl 3 rfl) ?_
    refine lv_bipush (v := 44) hx hb d_NumberWriter_writeDigits_27 (by decide) ?_
    obtain ⟨o29, ho29, h⟩ := x_bnd h
    refine x_calli (r0 := o29.1) (ws2 := (wd_NumberWriter_writeDigits cC cI a3_0 a3_1 o29.2)) (x_runVN (As := [.int (44 : Int32)]) (rest := []) X (c_Row_add l D cC cI H.size a3_0 a3_1 v3 (44 : Int32) o29 ho29) b_21 1 (hN _ n_58) (htB _ b_23) (htB _ b_24) (htB _ b_22) ⟨by decide, by decide, by decide +kernel⟩ ⟨(Nat.le_of_ble_eq_true rfl), (Nat.le_of_ble_eq_true rfl)⟩ 0 rfl rfl hP hD hS [0, 1] rfl (by decide) rfl rfl hl.1 rfl rfl (Nat.le_of_ble_eq_true rfl) d_NumberWriter_writeDigits_29) hP hD hS hA [0, 1] [] [0, 1] rfl rfl (by decide) (by decide) rfl (by decide) (fun H locs hP hD hS => ?_)
    refine lv_pop hx hb d_NumberWriter_writeDigits_32 rfl ?_
    exact w_NumberWriter_writeDigits_33 X ih o29.2 x0 x2 x3 x5 ls H locs h (lv_sub hl [0, 1, 2, 3, 4] rfl) hP hD hS

def f_NumberWriter_writeDigits (v0 : Int64) (v1 : Int32) (v2 : Int32) (v3 : T_Row) : Option O_NumberWriter_writeDigits := f_NumberWriter_writeDigits_3 FU v3 v0 v1 v2 v1
set_option maxHeartbeats 4000000 in
set_option maxRecDepth 100000 in
theorem w_NumberWriter_writeDigits {p : Program} {l : Launch} {e : Env} {s : State} {m : MethodId} {args : Array Value} {below : List Frame} {meth : Method} {c : Code} {A : Nat → Prop} {D : va_G} {cC cI : ClassId} {a3_0 a3_1 : Nat} (X : xCX p s m args meth c A D cC cI b_NumberWriter_writeDigits 6 R_NumberWriter none) {out : O_NumberWriter_writeDigits} (v0 : Int64) (v1 : Int32) (v2 : Int32) (v3 : T_Row) {ls : Array Slot} {H : Heap} {locs : List Loc} (h : f_NumberWriter_writeDigits v0 v1 v2 v3 = some out) (hl : lv_has ls 6 [(0, .long v0), (2, .int v1), (3, .int v2), (4, .ref a3_0)]) (hP : va_P D classes (wd_NumberWriter_writeDigits cC cI a3_0 a3_1 v3) H) (hD : va_D A (wd_NumberWriter_writeDigits cC cI a3_0 a3_1 v3)) (hS : va_S A s.heap H locs) : W p l e rm_NumberWriter_writeDigits s m args below meth c H locs 0 0 (MQ below (q_NumberWriter_writeDigits D cC cI a3_0 a3_1 out A) args s 0 0 A) (F0 m 0 ls []) := by
  obtain ⟨hx, hb, hml, hown, htB, ⟨hK, hN⟩, hZ, hA, hr, hlocks⟩ := id X
  refine lv_iload_n hx hb d_NumberWriter_writeDigits_0 rfl (lv_at hl 1 rfl) ?_
  refine lv_istore (lv' := [(5, .int v1), (0, .long v0), (2, .int v1), (3, .int v2), (4, .ref a3_0)]) hx hb d_NumberWriter_writeDigits_1 hl (by decide) rfl (fun ls hl => ?_)
  exact w_NumberWriter_writeDigits_3 X FU v3 v0 v1 v2 v1 ls H locs h (lv_sub hl [1, 2, 3, 4, 0] rfl) hP hD hS

set_option maxHeartbeats 4000000 in
set_option maxRecDepth 100000 in
theorem c_NumberWriter_writeDigits (l : Launch) (D : va_G) (cC cI : ClassId) (sz : Nat) (a3_0 a3_1 : Nat) (v0 : Int64) (v1 : Int32) (v2 : Int32) (v3 : T_Row) (out : O_NumberWriter_writeDigits) (h : f_NumberWriter_writeDigits v0 v1 v2 v3 = some out) : Met l y_NumberWriter_writeDigits (.code y_NumberWriter_writeDigits b_NumberWriter_writeDigits 6 none :: BIG) rm_NumberWriter_writeDigits (va_Pc [.long v0, .int v1, .int v2, .ref a3_0] (xPre D cC cI (wd_NumberWriter_writeDigits cC cI a3_0 a3_1 v3) sz)) (q_NumberWriter_writeDigits D cC cI a3_0 a3_1 out (va_A (wd_NumberWriter_writeDigits cC cI a3_0 a3_1 v3) sz)) 0 0 (va_A (wd_NumberWriter_writeDigits cC cI a3_0 a3_1 v3) sz) := by
  refine Met.ofW (cc := b_NumberWriter_writeDigits) (maxL := 6) (ret := none) (by decide) rfl ?_
  intro p e s m args below meth c s₁ B hml hv
  obtain ⟨rfl, rfl, hP, hD0, hG, hZ⟩ := hv
  have hl := lv_entry [.long v0, .int v1, .int v2, .ref a3_0] (n := 6) (Nat.le_of_ble_eq_true rfl)
  rw [lg_entry_eq]
  exact w_NumberWriter_writeDigits (x_cx B hml hG hZ) v0 v1 v2 v3 h hl hP hD0.self va_S.rf

abbrev wd_NumberWriter_writeInteger (cC cI : ClassId) (a0_0 a0_1 a0_2 a1_0 a2_0 a2_1 : Nat) (v0 : T_NumberWriter) (v1 : T_Shape) (v2 : T_Row) : va_W := [(a0_0, .inr (8, [.ref a0_1, .int v0.2.1, .ref a0_2, .int v0.2.2.2])), (a0_1, .inr (7, [.int v0.1.1, .long v0.1.2.1, .int v0.1.2.2])), (a0_2, .inl (cI, 6, .inl v0.2.2.1)), (a1_0, .inr (2, [.int v1.1, .int v1.2.1, .int v1.2.2.1, .int v1.2.2.2.1, .int v1.2.2.2.2.1, .int v1.2.2.2.2.2.1, .int v1.2.2.2.2.2.2])), (a2_0, .inr (0, [.ref a2_1, .int v2.2])), (a2_1, .inl (cC, 120, .inl v2.1))]
abbrev O_NumberWriter_writeInteger : Type := T_NumberWriter × T_Row
abbrev q_NumberWriter_writeInteger (D : va_G) (cC cI : ClassId) (a0_0 a0_1 a0_2 a1_0 a2_0 a2_1 : Nat) (v1 : T_Shape) (out : O_NumberWriter_writeInteger) (A : Nat → Prop) : Array Value → State → Outcome → State → Prop := va_Qv (fun _ : Unit => True) (fun _ t => va_P D classes (wd_NumberWriter_writeInteger cC cI a0_0 a0_1 a0_2 a1_0 a2_0 a2_1 out.1 v1 out.2) t.heap ∧ va_D A (wd_NumberWriter_writeInteger cC cI a0_0 a0_1 a0_2 a1_0 a2_0 a2_1 out.1 v1 out.2)) A
abbrev rm_NumberWriter_writeInteger : Room := { frames := 4, cells := 0, slots := 0, locals := 85 }
def J_NumberWriter_writeInteger_42 (p : Program) (l : Launch) (e : Env) (s : State) (m : MethodId) (args : Array Value) (below : List Frame) (meth : Method) (c : Code) (A : Nat → Prop) (D : va_G) (cC cI : ClassId) (a0_0 a0_1 a0_2 a1_0 a2_0 a2_1 : Nat) (v1 : T_Shape) (out : O_NumberWriter_writeInteger) (k : T_NumberWriter → T_Row → Int32 → Option O_NumberWriter_writeInteger) : Prop := ∀ (v0 : T_NumberWriter) (v2 : T_Row) (x3 : Int32) (ls : Array Slot) (H : Heap) (locs : List Loc), k v0 v2 x3 = some out → lv_has ls 4 [(0, .ref a0_0), (1, .ref a1_0), (2, .ref a2_0), (3, .int x3)] → va_P D classes (wd_NumberWriter_writeInteger cC cI a0_0 a0_1 a0_2 a1_0 a2_0 a2_1 v0 v1 v2) H → va_D A (wd_NumberWriter_writeInteger cC cI a0_0 a0_1 a0_2 a1_0 a2_0 a2_1 v0 v1 v2) → va_S A s.heap H locs → W p l e rm_NumberWriter_writeInteger s m args below meth c H locs 0 0 (MQ below (q_NumberWriter_writeInteger D cC cI a0_0 a0_1 a0_2 a1_0 a2_0 a2_1 v1 out A) args s 0 0 A) (F0 m 42 ls [])
def f_NumberWriter_writeInteger_42 (v1 : T_Shape) (v0 : T_NumberWriter) (v2 : T_Row) (x3 : Int32) : Option O_NumberWriter_writeInteger := (f_Decimal_whole v0.1).bind (fun o46 => (f_NumberWriter_writeDigits o46 x3 v1.2.2.2.2.2.1 v2).bind (fun o55 => (f_Row_size o55).bind (fun o64 => some ((v0.1, v0.2.1, (upd v0.2.2.1 (1 : Int32).toNatClampNeg o64), v0.2.2.2), o55))))
set_option maxHeartbeats 4000000 in
set_option maxRecDepth 100000 in
theorem w_NumberWriter_writeInteger_42 {p : Program} {l : Launch} {e : Env} {s : State} {m : MethodId} {args : Array Value} {below : List Frame} {meth : Method} {c : Code} {A : Nat → Prop} {D : va_G} {cC cI : ClassId} {a0_0 a0_1 a0_2 a1_0 a2_0 a2_1 : Nat} {v1 : T_Shape} (X : xCX p s m args meth c A D cC cI b_NumberWriter_writeInteger 4 R_NumberWriter none) {out : O_NumberWriter_writeInteger}   : J_NumberWriter_writeInteger_42 p l e s m args below meth c A D cC cI a0_0 a0_1 a0_2 a1_0 a2_0 a2_1 v1 out (f_NumberWriter_writeInteger_42 v1 ) := by
  obtain ⟨hx, hb, hml, hown, htB, ⟨hK, hN⟩, hZ, hA, hr, hlocks⟩ := id X
  intro v0 v2 x3 ls H locs h hl hP hD hS
  refine lv_aload_n hx hb d_NumberWriter_writeInteger_42 rfl (lv_at hl 0 rfl) ?_
  refine va_get (D := D) (ci := 8) (v := .ref a0_1) (C := R_NumberWriter) (T := F_NumberWriter) (N := 4) hx hb htB in_NumberWriter hown hK hP 0 rfl rfl 0 (by decide) (htB _ b_158) (fun _ h9 => h9) rfl d_NumberWriter_writeInteger_43 ?_
  obtain ⟨o46, ho46, h⟩ := x_bnd h
  refine x_calll (r0 := o46) (ws2 := (wd_NumberWriter_writeInteger cC cI a0_0 a0_1 a0_2 a1_0 a2_0 a2_1 v0 v1 v2)) (x_runVN (As := []) (rest := []) X (c_Decimal_whole l D cC cI H.size a0_1 v0.1 o46 ho46) b_162 0 (hN _ n_50) (htB _ b_163) (htB _ b_164) (htB _ b_151) ⟨by decide, by decide, by decide +kernel⟩ ⟨(Nat.le_of_ble_eq_true rfl), (Nat.le_of_ble_eq_true rfl)⟩ 1 rfl rfl hP hD hS [1] rfl (by decide) rfl rfl hl.1 rfl rfl (Nat.le_of_ble_eq_true rfl) d_NumberWriter_writeInteger_46) hP hD hS hA [1] [0, 2, 3, 4, 5] [0, 5, 1, 2, 3, 4] rfl rfl (by decide) (by decide) rfl (by decide) (fun H locs hP hD hS => ?_)
  refine lv_iload_n hx hb d_NumberWriter_writeInteger_49 rfl (lv_at hl 3 rfl) ?_
  refine lv_aload_n hx hb d_NumberWriter_writeInteger_50 rfl (lv_at hl 1 rfl) ?_
  refine va_getN (D := D) (ci := 2) (v := .int v1.2.2.2.2.2.1) (C := R_Shape) (T := F_Shape) (N := 7) hx hb htB in_Shape hown hK hP 3 rfl rfl 5 (by decide) (va_Nw.use rfl (hN _ n_60)) (fun _ h9 => h9) rfl d_NumberWriter_writeInteger_51 ?_
  refine lv_aload_n hx hb d_NumberWriter_writeInteger_54 rfl (lv_at hl 2 rfl) ?_
  obtain ⟨o55, ho55, h⟩ := x_bnd h
  refine x_callv (ws2 := (wd_NumberWriter_writeInteger cC cI a0_0 a0_1 a0_2 a1_0 a2_0 a2_1 v0 v1 o55)) (x_runS (As := [.long o46, .int x3, .int v1.2.2.2.2.2.1, .ref a2_0]) (rest := []) X (c_NumberWriter_writeDigits l D cC cI H.size a2_0 a2_1 o46 x3 v1.2.2.2.2.2.1 v2 o55 ho55) b_185 4 (htB _ b_187) (htB _ b_186) (htB _ b_172) ⟨by decide, by decide, by decide +kernel⟩ ⟨(Nat.le_of_ble_eq_true rfl), (Nat.le_of_ble_eq_true rfl)⟩ hP hD hS [4, 5] rfl (by decide) rfl rfl hl.1 rfl rfl (Nat.le_of_ble_eq_true rfl) d_NumberWriter_writeInteger_55) hP hD hS hA [4, 5] [0, 1, 2, 3] [0, 1, 2, 3, 4, 5] rfl rfl (by decide) (by decide) rfl (by decide) (fun H locs hP hD hS => ?_)
  refine lv_aload_n hx hb d_NumberWriter_writeInteger_58 rfl (lv_at hl 0 rfl) ?_
  refine va_get (D := D) (ci := 8) (v := .ref a0_2) (C := R_NumberWriter) (T := F_NumberWriter) (N := 4) hx hb htB in_NumberWriter hown hK hP 0 rfl rfl 2 (by decide) (htB _ b_157) (fun _ h9 => h9) rfl d_NumberWriter_writeInteger_59 ?_
  refine lv_iconst (v := 1) hx hb d_NumberWriter_writeInteger_62 (by decide) ?_
  refine lv_aload_n hx hb d_NumberWriter_writeInteger_63 rfl (lv_at hl 2 rfl) ?_
  obtain ⟨o64, ho64, h⟩ := x_bnd h
  refine x_calli (r0 := o64) (ws2 := (wd_NumberWriter_writeInteger cC cI a0_0 a0_1 a0_2 a1_0 a2_0 a2_1 v0 v1 o55)) (x_runVN (As := []) (rest := [.int (1 : Int32), .ref a0_2]) X (c_Row_size l D cC cI H.size a2_0 a2_1 o55 o64 ho64) b_51 0 (hN _ n_59) (htB _ b_52) (htB _ b_53) (htB _ b_22) ⟨by decide, by decide, by decide +kernel⟩ ⟨(Nat.le_of_ble_eq_true rfl), (Nat.le_of_ble_eq_true rfl)⟩ 4 rfl rfl hP hD hS [4, 5] rfl (by decide) rfl rfl hl.1 rfl rfl (Nat.le_of_ble_eq_true rfl) d_NumberWriter_writeInteger_64) hP hD hS hA [4, 5] [0, 1, 2, 3] [0, 1, 2, 3, 4, 5] rfl rfl (by decide) (by decide) rfl (by decide) (fun H locs hP hD hS => ?_)
  refine va_iast hx hb hK hP hD hS 2 1 rfl rfl (show ¬ (((1 : Int32) : Int32) < 0 ∨ 6 ≤ ((1 : Int32) : Int32).toNatClampNeg) by decide) d_NumberWriter_writeInteger_67 (fun H locs hP hD hS => ?_)
  have hP : va_P D classes (wd_NumberWriter_writeInteger cC cI a0_0 a0_1 a0_2 a1_0 a2_0 a2_1 (v0.1, v0.2.1, (upd v0.2.2.1 (1 : Int32).toNatClampNeg o64), v0.2.2.2) v1 o55) H := hP
  have hD : va_D A (wd_NumberWriter_writeInteger cC cI a0_0 a0_1 a0_2 a1_0 a2_0 a2_1 (v0.1, v0.2.1, (upd v0.2.2.1 (1 : Int32).toNatClampNeg o64), v0.2.2.2) v1 o55) := hD
  obtain rfl := Option.some.inj h
  exact W.vret hx hb hr (fun t ht hW => ⟨⟨(), rfl, trivial, by rw [ht]; exact hP, hD⟩, hS.F ht⟩) hS.2.2 d_NumberWriter_writeInteger_68 hlocks

def f_NumberWriter_writeInteger (v0 : T_NumberWriter) (v1 : T_Shape) (v2 : T_Row) : Option O_NumberWriter_writeInteger := (f_Row_size v2).bind (fun o6 => (f_Decimal_whole v0.1).bind (fun o14 => (f_Deci_digitCount o14).bind (fun o17 => (if (if o17 < v1.2.1 then v1.2.1 else o17) = 0 then (f_NumberWriter_shownFraction (v0.1, v0.2.1, (upd v0.2.2.1 (0 : Int32).toNatClampNeg o6), v0.2.2.2) v1).bind (fun o34 => (if o34 = 0 then f_NumberWriter_writeInteger_42 v1 (v0.1, v0.2.1, (upd v0.2.2.1 (0 : Int32).toNatClampNeg o6), v0.2.2.2) v2 (1 : Int32) else f_NumberWriter_writeInteger_42 v1 (v0.1, v0.2.1, (upd v0.2.2.1 (0 : Int32).toNatClampNeg o6), v0.2.2.2) v2 (if o17 < v1.2.1 then v1.2.1 else o17))) else f_NumberWriter_writeInteger_42 v1 (v0.1, v0.2.1, (upd v0.2.2.1 (0 : Int32).toNatClampNeg o6), v0.2.2.2) v2 (if o17 < v1.2.1 then v1.2.1 else o17)))))
set_option maxHeartbeats 4000000 in
set_option maxRecDepth 100000 in
theorem w_NumberWriter_writeInteger {p : Program} {l : Launch} {e : Env} {s : State} {m : MethodId} {args : Array Value} {below : List Frame} {meth : Method} {c : Code} {A : Nat → Prop} {D : va_G} {cC cI : ClassId} {a0_0 a0_1 a0_2 a1_0 a2_0 a2_1 : Nat} {v1 : T_Shape} (X : xCX p s m args meth c A D cC cI b_NumberWriter_writeInteger 4 R_NumberWriter none) {out : O_NumberWriter_writeInteger} (v0 : T_NumberWriter) (v2 : T_Row) {ls : Array Slot} {H : Heap} {locs : List Loc} (h : f_NumberWriter_writeInteger v0 v1 v2 = some out) (hl : lv_has ls 4 [(0, .ref a0_0), (1, .ref a1_0), (2, .ref a2_0)]) (hP : va_P D classes (wd_NumberWriter_writeInteger cC cI a0_0 a0_1 a0_2 a1_0 a2_0 a2_1 v0 v1 v2) H) (hD : va_D A (wd_NumberWriter_writeInteger cC cI a0_0 a0_1 a0_2 a1_0 a2_0 a2_1 v0 v1 v2)) (hS : va_S A s.heap H locs) : W p l e rm_NumberWriter_writeInteger s m args below meth c H locs 0 0 (MQ below (q_NumberWriter_writeInteger D cC cI a0_0 a0_1 a0_2 a1_0 a2_0 a2_1 v1 out A) args s 0 0 A) (F0 m 0 ls []) := by
  obtain ⟨hx, hb, hml, hown, htB, ⟨hK, hN⟩, hZ, hA, hr, hlocks⟩ := id X
  refine lv_aload_n hx hb d_NumberWriter_writeInteger_0 rfl (lv_at hl 0 rfl) ?_
  refine va_get (D := D) (ci := 8) (v := .ref a0_2) (C := R_NumberWriter) (T := F_NumberWriter) (N := 4) hx hb htB in_NumberWriter hown hK hP 0 rfl rfl 2 (by decide) (htB _ b_157) (fun _ h9 => h9) rfl d_NumberWriter_writeInteger_1 ?_
  refine lv_iconst (v := 0) hx hb d_NumberWriter_writeInteger_4 (by decide) ?_
  refine lv_aload_n hx hb d_NumberWriter_writeInteger_5 rfl (lv_at hl 2 rfl) ?_
  obtain ⟨o6, ho6, h⟩ := x_bnd h
  refine x_calli (r0 := o6) (ws2 := (wd_NumberWriter_writeInteger cC cI a0_0 a0_1 a0_2 a1_0 a2_0 a2_1 v0 v1 v2)) (x_runVN (As := []) (rest := [.int (0 : Int32), .ref a0_2]) X (c_Row_size l D cC cI H.size a2_0 a2_1 v2 o6 ho6) b_51 0 (hN _ n_59) (htB _ b_52) (htB _ b_53) (htB _ b_22) ⟨by decide, by decide, by decide +kernel⟩ ⟨(Nat.le_of_ble_eq_true rfl), (Nat.le_of_ble_eq_true rfl)⟩ 4 rfl rfl hP hD hS [4, 5] rfl (by decide) rfl rfl hl.1 rfl rfl (Nat.le_of_ble_eq_true rfl) d_NumberWriter_writeInteger_6) hP hD hS hA [4, 5] [0, 1, 2, 3] [0, 1, 2, 3, 4, 5] rfl rfl (by decide) (by decide) rfl (by decide) (fun H locs hP hD hS => ?_)
  refine va_iast hx hb hK hP hD hS 2 1 rfl rfl (show ¬ (((0 : Int32) : Int32) < 0 ∨ 6 ≤ ((0 : Int32) : Int32).toNatClampNeg) by decide) d_NumberWriter_writeInteger_9 (fun H locs hP hD hS => ?_)
  have hP : va_P D classes (wd_NumberWriter_writeInteger cC cI a0_0 a0_1 a0_2 a1_0 a2_0 a2_1 (v0.1, v0.2.1, (upd v0.2.2.1 (0 : Int32).toNatClampNeg o6), v0.2.2.2) v1 v2) H := hP
  have hD : va_D A (wd_NumberWriter_writeInteger cC cI a0_0 a0_1 a0_2 a1_0 a2_0 a2_1 (v0.1, v0.2.1, (upd v0.2.2.1 (0 : Int32).toNatClampNeg o6), v0.2.2.2) v1 v2) := hD
  refine lv_aload_n hx hb d_NumberWriter_writeInteger_10 rfl (lv_at hl 0 rfl) ?_
  refine va_get (D := D) (ci := 8) (v := .ref a0_1) (C := R_NumberWriter) (T := F_NumberWriter) (N := 4) hx hb htB in_NumberWriter hown hK hP 0 rfl rfl 0 (by decide) (htB _ b_158) (fun _ h9 => h9) rfl d_NumberWriter_writeInteger_11 ?_
  obtain ⟨o14, ho14, h⟩ := x_bnd h
  refine x_calll (r0 := o14) (ws2 := (wd_NumberWriter_writeInteger cC cI a0_0 a0_1 a0_2 a1_0 a2_0 a2_1 (v0.1, v0.2.1, (upd v0.2.2.1 (0 : Int32).toNatClampNeg o6), v0.2.2.2) v1 v2)) (x_runVN (As := []) (rest := []) X (c_Decimal_whole l D cC cI H.size a0_1 v0.1 o14 ho14) b_162 0 (hN _ n_50) (htB _ b_163) (htB _ b_164) (htB _ b_151) ⟨by decide, by decide, by decide +kernel⟩ ⟨(Nat.le_of_ble_eq_true rfl), (Nat.le_of_ble_eq_true rfl)⟩ 1 rfl rfl hP hD hS [1] rfl (by decide) rfl rfl hl.1 rfl rfl (Nat.le_of_ble_eq_true rfl) d_NumberWriter_writeInteger_14) hP hD hS hA [1] [0, 2, 3, 4, 5] [0, 5, 1, 2, 3, 4] rfl rfl (by decide) (by decide) rfl (by decide) (fun H locs hP hD hS => ?_)
  obtain ⟨o17, ho17, h⟩ := x_bnd h
  refine x_calli (r0 := o17) (ws2 := (wd_NumberWriter_writeInteger cC cI a0_0 a0_1 a0_2 a1_0 a2_0 a2_1 (v0.1, v0.2.1, (upd v0.2.2.1 (0 : Int32).toNatClampNeg o6), v0.2.2.2) v1 v2)) (x_runSN (As := [.long o14]) (rest := []) X (c_Deci_digitCount l D cC cI H.size o14 o17 ho17) b_159 1 (hN _ n_47) (htB _ b_160) (htB _ b_56) ⟨by decide, by decide, by decide +kernel⟩ ⟨(Nat.le_of_ble_eq_true rfl), (Nat.le_of_ble_eq_true rfl)⟩ hP hD hS [] rfl (by decide) rfl rfl hl.1 rfl rfl (Nat.le_of_ble_eq_true rfl) d_NumberWriter_writeInteger_17) hP hD hS hA [] [0, 1, 2, 3, 4, 5] [0, 1, 2, 3, 4, 5] rfl rfl (by decide) (by decide) rfl (by decide) (fun H locs hP hD hS => ?_)
  refine lv_aload_n hx hb d_NumberWriter_writeInteger_20 rfl (lv_at hl 1 rfl) ?_
  refine va_getN (D := D) (ci := 2) (v := .int v1.2.1) (C := R_Shape) (T := F_Shape) (N := 7) hx hb htB in_Shape hown hK hP 3 rfl rfl 1 (by decide) (va_Nw.use rfl (hN _ n_55)) (fun _ h9 => h9) rfl d_NumberWriter_writeInteger_21 ?_
  refine va_mmax hx hb (hml.trans hl.1.symm) hown (htB _ b_183) (htB _ b_107) (htB _ b_108) (htB _ b_109) (Nat.le_of_ble_eq_true rfl) (Nat.le_of_ble_eq_true rfl) (Nat.le_of_ble_eq_true rfl) (Nat.le_of_ble_eq_true rfl) d_NumberWriter_writeInteger_24 ?_
  refine lv_istore_n (lv' := [(3, .int (if o17 < v1.2.1 then v1.2.1 else o17)), (0, .ref a0_0), (1, .ref a1_0), (2, .ref a2_0)]) hx hb d_NumberWriter_writeInteger_27 rfl hl (by decide) rfl (fun ls hl => ?_)
  refine lv_iload_n hx hb d_NumberWriter_writeInteger_28 rfl (lv_at hl 0 rfl) ?_
  refine lv_if_ne (tgt := 42) hx hb d_NumberWriter_writeInteger_29 rfl (fun hc => ?_) (fun hc => ?_)
  · have h := (if_neg hc).symm.trans h
    exact w_NumberWriter_writeInteger_42 X (v0.1, v0.2.1, (upd v0.2.2.1 (0 : Int32).toNatClampNeg o6), v0.2.2.2) v2 (if o17 < v1.2.1 then v1.2.1 else o17) ls H locs h (lv_sub hl [1, 2, 3, 0] rfl) hP hD hS
  have h := (if_pos hc).symm.trans h
  refine lv_aload_n hx hb d_NumberWriter_writeInteger_32 rfl (lv_at hl 1 rfl) ?_
  refine lv_aload_n hx hb d_NumberWriter_writeInteger_33 rfl (lv_at hl 2 rfl) ?_
  obtain ⟨o34, ho34, h⟩ := x_bnd h
  refine x_calli (r0 := o34) (ws2 := (wd_NumberWriter_writeInteger cC cI a0_0 a0_1 a0_2 a1_0 a2_0 a2_1 (v0.1, v0.2.1, (upd v0.2.2.1 (0 : Int32).toNatClampNeg o6), v0.2.2.2) v1 v2)) (x_runV (As := [.ref a1_0]) (rest := []) X (c_NumberWriter_shownFraction l D cC cI H.size a0_0 a0_1 a0_2 a1_0 (v0.1, v0.2.1, (upd v0.2.2.1 (0 : Int32).toNatClampNeg o6), v0.2.2.2) v1 o34 ho34) b_188 1 (htB _ b_191) (htB _ b_189) (htB _ b_190) (htB _ b_172) ⟨by decide, by decide, by decide +kernel⟩ ⟨(Nat.le_of_ble_eq_true rfl), (Nat.le_of_ble_eq_true rfl)⟩ 0 rfl rfl hP hD hS [0, 1, 2, 3] rfl (by decide) rfl rfl hl.1 rfl rfl (Nat.le_of_ble_eq_true rfl) d_NumberWriter_writeInteger_34) hP hD hS hA [0, 1, 2, 3] [4, 5] [2, 3, 4, 5, 0, 1] rfl rfl (by decide) (by decide) rfl (by decide) (fun H locs hP hD hS => ?_)
  refine lv_if_ne (tgt := 42) hx hb d_NumberWriter_writeInteger_37 rfl (fun hc => ?_) (fun hc => ?_)
  · have h := (if_neg hc).symm.trans h
    exact w_NumberWriter_writeInteger_42 X (v0.1, v0.2.1, (upd v0.2.2.1 (0 : Int32).toNatClampNeg o6), v0.2.2.2) v2 (if o17 < v1.2.1 then v1.2.1 else o17) ls H locs h (lv_sub hl [1, 2, 3, 0] rfl) hP hD hS
  have h := (if_pos hc).symm.trans h
  refine lv_iconst (v := 1) hx hb d_NumberWriter_writeInteger_40 (by decide) ?_
  refine lv_istore_n (lv' := [(3, .int (1 : Int32)), (0, .ref a0_0), (1, .ref a1_0), (2, .ref a2_0)]) hx hb d_NumberWriter_writeInteger_41 rfl hl (by decide) rfl (fun ls hl => ?_)
  exact w_NumberWriter_writeInteger_42 X (v0.1, v0.2.1, (upd v0.2.2.1 (0 : Int32).toNatClampNeg o6), v0.2.2.2) v2 (1 : Int32) ls H locs h (lv_sub hl [1, 2, 3, 0] rfl) hP hD hS

set_option maxHeartbeats 4000000 in
set_option maxRecDepth 100000 in
theorem c_NumberWriter_writeInteger (l : Launch) (D : va_G) (cC cI : ClassId) (sz : Nat) (a0_0 a0_1 a0_2 a1_0 a2_0 a2_1 : Nat) (v0 : T_NumberWriter) (v1 : T_Shape) (v2 : T_Row) (out : O_NumberWriter_writeInteger) (h : f_NumberWriter_writeInteger v0 v1 v2 = some out) : Met l y_NumberWriter_writeInteger (.code y_NumberWriter_writeInteger b_NumberWriter_writeInteger 4 none :: BIG) rm_NumberWriter_writeInteger (va_Pc [.ref a0_0, .ref a1_0, .ref a2_0] (xPre D cC cI (wd_NumberWriter_writeInteger cC cI a0_0 a0_1 a0_2 a1_0 a2_0 a2_1 v0 v1 v2) sz)) (q_NumberWriter_writeInteger D cC cI a0_0 a0_1 a0_2 a1_0 a2_0 a2_1 v1 out (va_A (wd_NumberWriter_writeInteger cC cI a0_0 a0_1 a0_2 a1_0 a2_0 a2_1 v0 v1 v2) sz)) 0 0 (va_A (wd_NumberWriter_writeInteger cC cI a0_0 a0_1 a0_2 a1_0 a2_0 a2_1 v0 v1 v2) sz) := by
  refine Met.ofW (cc := b_NumberWriter_writeInteger) (maxL := 4) (ret := none) (by decide) rfl ?_
  intro p e s m args below meth c s₁ B hml hv
  obtain ⟨rfl, rfl, hP, hD0, hG, hZ⟩ := hv
  have hl := lv_entry [.ref a0_0, .ref a1_0, .ref a2_0] (n := 4) (Nat.le_of_ble_eq_true rfl)
  rw [lg_entry_eq]
  exact w_NumberWriter_writeInteger (x_cx B hml hG hZ) v0 v2 h hl hP hD0.self va_S.rf

abbrev wd_NumberWriter_writeFraction (cC cI : ClassId) (a0_0 a0_1 a0_2 a1_0 a2_0 a2_1 : Nat) (v0 : T_NumberWriter) (v1 : T_Shape) (v2 : T_Row) : va_W := [(a0_0, .inr (8, [.ref a0_1, .int v0.2.1, .ref a0_2, .int v0.2.2.2])), (a0_1, .inr (7, [.int v0.1.1, .long v0.1.2.1, .int v0.1.2.2])), (a0_2, .inl (cI, 6, .inl v0.2.2.1)), (a1_0, .inr (2, [.int v1.1, .int v1.2.1, .int v1.2.2.1, .int v1.2.2.2.1, .int v1.2.2.2.2.1, .int v1.2.2.2.2.2.1, .int v1.2.2.2.2.2.2])), (a2_0, .inr (0, [.ref a2_1, .int v2.2])), (a2_1, .inl (cC, 120, .inl v2.1))]
abbrev O_NumberWriter_writeFraction : Type := T_NumberWriter × T_Row
abbrev q_NumberWriter_writeFraction (D : va_G) (cC cI : ClassId) (a0_0 a0_1 a0_2 a1_0 a2_0 a2_1 : Nat) (v1 : T_Shape) (out : O_NumberWriter_writeFraction) (A : Nat → Prop) : Array Value → State → Outcome → State → Prop := va_Qv (fun _ : Unit => True) (fun _ t => va_P D classes (wd_NumberWriter_writeFraction cC cI a0_0 a0_1 a0_2 a1_0 a2_0 a2_1 out.1 v1 out.2) t.heap ∧ va_D A (wd_NumberWriter_writeFraction cC cI a0_0 a0_1 a0_2 a1_0 a2_0 a2_1 out.1 v1 out.2)) A
abbrev rm_NumberWriter_writeFraction : Room := { frames := 4, cells := 0, slots := 0, locals := 85 }
def J_NumberWriter_writeFraction_17 (p : Program) (l : Launch) (e : Env) (s : State) (m : MethodId) (args : Array Value) (below : List Frame) (meth : Method) (c : Code) (A : Nat → Prop) (D : va_G) (cC cI : ClassId) (a0_0 a0_1 a0_2 a1_0 a2_0 a2_1 : Nat) (v1 : T_Shape) (out : O_NumberWriter_writeFraction) (k : T_NumberWriter → T_Row → Int32 → Option O_NumberWriter_writeFraction) : Prop := ∀ (v0 : T_NumberWriter) (v2 : T_Row) (x3 : Int32) (ls : Array Slot) (H : Heap) (locs : List Loc), k v0 v2 x3 = some out → lv_has ls 5 [(0, .ref a0_0), (2, .ref a2_0), (3, .int x3)] → va_P D classes (wd_NumberWriter_writeFraction cC cI a0_0 a0_1 a0_2 a1_0 a2_0 a2_1 v0 v1 v2) H → va_D A (wd_NumberWriter_writeFraction cC cI a0_0 a0_1 a0_2 a1_0 a2_0 a2_1 v0 v1 v2) → va_S A s.heap H locs → W p l e rm_NumberWriter_writeFraction s m args below meth c H locs 0 0 (MQ below (q_NumberWriter_writeFraction D cC cI a0_0 a0_1 a0_2 a1_0 a2_0 a2_1 v1 out A) args s 0 0 A) (F0 m 17 ls [])
def J_NumberWriter_writeFraction_30 (p : Program) (l : Launch) (e : Env) (s : State) (m : MethodId) (args : Array Value) (below : List Frame) (meth : Method) (c : Code) (A : Nat → Prop) (D : va_G) (cC cI : ClassId) (a0_0 a0_1 a0_2 a1_0 a2_0 a2_1 : Nat) (v1 : T_Shape) (out : O_NumberWriter_writeFraction) (k : T_NumberWriter → T_Row → Int32 → Int32 → Option O_NumberWriter_writeFraction) : Prop := ∀ (v0 : T_NumberWriter) (v2 : T_Row) (x3 : Int32) (x4 : Int32) (ls : Array Slot) (H : Heap) (locs : List Loc), k v0 v2 x3 x4 = some out → lv_has ls 5 [(0, .ref a0_0), (2, .ref a2_0), (3, .int x3), (4, .int x4)] → va_P D classes (wd_NumberWriter_writeFraction cC cI a0_0 a0_1 a0_2 a1_0 a2_0 a2_1 v0 v1 v2) H → va_D A (wd_NumberWriter_writeFraction cC cI a0_0 a0_1 a0_2 a1_0 a2_0 a2_1 v0 v1 v2) → va_S A s.heap H locs → W p l e rm_NumberWriter_writeFraction s m args below meth c H locs 0 0 (MQ below (q_NumberWriter_writeFraction D cC cI a0_0 a0_1 a0_2 a1_0 a2_0 a2_1 v1 out A) args s 0 0 A) (F0 m 30 ls [])
def f_NumberWriter_writeFraction_30 (v1 : T_Shape)  : Nat → T_NumberWriter → T_Row → Int32 → Int32 → Option O_NumberWriter_writeFraction
  | 0, _, _, _, _ => none
  | n + 1, v0, v2, x3, x4 => (if x3 ≤ x4 then (f_Row_size v2).bind (fun o66 => some ((v0.1, v0.2.1, (upd v0.2.2.1 (3 : Int32).toNatClampNeg o66), v0.2.2.2), v2)) else (f_Decimal_fractionDigit v0.1 x4).bind (fun o45 => (f_Row_add v2 (i2c ((48 : Int32) + o45))).bind (fun o50 => (f_NumberWriter_writeFraction_30 v1 n) v0 o50.2 x3 (x4 + (1 : Int32)))))
set_option maxHeartbeats 4000000 in
set_option maxRecDepth 100000 in
theorem w_NumberWriter_writeFraction_30 {p : Program} {l : Launch} {e : Env} {s : State} {m : MethodId} {args : Array Value} {below : List Frame} {meth : Method} {c : Code} {A : Nat → Prop} {D : va_G} {cC cI : ClassId} {a0_0 a0_1 a0_2 a1_0 a2_0 a2_1 : Nat} {v1 : T_Shape} (X : xCX p s m args meth c A D cC cI b_NumberWriter_writeFraction 5 R_NumberWriter none) {out : O_NumberWriter_writeFraction}   : ∀ n : Nat, J_NumberWriter_writeFraction_30 p l e s m args below meth c A D cC cI a0_0 a0_1 a0_2 a1_0 a2_0 a2_1 v1 out (f_NumberWriter_writeFraction_30 v1  n) := by
  obtain ⟨hx, hb, hml, hown, htB, ⟨hK, hN⟩, hZ, hA, hr, hlocks⟩ := id X
  intro n
  induction n with
  | zero =>
    intro v0 v2 x3 x4 ls H locs h hl hP hD hS
    cases h
  | succ n ih =>
    intro v0 v2 x3 x4 ls H locs h hl hP hD hS
    refine lv_iload hx hb d_NumberWriter_writeFraction_30 (lv_at hl 3 rfl) ?_
    refine lv_iload_n hx hb d_NumberWriter_writeFraction_32 rfl (lv_at hl 2 rfl) ?_
    refine lv_icmp_ge (tgt := 60) hx hb d_NumberWriter_writeFraction_33 rfl (fun hc => ?_) (fun hc => ?_)
    · have h := (if_pos hc).symm.trans h
      refine lv_aload_n hx hb d_NumberWriter_writeFraction_60 rfl (lv_at hl 0 rfl) ?_
      refine va_get (D := D) (ci := 8) (v := .ref a0_2) (C := R_NumberWriter) (T := F_NumberWriter) (N := 4) hx hb htB in_NumberWriter hown hK hP 0 rfl rfl 2 (by decide) (htB _ b_157) (fun _ h9 => h9) rfl d_NumberWriter_writeFraction_61 ?_
      refine lv_iconst (v := 3) hx hb d_NumberWriter_writeFraction_64 (by decide) ?_
      refine lv_aload_n hx hb d_NumberWriter_writeFraction_65 rfl (lv_at hl 1 rfl) ?_
      obtain ⟨o66, ho66, h⟩ := x_bnd h
      refine x_calli (r0 := o66) (ws2 := (wd_NumberWriter_writeFraction cC cI a0_0 a0_1 a0_2 a1_0 a2_0 a2_1 v0 v1 v2)) (x_runVN (As := []) (rest := [.int (3 : Int32), .ref a0_2]) X (c_Row_size l D cC cI H.size a2_0 a2_1 v2 o66 ho66) b_51 0 (hN _ n_59) (htB _ b_52) (htB _ b_53) (htB _ b_22) ⟨by decide, by decide, by decide +kernel⟩ ⟨(Nat.le_of_ble_eq_true rfl), (Nat.le_of_ble_eq_true rfl)⟩ 4 rfl rfl hP hD hS [4, 5] rfl (by decide) rfl rfl hl.1 rfl rfl (Nat.le_of_ble_eq_true rfl) d_NumberWriter_writeFraction_66) hP hD hS hA [4, 5] [0, 1, 2, 3] [0, 1, 2, 3, 4, 5] rfl rfl (by decide) (by decide) rfl (by decide) (fun H locs hP hD hS => ?_)
      refine va_iast hx hb hK hP hD hS 2 1 rfl rfl (show ¬ (((3 : Int32) : Int32) < 0 ∨ 6 ≤ ((3 : Int32) : Int32).toNatClampNeg) by decide) d_NumberWriter_writeFraction_69 (fun H locs hP hD hS => ?_)
      have hP : va_P D classes (wd_NumberWriter_writeFraction cC cI a0_0 a0_1 a0_2 a1_0 a2_0 a2_1 (v0.1, v0.2.1, (upd v0.2.2.1 (3 : Int32).toNatClampNeg o66), v0.2.2.2) v1 v2) H := hP
      have hD : va_D A (wd_NumberWriter_writeFraction cC cI a0_0 a0_1 a0_2 a1_0 a2_0 a2_1 (v0.1, v0.2.1, (upd v0.2.2.1 (3 : Int32).toNatClampNeg o66), v0.2.2.2) v1 v2) := hD
      obtain rfl := Option.some.inj h
      exact W.vret hx hb hr (fun t ht hW => ⟨⟨(), rfl, trivial, by rw [ht]; exact hP, hD⟩, hS.F ht⟩) hS.2.2 d_NumberWriter_writeFraction_70 hlocks
    have h := (if_neg hc).symm.trans h
    refine lv_aload_n hx hb d_NumberWriter_writeFraction_36 rfl (lv_at hl 1 rfl) ?_
    refine lv_bipush (v := 48) hx hb d_NumberWriter_writeFraction_37 (by decide) ?_
    refine lv_aload_n hx hb d_NumberWriter_writeFraction_39 rfl (lv_at hl 0 rfl) ?_
    refine va_get (D := D) (ci := 8) (v := .ref a0_1) (C := R_NumberWriter) (T := F_NumberWriter) (N := 4) hx hb htB in_NumberWriter hown hK hP 0 rfl rfl 0 (by decide) (htB _ b_158) (fun _ h9 => h9) rfl d_NumberWriter_writeFraction_40 ?_
    refine lv_iload hx hb d_NumberWriter_writeFraction_43 (lv_at hl 3 rfl) ?_
    obtain ⟨o45, ho45, h⟩ := x_bnd h
    refine x_calli (r0 := o45) (ws2 := (wd_NumberWriter_writeFraction cC cI a0_0 a0_1 a0_2 a1_0 a2_0 a2_1 v0 v1 v2)) (x_runVN (As := [.int x4]) (rest := [.int (48 : Int32), .ref a2_0]) X (c_Decimal_fractionDigit l D cC cI H.size a0_1 v0.1 x4 o45 ho45) b_192 1 (hN _ n_61) (htB _ b_193) (htB _ b_194) (htB _ b_151) ⟨by decide, by decide, by decide +kernel⟩ ⟨(Nat.le_of_ble_eq_true rfl), (Nat.le_of_ble_eq_true rfl)⟩ 1 rfl rfl hP hD hS [1] rfl (by decide) rfl rfl hl.1 rfl rfl (Nat.le_of_ble_eq_true rfl) d_NumberWriter_writeFraction_45) hP hD hS hA [1] [0, 2, 3, 4, 5] [0, 5, 1, 2, 3, 4] rfl rfl (by decide) (by decide) rfl (by decide) (fun H locs hP hD hS => ?_)
    refine lv_iadd hx hb d_NumberWriter_writeFraction_48 ?_
    refine lv_i2c (v := i2c ((48 : Int32) + o45)) hx hb d_NumberWriter_writeFraction_49 rfl ?_
    obtain ⟨o50, ho50, h⟩ := x_bnd h
    refine x_calli (r0 := o50.1) (ws2 := (wd_NumberWriter_writeFraction cC cI a0_0 a0_1 a0_2 a1_0 a2_0 a2_1 v0 v1 o50.2)) (x_runVN (As := [.int (i2c ((48 : Int32) + o45))]) (rest := []) X (c_Row_add l D cC cI H.size a2_0 a2_1 v2 (i2c ((48 : Int32) + o45)) o50 ho50) b_21 1 (hN _ n_58) (htB _ b_23) (htB _ b_24) (htB _ b_22) ⟨by decide, by decide, by decide +kernel⟩ ⟨(Nat.le_of_ble_eq_true rfl), (Nat.le_of_ble_eq_true rfl)⟩ 4 rfl rfl hP hD hS [4, 5] rfl (by decide) rfl rfl hl.1 rfl rfl (Nat.le_of_ble_eq_true rfl) d_NumberWriter_writeFraction_50) hP hD hS hA [4, 5] [0, 1, 2, 3] [0, 1, 2, 3, 4, 5] rfl rfl (by decide) (by decide) rfl (by decide) (fun H locs hP hD hS => ?_)
    refine lv_pop hx hb d_NumberWriter_writeFraction_53 rfl ?_
    refine lv_iinc (k := 3) (v := (x4 + (1 : Int32))) (lv' := [(4, .int (x4 + (1 : Int32))), (0, .ref a0_0), (2, .ref a2_0), (3, .int x3)]) hx hb d_NumberWriter_writeFraction_54 hl rfl (congrArg (fun z => x4 + z) (by decide : Int32.ofInt 1 = (1 : Int32))) (by decide) rfl (fun ls hl => ?_)
    refine lv_goto (tgt := 30) hx hb d_NumberWriter_writeFraction_57 rfl ?_
    exact ih v0 o50.2 x3 (x4 + (1 : Int32)) ls H locs h (lv_sub hl [1, 2, 3, 0] rfl) hP hD hS

def f_NumberWriter_writeFraction_17 (v1 : T_Shape) (v0 : T_NumberWriter) (v2 : T_Row) (x3 : Int32) : Option O_NumberWriter_writeFraction := (f_Row_size v2).bind (fun o23 => f_NumberWriter_writeFraction_30 v1 FU (v0.1, v0.2.1, (upd v0.2.2.1 (2 : Int32).toNatClampNeg o23), v0.2.2.2) v2 x3 (0 : Int32))
set_option maxHeartbeats 4000000 in
set_option maxRecDepth 100000 in
theorem w_NumberWriter_writeFraction_17 {p : Program} {l : Launch} {e : Env} {s : State} {m : MethodId} {args : Array Value} {below : List Frame} {meth : Method} {c : Code} {A : Nat → Prop} {D : va_G} {cC cI : ClassId} {a0_0 a0_1 a0_2 a1_0 a2_0 a2_1 : Nat} {v1 : T_Shape} (X : xCX p s m args meth c A D cC cI b_NumberWriter_writeFraction 5 R_NumberWriter none) {out : O_NumberWriter_writeFraction}   : J_NumberWriter_writeFraction_17 p l e s m args below meth c A D cC cI a0_0 a0_1 a0_2 a1_0 a2_0 a2_1 v1 out (f_NumberWriter_writeFraction_17 v1 ) := by
  obtain ⟨hx, hb, hml, hown, htB, ⟨hK, hN⟩, hZ, hA, hr, hlocks⟩ := id X
  intro v0 v2 x3 ls H locs h hl hP hD hS
  refine lv_aload_n hx hb d_NumberWriter_writeFraction_17 rfl (lv_at hl 0 rfl) ?_
  refine va_get (D := D) (ci := 8) (v := .ref a0_2) (C := R_NumberWriter) (T := F_NumberWriter) (N := 4) hx hb htB in_NumberWriter hown hK hP 0 rfl rfl 2 (by decide) (htB _ b_157) (fun _ h9 => h9) rfl d_NumberWriter_writeFraction_18 ?_
  refine lv_iconst (v := 2) hx hb d_NumberWriter_writeFraction_21 (by decide) ?_
  refine lv_aload_n hx hb d_NumberWriter_writeFraction_22 rfl (lv_at hl 1 rfl) ?_
  obtain ⟨o23, ho23, h⟩ := x_bnd h
  refine x_calli (r0 := o23) (ws2 := (wd_NumberWriter_writeFraction cC cI a0_0 a0_1 a0_2 a1_0 a2_0 a2_1 v0 v1 v2)) (x_runVN (As := []) (rest := [.int (2 : Int32), .ref a0_2]) X (c_Row_size l D cC cI H.size a2_0 a2_1 v2 o23 ho23) b_51 0 (hN _ n_59) (htB _ b_52) (htB _ b_53) (htB _ b_22) ⟨by decide, by decide, by decide +kernel⟩ ⟨(Nat.le_of_ble_eq_true rfl), (Nat.le_of_ble_eq_true rfl)⟩ 4 rfl rfl hP hD hS [4, 5] rfl (by decide) rfl rfl hl.1 rfl rfl (Nat.le_of_ble_eq_true rfl) d_NumberWriter_writeFraction_23) hP hD hS hA [4, 5] [0, 1, 2, 3] [0, 1, 2, 3, 4, 5] rfl rfl (by decide) (by decide) rfl (by decide) (fun H locs hP hD hS => ?_)
  refine va_iast hx hb hK hP hD hS 2 1 rfl rfl (show ¬ (((2 : Int32) : Int32) < 0 ∨ 6 ≤ ((2 : Int32) : Int32).toNatClampNeg) by decide) d_NumberWriter_writeFraction_26 (fun H locs hP hD hS => ?_)
  have hP : va_P D classes (wd_NumberWriter_writeFraction cC cI a0_0 a0_1 a0_2 a1_0 a2_0 a2_1 (v0.1, v0.2.1, (upd v0.2.2.1 (2 : Int32).toNatClampNeg o23), v0.2.2.2) v1 v2) H := hP
  have hD : va_D A (wd_NumberWriter_writeFraction cC cI a0_0 a0_1 a0_2 a1_0 a2_0 a2_1 (v0.1, v0.2.1, (upd v0.2.2.1 (2 : Int32).toNatClampNeg o23), v0.2.2.2) v1 v2) := hD
  refine lv_iconst (v := 0) hx hb d_NumberWriter_writeFraction_27 (by decide) ?_
  refine lv_istore (lv' := [(4, .int (0 : Int32)), (0, .ref a0_0), (2, .ref a2_0), (3, .int x3)]) hx hb d_NumberWriter_writeFraction_28 hl (by decide) rfl (fun ls hl => ?_)
  exact w_NumberWriter_writeFraction_30 X FU (v0.1, v0.2.1, (upd v0.2.2.1 (2 : Int32).toNatClampNeg o23), v0.2.2.2) v2 x3 (0 : Int32) ls H locs h (lv_sub hl [1, 2, 3, 0] rfl) hP hD hS

def f_NumberWriter_writeFraction (v0 : T_NumberWriter) (v1 : T_Shape) (v2 : T_Row) : Option O_NumberWriter_writeFraction := (f_NumberWriter_shownFraction v0 v1).bind (fun o2 => (if o2 ≤ 0 then f_NumberWriter_writeFraction_17 v1 v0 v2 o2 else (f_Row_add v2 (46 : Int32)).bind (fun o13 => f_NumberWriter_writeFraction_17 v1 v0 o13.2 o2)))
set_option maxHeartbeats 4000000 in
set_option maxRecDepth 100000 in
theorem w_NumberWriter_writeFraction {p : Program} {l : Launch} {e : Env} {s : State} {m : MethodId} {args : Array Value} {below : List Frame} {meth : Method} {c : Code} {A : Nat → Prop} {D : va_G} {cC cI : ClassId} {a0_0 a0_1 a0_2 a1_0 a2_0 a2_1 : Nat} {v1 : T_Shape} (X : xCX p s m args meth c A D cC cI b_NumberWriter_writeFraction 5 R_NumberWriter none) {out : O_NumberWriter_writeFraction} (v0 : T_NumberWriter) (v2 : T_Row) {ls : Array Slot} {H : Heap} {locs : List Loc} (h : f_NumberWriter_writeFraction v0 v1 v2 = some out) (hl : lv_has ls 5 [(0, .ref a0_0), (1, .ref a1_0), (2, .ref a2_0)]) (hP : va_P D classes (wd_NumberWriter_writeFraction cC cI a0_0 a0_1 a0_2 a1_0 a2_0 a2_1 v0 v1 v2) H) (hD : va_D A (wd_NumberWriter_writeFraction cC cI a0_0 a0_1 a0_2 a1_0 a2_0 a2_1 v0 v1 v2)) (hS : va_S A s.heap H locs) : W p l e rm_NumberWriter_writeFraction s m args below meth c H locs 0 0 (MQ below (q_NumberWriter_writeFraction D cC cI a0_0 a0_1 a0_2 a1_0 a2_0 a2_1 v1 out A) args s 0 0 A) (F0 m 0 ls []) := by
  obtain ⟨hx, hb, hml, hown, htB, ⟨hK, hN⟩, hZ, hA, hr, hlocks⟩ := id X
  refine lv_aload_n hx hb d_NumberWriter_writeFraction_0 rfl (lv_at hl 0 rfl) ?_
  refine lv_aload_n hx hb d_NumberWriter_writeFraction_1 rfl (lv_at hl 1 rfl) ?_
  obtain ⟨o2, ho2, h⟩ := x_bnd h
  refine x_calli (r0 := o2) (ws2 := (wd_NumberWriter_writeFraction cC cI a0_0 a0_1 a0_2 a1_0 a2_0 a2_1 v0 v1 v2)) (x_runV (As := [.ref a1_0]) (rest := []) X (c_NumberWriter_shownFraction l D cC cI H.size a0_0 a0_1 a0_2 a1_0 v0 v1 o2 ho2) b_188 1 (htB _ b_191) (htB _ b_189) (htB _ b_190) (htB _ b_172) ⟨by decide, by decide, by decide +kernel⟩ ⟨(Nat.le_of_ble_eq_true rfl), (Nat.le_of_ble_eq_true rfl)⟩ 0 rfl rfl hP hD hS [0, 1, 2, 3] rfl (by decide) rfl rfl hl.1 rfl rfl (Nat.le_of_ble_eq_true rfl) d_NumberWriter_writeFraction_2) hP hD hS hA [0, 1, 2, 3] [4, 5] [2, 3, 4, 5, 0, 1] rfl rfl (by decide) (by decide) rfl (by decide) (fun H locs hP hD hS => ?_)
  refine lv_istore_n (lv' := [(3, .int o2), (0, .ref a0_0), (1, .ref a1_0), (2, .ref a2_0)]) hx hb d_NumberWriter_writeFraction_5 rfl hl (by decide) rfl (fun ls hl => ?_)
  refine lv_iload_n hx hb d_NumberWriter_writeFraction_6 rfl (lv_at hl 0 rfl) ?_
  refine lv_if_le (tgt := 17) hx hb d_NumberWriter_writeFraction_7 rfl (fun hc => ?_) (fun hc => ?_)
  · have h := (if_pos hc).symm.trans h
    exact w_NumberWriter_writeFraction_17 X v0 v2 o2 ls H locs h (lv_sub hl [1, 3, 0] rfl) hP hD hS
  have h := (if_neg hc).symm.trans h
  refine lv_aload_n hx hb d_NumberWriter_writeFraction_10 rfl (lv_at hl 3 rfl) ?_
  refine lv_bipush (v := 46) hx hb d_NumberWriter_writeFraction_11 (by decide) ?_
  obtain ⟨o13, ho13, h⟩ := x_bnd h
  refine x_calli (r0 := o13.1) (ws2 := (wd_NumberWriter_writeFraction cC cI a0_0 a0_1 a0_2 a1_0 a2_0 a2_1 v0 v1 o13.2)) (x_runVN (As := [.int (46 : Int32)]) (rest := []) X (c_Row_add l D cC cI H.size a2_0 a2_1 v2 (46 : Int32) o13 ho13) b_21 1 (hN _ n_58) (htB _ b_23) (htB _ b_24) (htB _ b_22) ⟨by decide, by decide, by decide +kernel⟩ ⟨(Nat.le_of_ble_eq_true rfl), (Nat.le_of_ble_eq_true rfl)⟩ 4 rfl rfl hP hD hS [4, 5] rfl (by decide) rfl rfl hl.1 rfl rfl (Nat.le_of_ble_eq_true rfl) d_NumberWriter_writeFraction_13) hP hD hS hA [4, 5] [0, 1, 2, 3] [0, 1, 2, 3, 4, 5] rfl rfl (by decide) (by decide) rfl (by decide) (fun H locs hP hD hS => ?_)
  refine lv_pop hx hb d_NumberWriter_writeFraction_16 rfl ?_
  exact w_NumberWriter_writeFraction_17 X v0 o13.2 o2 ls H locs h (lv_sub hl [1, 3, 0] rfl) hP hD hS

set_option maxHeartbeats 4000000 in
set_option maxRecDepth 100000 in
theorem c_NumberWriter_writeFraction (l : Launch) (D : va_G) (cC cI : ClassId) (sz : Nat) (a0_0 a0_1 a0_2 a1_0 a2_0 a2_1 : Nat) (v0 : T_NumberWriter) (v1 : T_Shape) (v2 : T_Row) (out : O_NumberWriter_writeFraction) (h : f_NumberWriter_writeFraction v0 v1 v2 = some out) : Met l y_NumberWriter_writeFraction (.code y_NumberWriter_writeFraction b_NumberWriter_writeFraction 5 none :: BIG) rm_NumberWriter_writeFraction (va_Pc [.ref a0_0, .ref a1_0, .ref a2_0] (xPre D cC cI (wd_NumberWriter_writeFraction cC cI a0_0 a0_1 a0_2 a1_0 a2_0 a2_1 v0 v1 v2) sz)) (q_NumberWriter_writeFraction D cC cI a0_0 a0_1 a0_2 a1_0 a2_0 a2_1 v1 out (va_A (wd_NumberWriter_writeFraction cC cI a0_0 a0_1 a0_2 a1_0 a2_0 a2_1 v0 v1 v2) sz)) 0 0 (va_A (wd_NumberWriter_writeFraction cC cI a0_0 a0_1 a0_2 a1_0 a2_0 a2_1 v0 v1 v2) sz) := by
  refine Met.ofW (cc := b_NumberWriter_writeFraction) (maxL := 5) (ret := none) (by decide) rfl ?_
  intro p e s m args below meth c s₁ B hml hv
  obtain ⟨rfl, rfl, hP, hD0, hG, hZ⟩ := hv
  have hl := lv_entry [.ref a0_0, .ref a1_0, .ref a2_0] (n := 5) (Nat.le_of_ble_eq_true rfl)
  rw [lg_entry_eq]
  exact w_NumberWriter_writeFraction (x_cx B hml hG hZ) v0 v2 h hl hP hD0.self va_S.rf

abbrev wd_NumberWriter_writeExponent (cC cI : ClassId) (a0_0 a0_1 a0_2 a1_0 a2_0 a2_1 : Nat) (v0 : T_NumberWriter) (v1 : T_Shape) (v2 : T_Row) : va_W := [(a0_0, .inr (8, [.ref a0_1, .int v0.2.1, .ref a0_2, .int v0.2.2.2])), (a0_1, .inr (7, [.int v0.1.1, .long v0.1.2.1, .int v0.1.2.2])), (a0_2, .inl (cI, 6, .inl v0.2.2.1)), (a1_0, .inr (2, [.int v1.1, .int v1.2.1, .int v1.2.2.1, .int v1.2.2.2.1, .int v1.2.2.2.2.1, .int v1.2.2.2.2.2.1, .int v1.2.2.2.2.2.2])), (a2_0, .inr (0, [.ref a2_1, .int v2.2])), (a2_1, .inl (cC, 120, .inl v2.1))]
abbrev O_NumberWriter_writeExponent : Type := T_NumberWriter × T_Row
abbrev q_NumberWriter_writeExponent (D : va_G) (cC cI : ClassId) (a0_0 a0_1 a0_2 a1_0 a2_0 a2_1 : Nat) (v1 : T_Shape) (out : O_NumberWriter_writeExponent) (A : Nat → Prop) : Array Value → State → Outcome → State → Prop := va_Qv (fun _ : Unit => True) (fun _ t => va_P D classes (wd_NumberWriter_writeExponent cC cI a0_0 a0_1 a0_2 a1_0 a2_0 a2_1 out.1 v1 out.2) t.heap ∧ va_D A (wd_NumberWriter_writeExponent cC cI a0_0 a0_1 a0_2 a1_0 a2_0 a2_1 out.1 v1 out.2)) A
abbrev rm_NumberWriter_writeExponent : Room := { frames := 3, cells := 0, slots := 0, locals := 66 }
def J_NumberWriter_writeExponent_14 (p : Program) (l : Launch) (e : Env) (s : State) (m : MethodId) (args : Array Value) (below : List Frame) (meth : Method) (c : Code) (A : Nat → Prop) (D : va_G) (cC cI : ClassId) (a0_0 a0_1 a0_2 a1_0 a2_0 a2_1 : Nat) (v1 : T_Shape) (out : O_NumberWriter_writeExponent) (k : T_NumberWriter → T_Row → Option O_NumberWriter_writeExponent) : Prop := ∀ (v0 : T_NumberWriter) (v2 : T_Row) (ls : Array Slot) (H : Heap) (locs : List Loc), k v0 v2 = some out → lv_has ls 5 [(0, .ref a0_0), (1, .ref a1_0), (2, .ref a2_0)] → va_P D classes (wd_NumberWriter_writeExponent cC cI a0_0 a0_1 a0_2 a1_0 a2_0 a2_1 v0 v1 v2) H → va_D A (wd_NumberWriter_writeExponent cC cI a0_0 a0_1 a0_2 a1_0 a2_0 a2_1 v0 v1 v2) → va_S A s.heap H locs → W p l e rm_NumberWriter_writeExponent s m args below meth c H locs 0 0 (MQ below (q_NumberWriter_writeExponent D cC cI a0_0 a0_1 a0_2 a1_0 a2_0 a2_1 v1 out A) args s 0 0 A) (F0 m 14 ls [])
def J_NumberWriter_writeExponent_71 (p : Program) (l : Launch) (e : Env) (s : State) (m : MethodId) (args : Array Value) (below : List Frame) (meth : Method) (c : Code) (A : Nat → Prop) (D : va_G) (cC cI : ClassId) (a0_0 a0_1 a0_2 a1_0 a2_0 a2_1 : Nat) (v1 : T_Shape) (out : O_NumberWriter_writeExponent) (k : T_NumberWriter → T_Row → Option O_NumberWriter_writeExponent) : Prop := ∀ (v0 : T_NumberWriter) (v2 : T_Row) (ls : Array Slot) (H : Heap) (locs : List Loc), k v0 v2 = some out → lv_has ls 5 [(0, .ref a0_0), (2, .ref a2_0)] → va_P D classes (wd_NumberWriter_writeExponent cC cI a0_0 a0_1 a0_2 a1_0 a2_0 a2_1 v0 v1 v2) H → va_D A (wd_NumberWriter_writeExponent cC cI a0_0 a0_1 a0_2 a1_0 a2_0 a2_1 v0 v1 v2) → va_S A s.heap H locs → W p l e rm_NumberWriter_writeExponent s m args below meth c H locs 0 0 (MQ below (q_NumberWriter_writeExponent D cC cI a0_0 a0_1 a0_2 a1_0 a2_0 a2_1 v1 out A) args s 0 0 A) (F0 m 71 ls [])
def f_NumberWriter_writeExponent_71 (v1 : T_Shape) (v0 : T_NumberWriter) (v2 : T_Row) : Option O_NumberWriter_writeExponent := (f_Row_size v2).bind (fun o77 => some ((v0.1, v0.2.1, (upd v0.2.2.1 (5 : Int32).toNatClampNeg o77), v0.2.2.2), v2))
set_option maxHeartbeats 4000000 in
set_option maxRecDepth 100000 in
theorem w_NumberWriter_writeExponent_71 {p : Program} {l : Launch} {e : Env} {s : State} {m : MethodId} {args : Array Value} {below : List Frame} {meth : Method} {c : Code} {A : Nat → Prop} {D : va_G} {cC cI : ClassId} {a0_0 a0_1 a0_2 a1_0 a2_0 a2_1 : Nat} {v1 : T_Shape} (X : xCX p s m args meth c A D cC cI b_NumberWriter_writeExponent 5 R_NumberWriter none) {out : O_NumberWriter_writeExponent}   : J_NumberWriter_writeExponent_71 p l e s m args below meth c A D cC cI a0_0 a0_1 a0_2 a1_0 a2_0 a2_1 v1 out (f_NumberWriter_writeExponent_71 v1 ) := by
  obtain ⟨hx, hb, hml, hown, htB, ⟨hK, hN⟩, hZ, hA, hr, hlocks⟩ := id X
  intro v0 v2 ls H locs h hl hP hD hS
  refine lv_aload_n hx hb d_NumberWriter_writeExponent_71 rfl (lv_at hl 0 rfl) ?_
  refine va_get (D := D) (ci := 8) (v := .ref a0_2) (C := R_NumberWriter) (T := F_NumberWriter) (N := 4) hx hb htB in_NumberWriter hown hK hP 0 rfl rfl 2 (by decide) (htB _ b_157) (fun _ h9 => h9) rfl d_NumberWriter_writeExponent_72 ?_
  refine lv_iconst (v := 5) hx hb d_NumberWriter_writeExponent_75 (by decide) ?_
  refine lv_aload_n hx hb d_NumberWriter_writeExponent_76 rfl (lv_at hl 1 rfl) ?_
  obtain ⟨o77, ho77, h⟩ := x_bnd h
  refine x_calli (r0 := o77) (ws2 := (wd_NumberWriter_writeExponent cC cI a0_0 a0_1 a0_2 a1_0 a2_0 a2_1 v0 v1 v2)) (x_runVN (As := []) (rest := [.int (5 : Int32), .ref a0_2]) X (c_Row_size l D cC cI H.size a2_0 a2_1 v2 o77 ho77) b_51 0 (hN _ n_59) (htB _ b_52) (htB _ b_53) (htB _ b_22) ⟨by decide, by decide, by decide +kernel⟩ ⟨(Nat.le_of_ble_eq_true rfl), (Nat.le_of_ble_eq_true rfl)⟩ 4 rfl rfl hP hD hS [4, 5] rfl (by decide) rfl rfl hl.1 rfl rfl (Nat.le_of_ble_eq_true rfl) d_NumberWriter_writeExponent_77) hP hD hS hA [4, 5] [0, 1, 2, 3] [0, 1, 2, 3, 4, 5] rfl rfl (by decide) (by decide) rfl (by decide) (fun H locs hP hD hS => ?_)
  refine va_iast hx hb hK hP hD hS 2 1 rfl rfl (show ¬ (((5 : Int32) : Int32) < 0 ∨ 6 ≤ ((5 : Int32) : Int32).toNatClampNeg) by decide) d_NumberWriter_writeExponent_80 (fun H locs hP hD hS => ?_)
  have hP : va_P D classes (wd_NumberWriter_writeExponent cC cI a0_0 a0_1 a0_2 a1_0 a2_0 a2_1 (v0.1, v0.2.1, (upd v0.2.2.1 (5 : Int32).toNatClampNeg o77), v0.2.2.2) v1 v2) H := hP
  have hD : va_D A (wd_NumberWriter_writeExponent cC cI a0_0 a0_1 a0_2 a1_0 a2_0 a2_1 (v0.1, v0.2.1, (upd v0.2.2.1 (5 : Int32).toNatClampNeg o77), v0.2.2.2) v1 v2) := hD
  obtain rfl := Option.some.inj h
  exact W.vret hx hb hr (fun t ht hW => ⟨⟨(), rfl, trivial, by rw [ht]; exact hP, hD⟩, hS.F ht⟩) hS.2.2 d_NumberWriter_writeExponent_81 hlocks

def J_NumberWriter_writeExponent_45 (p : Program) (l : Launch) (e : Env) (s : State) (m : MethodId) (args : Array Value) (below : List Frame) (meth : Method) (c : Code) (A : Nat → Prop) (D : va_G) (cC cI : ClassId) (a0_0 a0_1 a0_2 a1_0 a2_0 a2_1 : Nat) (v1 : T_Shape) (out : O_NumberWriter_writeExponent) (k : T_NumberWriter → T_Row → Option O_NumberWriter_writeExponent) : Prop := ∀ (v0 : T_NumberWriter) (v2 : T_Row) (ls : Array Slot) (H : Heap) (locs : List Loc), k v0 v2 = some out → lv_has ls 5 [(0, .ref a0_0), (1, .ref a1_0), (2, .ref a2_0)] → va_P D classes (wd_NumberWriter_writeExponent cC cI a0_0 a0_1 a0_2 a1_0 a2_0 a2_1 v0 v1 v2) H → va_D A (wd_NumberWriter_writeExponent cC cI a0_0 a0_1 a0_2 a1_0 a2_0 a2_1 v0 v1 v2) → va_S A s.heap H locs → W p l e rm_NumberWriter_writeExponent s m args below meth c H locs 0 0 (MQ below (q_NumberWriter_writeExponent D cC cI a0_0 a0_1 a0_2 a1_0 a2_0 a2_1 v1 out A) args s 0 0 A) (F0 m 45 ls [])
def f_NumberWriter_writeExponent_45 (v1 : T_Shape) (v0 : T_NumberWriter) (v2 : T_Row) : Option O_NumberWriter_writeExponent := (f_Deci_digitCount ((if 0 ≤ v0.2.1 then v0.2.1 else 0 - v0.2.1).toInt64)).bind (fun o56 => (f_NumberWriter_writeDigits ((if 0 ≤ v0.2.1 then v0.2.1 else 0 - v0.2.1).toInt64) (if o56 < v1.2.2.2.2.2.2 then v1.2.2.2.2.2.2 else o56) (0 : Int32) v2).bind (fun o68 => f_NumberWriter_writeExponent_71 v1 v0 o68))
set_option maxHeartbeats 4000000 in
set_option maxRecDepth 100000 in
theorem w_NumberWriter_writeExponent_45 {p : Program} {l : Launch} {e : Env} {s : State} {m : MethodId} {args : Array Value} {below : List Frame} {meth : Method} {c : Code} {A : Nat → Prop} {D : va_G} {cC cI : ClassId} {a0_0 a0_1 a0_2 a1_0 a2_0 a2_1 : Nat} {v1 : T_Shape} (X : xCX p s m args meth c A D cC cI b_NumberWriter_writeExponent 5 R_NumberWriter none) {out : O_NumberWriter_writeExponent}   : J_NumberWriter_writeExponent_45 p l e s m args below meth c A D cC cI a0_0 a0_1 a0_2 a1_0 a2_0 a2_1 v1 out (f_NumberWriter_writeExponent_45 v1 ) := by
  obtain ⟨hx, hb, hml, hown, htB, ⟨hK, hN⟩, hZ, hA, hr, hlocks⟩ := id X
  intro v0 v2 ls H locs h hl hP hD hS
  refine lv_aload_n hx hb d_NumberWriter_writeExponent_45 rfl (lv_at hl 0 rfl) ?_
  refine va_get (D := D) (ci := 8) (v := .int v0.2.1) (C := R_NumberWriter) (T := F_NumberWriter) (N := 4) hx hb htB in_NumberWriter hown hK hP 0 rfl rfl 1 (by decide) (htB _ b_161) (fun _ h9 => h9) rfl d_NumberWriter_writeExponent_46 ?_
  refine va_mabs hx hb (hml.trans hl.1.symm) hown (htB _ b_195) (htB _ b_196) (htB _ b_108) (htB _ b_197) (Nat.le_of_ble_eq_true rfl) (Nat.le_of_ble_eq_true rfl) (Nat.le_of_ble_eq_true rfl) (Nat.le_of_ble_eq_true rfl) d_NumberWriter_writeExponent_49 ?_
  refine lv_i2l hx hb d_NumberWriter_writeExponent_52 rfl ?_
  refine lv_lstore_n (lv' := [(3, .long ((if 0 ≤ v0.2.1 then v0.2.1 else 0 - v0.2.1).toInt64)), (0, .ref a0_0), (1, .ref a1_0), (2, .ref a2_0)]) hx hb d_NumberWriter_writeExponent_53 rfl hl (by decide) rfl (fun ls hl => ?_)
  refine lv_lload_n hx hb d_NumberWriter_writeExponent_54 rfl (lv_at hl 0 rfl) ?_
  refine lv_lload_n hx hb d_NumberWriter_writeExponent_55 rfl (lv_at hl 0 rfl) ?_
  obtain ⟨o56, ho56, h⟩ := x_bnd h
  refine x_calli (r0 := o56) (ws2 := (wd_NumberWriter_writeExponent cC cI a0_0 a0_1 a0_2 a1_0 a2_0 a2_1 v0 v1 v2)) (x_runSN (As := [.long ((if 0 ≤ v0.2.1 then v0.2.1 else 0 - v0.2.1).toInt64)]) (rest := [.long ((if 0 ≤ v0.2.1 then v0.2.1 else 0 - v0.2.1).toInt64)]) X (c_Deci_digitCount l D cC cI H.size ((if 0 ≤ v0.2.1 then v0.2.1 else 0 - v0.2.1).toInt64) o56 ho56) b_159 1 (hN _ n_47) (htB _ b_160) (htB _ b_56) ⟨by decide, by decide, by decide +kernel⟩ ⟨(Nat.le_of_ble_eq_true rfl), (Nat.le_of_ble_eq_true rfl)⟩ hP hD hS [] rfl (by decide) rfl rfl hl.1 rfl rfl (Nat.le_of_ble_eq_true rfl) d_NumberWriter_writeExponent_56) hP hD hS hA [] [0, 1, 2, 3, 4, 5] [0, 1, 2, 3, 4, 5] rfl rfl (by decide) (by decide) rfl (by decide) (fun H locs hP hD hS => ?_)
  refine lv_aload_n hx hb d_NumberWriter_writeExponent_59 rfl (lv_at hl 2 rfl) ?_
  refine va_getN (D := D) (ci := 2) (v := .int v1.2.2.2.2.2.2) (C := R_Shape) (T := F_Shape) (N := 7) hx hb htB in_Shape hown hK hP 3 rfl rfl 6 (by decide) (va_Nw.use rfl (hN _ n_52)) (fun _ h9 => h9) rfl d_NumberWriter_writeExponent_60 ?_
  refine va_mmax hx hb (hml.trans hl.1.symm) hown (htB _ b_183) (htB _ b_107) (htB _ b_108) (htB _ b_109) (Nat.le_of_ble_eq_true rfl) (Nat.le_of_ble_eq_true rfl) (Nat.le_of_ble_eq_true rfl) (Nat.le_of_ble_eq_true rfl) d_NumberWriter_writeExponent_63 ?_
  refine lv_iconst (v := 0) hx hb d_NumberWriter_writeExponent_66 (by decide) ?_
  refine lv_aload_n hx hb d_NumberWriter_writeExponent_67 rfl (lv_at hl 3 rfl) ?_
  obtain ⟨o68, ho68, h⟩ := x_bnd h
  refine x_callv (ws2 := (wd_NumberWriter_writeExponent cC cI a0_0 a0_1 a0_2 a1_0 a2_0 a2_1 v0 v1 o68)) (x_runS (As := [.long ((if 0 ≤ v0.2.1 then v0.2.1 else 0 - v0.2.1).toInt64), .int (if o56 < v1.2.2.2.2.2.2 then v1.2.2.2.2.2.2 else o56), .int (0 : Int32), .ref a2_0]) (rest := []) X (c_NumberWriter_writeDigits l D cC cI H.size a2_0 a2_1 ((if 0 ≤ v0.2.1 then v0.2.1 else 0 - v0.2.1).toInt64) (if o56 < v1.2.2.2.2.2.2 then v1.2.2.2.2.2.2 else o56) (0 : Int32) v2 o68 ho68) b_185 4 (htB _ b_187) (htB _ b_186) (htB _ b_172) ⟨by decide, by decide, by decide +kernel⟩ ⟨(Nat.le_of_ble_eq_true rfl), (Nat.le_of_ble_eq_true rfl)⟩ hP hD hS [4, 5] rfl (by decide) rfl rfl hl.1 rfl rfl (Nat.le_of_ble_eq_true rfl) d_NumberWriter_writeExponent_68) hP hD hS hA [4, 5] [0, 1, 2, 3] [0, 1, 2, 3, 4, 5] rfl rfl (by decide) (by decide) rfl (by decide) (fun H locs hP hD hS => ?_)
  exact w_NumberWriter_writeExponent_71 X v0 o68 ls H locs h (lv_sub hl [1, 3] rfl) hP hD hS

def f_NumberWriter_writeExponent_14 (v1 : T_Shape) (v0 : T_NumberWriter) (v2 : T_Row) : Option O_NumberWriter_writeExponent := (f_Row_size v2).bind (fun o20 => (if v1.2.2.2.2.2.2 ≤ 0 then f_NumberWriter_writeExponent_71 v1 (v0.1, v0.2.1, (upd v0.2.2.1 (4 : Int32).toNatClampNeg o20), v0.2.2.2) v2 else (if 0 ≤ v0.2.1 then f_NumberWriter_writeExponent_45 v1 (v0.1, v0.2.1, (upd v0.2.2.1 (4 : Int32).toNatClampNeg o20), v0.2.2.2) v2 else (f_Row_add v2 (45 : Int32)).bind (fun o41 => f_NumberWriter_writeExponent_45 v1 (v0.1, v0.2.1, (upd v0.2.2.1 (4 : Int32).toNatClampNeg o20), v0.2.2.2) o41.2))))
set_option maxHeartbeats 4000000 in
set_option maxRecDepth 100000 in
theorem w_NumberWriter_writeExponent_14 {p : Program} {l : Launch} {e : Env} {s : State} {m : MethodId} {args : Array Value} {below : List Frame} {meth : Method} {c : Code} {A : Nat → Prop} {D : va_G} {cC cI : ClassId} {a0_0 a0_1 a0_2 a1_0 a2_0 a2_1 : Nat} {v1 : T_Shape} (X : xCX p s m args meth c A D cC cI b_NumberWriter_writeExponent 5 R_NumberWriter none) {out : O_NumberWriter_writeExponent}   : J_NumberWriter_writeExponent_14 p l e s m args below meth c A D cC cI a0_0 a0_1 a0_2 a1_0 a2_0 a2_1 v1 out (f_NumberWriter_writeExponent_14 v1 ) := by
  obtain ⟨hx, hb, hml, hown, htB, ⟨hK, hN⟩, hZ, hA, hr, hlocks⟩ := id X
  intro v0 v2 ls H locs h hl hP hD hS
  refine lv_aload_n hx hb d_NumberWriter_writeExponent_14 rfl (lv_at hl 0 rfl) ?_
  refine va_get (D := D) (ci := 8) (v := .ref a0_2) (C := R_NumberWriter) (T := F_NumberWriter) (N := 4) hx hb htB in_NumberWriter hown hK hP 0 rfl rfl 2 (by decide) (htB _ b_157) (fun _ h9 => h9) rfl d_NumberWriter_writeExponent_15 ?_
  refine lv_iconst (v := 4) hx hb d_NumberWriter_writeExponent_18 (by decide) ?_
  refine lv_aload_n hx hb d_NumberWriter_writeExponent_19 rfl (lv_at hl 2 rfl) ?_
  obtain ⟨o20, ho20, h⟩ := x_bnd h
  refine x_calli (r0 := o20) (ws2 := (wd_NumberWriter_writeExponent cC cI a0_0 a0_1 a0_2 a1_0 a2_0 a2_1 v0 v1 v2)) (x_runVN (As := []) (rest := [.int (4 : Int32), .ref a0_2]) X (c_Row_size l D cC cI H.size a2_0 a2_1 v2 o20 ho20) b_51 0 (hN _ n_59) (htB _ b_52) (htB _ b_53) (htB _ b_22) ⟨by decide, by decide, by decide +kernel⟩ ⟨(Nat.le_of_ble_eq_true rfl), (Nat.le_of_ble_eq_true rfl)⟩ 4 rfl rfl hP hD hS [4, 5] rfl (by decide) rfl rfl hl.1 rfl rfl (Nat.le_of_ble_eq_true rfl) d_NumberWriter_writeExponent_20) hP hD hS hA [4, 5] [0, 1, 2, 3] [0, 1, 2, 3, 4, 5] rfl rfl (by decide) (by decide) rfl (by decide) (fun H locs hP hD hS => ?_)
  refine va_iast hx hb hK hP hD hS 2 1 rfl rfl (show ¬ (((4 : Int32) : Int32) < 0 ∨ 6 ≤ ((4 : Int32) : Int32).toNatClampNeg) by decide) d_NumberWriter_writeExponent_23 (fun H locs hP hD hS => ?_)
  have hP : va_P D classes (wd_NumberWriter_writeExponent cC cI a0_0 a0_1 a0_2 a1_0 a2_0 a2_1 (v0.1, v0.2.1, (upd v0.2.2.1 (4 : Int32).toNatClampNeg o20), v0.2.2.2) v1 v2) H := hP
  have hD : va_D A (wd_NumberWriter_writeExponent cC cI a0_0 a0_1 a0_2 a1_0 a2_0 a2_1 (v0.1, v0.2.1, (upd v0.2.2.1 (4 : Int32).toNatClampNeg o20), v0.2.2.2) v1 v2) := hD
  refine lv_aload_n hx hb d_NumberWriter_writeExponent_24 rfl (lv_at hl 1 rfl) ?_
  refine va_getN (D := D) (ci := 2) (v := .int v1.2.2.2.2.2.2) (C := R_Shape) (T := F_Shape) (N := 7) hx hb htB in_Shape hown hK hP 3 rfl rfl 6 (by decide) (va_Nw.use rfl (hN _ n_52)) (fun _ h9 => h9) rfl d_NumberWriter_writeExponent_25 ?_
  refine lv_if_le (tgt := 71) hx hb d_NumberWriter_writeExponent_28 rfl (fun hc => ?_) (fun hc => ?_)
  · have h := (if_pos hc).symm.trans h
    exact w_NumberWriter_writeExponent_71 X (v0.1, v0.2.1, (upd v0.2.2.1 (4 : Int32).toNatClampNeg o20), v0.2.2.2) v2 ls H locs h (lv_sub hl [0, 2] rfl) hP hD hS
  have h := (if_neg hc).symm.trans h
  refine lv_aload_n hx hb d_NumberWriter_writeExponent_31 rfl (lv_at hl 0 rfl) ?_
  refine va_get (D := D) (ci := 8) (v := .int v0.2.1) (C := R_NumberWriter) (T := F_NumberWriter) (N := 4) hx hb htB in_NumberWriter hown hK hP 0 rfl rfl 1 (by decide) (htB _ b_161) (fun _ h9 => h9) rfl d_NumberWriter_writeExponent_32 ?_
  refine lv_if_ge (tgt := 45) hx hb d_NumberWriter_writeExponent_35 rfl (fun hc => ?_) (fun hc => ?_)
  · have h := (if_pos hc).symm.trans h
    exact w_NumberWriter_writeExponent_45 X (v0.1, v0.2.1, (upd v0.2.2.1 (4 : Int32).toNatClampNeg o20), v0.2.2.2) v2 ls H locs h (lv_sub hl [0, 1, 2] rfl) hP hD hS
  have h := (if_neg hc).symm.trans h
  refine lv_aload_n hx hb d_NumberWriter_writeExponent_38 rfl (lv_at hl 2 rfl) ?_
  refine lv_bipush (v := 45) hx hb d_NumberWriter_writeExponent_39 (by decide) ?_
  obtain ⟨o41, ho41, h⟩ := x_bnd h
  refine x_calli (r0 := o41.1) (ws2 := (wd_NumberWriter_writeExponent cC cI a0_0 a0_1 a0_2 a1_0 a2_0 a2_1 (v0.1, v0.2.1, (upd v0.2.2.1 (4 : Int32).toNatClampNeg o20), v0.2.2.2) v1 o41.2)) (x_runVN (As := [.int (45 : Int32)]) (rest := []) X (c_Row_add l D cC cI H.size a2_0 a2_1 v2 (45 : Int32) o41 ho41) b_21 1 (hN _ n_58) (htB _ b_23) (htB _ b_24) (htB _ b_22) ⟨by decide, by decide, by decide +kernel⟩ ⟨(Nat.le_of_ble_eq_true rfl), (Nat.le_of_ble_eq_true rfl)⟩ 4 rfl rfl hP hD hS [4, 5] rfl (by decide) rfl rfl hl.1 rfl rfl (Nat.le_of_ble_eq_true rfl) d_NumberWriter_writeExponent_41) hP hD hS hA [4, 5] [0, 1, 2, 3] [0, 1, 2, 3, 4, 5] rfl rfl (by decide) (by decide) rfl (by decide) (fun H locs hP hD hS => ?_)
  refine lv_pop hx hb d_NumberWriter_writeExponent_44 rfl ?_
  exact w_NumberWriter_writeExponent_45 X (v0.1, v0.2.1, (upd v0.2.2.1 (4 : Int32).toNatClampNeg o20), v0.2.2.2) o41.2 ls H locs h (lv_sub hl [0, 1, 2] rfl) hP hD hS

def f_NumberWriter_writeExponent (v0 : T_NumberWriter) (v1 : T_Shape) (v2 : T_Row) : Option O_NumberWriter_writeExponent := (if v1.2.2.2.2.2.2 ≤ 0 then f_NumberWriter_writeExponent_14 v1 v0 v2 else (f_Row_add v2 (69 : Int32)).bind (fun o10 => f_NumberWriter_writeExponent_14 v1 v0 o10.2))
set_option maxHeartbeats 4000000 in
set_option maxRecDepth 100000 in
theorem w_NumberWriter_writeExponent {p : Program} {l : Launch} {e : Env} {s : State} {m : MethodId} {args : Array Value} {below : List Frame} {meth : Method} {c : Code} {A : Nat → Prop} {D : va_G} {cC cI : ClassId} {a0_0 a0_1 a0_2 a1_0 a2_0 a2_1 : Nat} {v1 : T_Shape} (X : xCX p s m args meth c A D cC cI b_NumberWriter_writeExponent 5 R_NumberWriter none) {out : O_NumberWriter_writeExponent} (v0 : T_NumberWriter) (v2 : T_Row) {ls : Array Slot} {H : Heap} {locs : List Loc} (h : f_NumberWriter_writeExponent v0 v1 v2 = some out) (hl : lv_has ls 5 [(0, .ref a0_0), (1, .ref a1_0), (2, .ref a2_0)]) (hP : va_P D classes (wd_NumberWriter_writeExponent cC cI a0_0 a0_1 a0_2 a1_0 a2_0 a2_1 v0 v1 v2) H) (hD : va_D A (wd_NumberWriter_writeExponent cC cI a0_0 a0_1 a0_2 a1_0 a2_0 a2_1 v0 v1 v2)) (hS : va_S A s.heap H locs) : W p l e rm_NumberWriter_writeExponent s m args below meth c H locs 0 0 (MQ below (q_NumberWriter_writeExponent D cC cI a0_0 a0_1 a0_2 a1_0 a2_0 a2_1 v1 out A) args s 0 0 A) (F0 m 0 ls []) := by
  obtain ⟨hx, hb, hml, hown, htB, ⟨hK, hN⟩, hZ, hA, hr, hlocks⟩ := id X
  refine lv_aload_n hx hb d_NumberWriter_writeExponent_0 rfl (lv_at hl 1 rfl) ?_
  refine va_getN (D := D) (ci := 2) (v := .int v1.2.2.2.2.2.2) (C := R_Shape) (T := F_Shape) (N := 7) hx hb htB in_Shape hown hK hP 3 rfl rfl 6 (by decide) (va_Nw.use rfl (hN _ n_52)) (fun _ h9 => h9) rfl d_NumberWriter_writeExponent_1 ?_
  refine lv_if_le (tgt := 14) hx hb d_NumberWriter_writeExponent_4 rfl (fun hc => ?_) (fun hc => ?_)
  · have h := (if_pos hc).symm.trans h
    exact w_NumberWriter_writeExponent_14 X v0 v2 ls H locs h (lv_sub hl [0, 1, 2] rfl) hP hD hS
  have h := (if_neg hc).symm.trans h
  refine lv_aload_n hx hb d_NumberWriter_writeExponent_7 rfl (lv_at hl 2 rfl) ?_
  refine lv_bipush (v := 69) hx hb d_NumberWriter_writeExponent_8 (by decide) ?_
  obtain ⟨o10, ho10, h⟩ := x_bnd h
  refine x_calli (r0 := o10.1) (ws2 := (wd_NumberWriter_writeExponent cC cI a0_0 a0_1 a0_2 a1_0 a2_0 a2_1 v0 v1 o10.2)) (x_runVN (As := [.int (69 : Int32)]) (rest := []) X (c_Row_add l D cC cI H.size a2_0 a2_1 v2 (69 : Int32) o10 ho10) b_21 1 (hN _ n_58) (htB _ b_23) (htB _ b_24) (htB _ b_22) ⟨by decide, by decide, by decide +kernel⟩ ⟨(Nat.le_of_ble_eq_true rfl), (Nat.le_of_ble_eq_true rfl)⟩ 4 rfl rfl hP hD hS [4, 5] rfl (by decide) rfl rfl hl.1 rfl rfl (Nat.le_of_ble_eq_true rfl) d_NumberWriter_writeExponent_10) hP hD hS hA [4, 5] [0, 1, 2, 3] [0, 1, 2, 3, 4, 5] rfl rfl (by decide) (by decide) rfl (by decide) (fun H locs hP hD hS => ?_)
  refine lv_pop hx hb d_NumberWriter_writeExponent_13 rfl ?_
  exact w_NumberWriter_writeExponent_14 X v0 o10.2 ls H locs h (lv_sub hl [0, 1, 2] rfl) hP hD hS

set_option maxHeartbeats 4000000 in
set_option maxRecDepth 100000 in
theorem c_NumberWriter_writeExponent (l : Launch) (D : va_G) (cC cI : ClassId) (sz : Nat) (a0_0 a0_1 a0_2 a1_0 a2_0 a2_1 : Nat) (v0 : T_NumberWriter) (v1 : T_Shape) (v2 : T_Row) (out : O_NumberWriter_writeExponent) (h : f_NumberWriter_writeExponent v0 v1 v2 = some out) : Met l y_NumberWriter_writeExponent (.code y_NumberWriter_writeExponent b_NumberWriter_writeExponent 5 none :: BIG) rm_NumberWriter_writeExponent (va_Pc [.ref a0_0, .ref a1_0, .ref a2_0] (xPre D cC cI (wd_NumberWriter_writeExponent cC cI a0_0 a0_1 a0_2 a1_0 a2_0 a2_1 v0 v1 v2) sz)) (q_NumberWriter_writeExponent D cC cI a0_0 a0_1 a0_2 a1_0 a2_0 a2_1 v1 out (va_A (wd_NumberWriter_writeExponent cC cI a0_0 a0_1 a0_2 a1_0 a2_0 a2_1 v0 v1 v2) sz)) 0 0 (va_A (wd_NumberWriter_writeExponent cC cI a0_0 a0_1 a0_2 a1_0 a2_0 a2_1 v0 v1 v2) sz) := by
  refine Met.ofW (cc := b_NumberWriter_writeExponent) (maxL := 5) (ret := none) (by decide) rfl ?_
  intro p e s m args below meth c s₁ B hml hv
  obtain ⟨rfl, rfl, hP, hD0, hG, hZ⟩ := hv
  have hl := lv_entry [.ref a0_0, .ref a1_0, .ref a2_0] (n := 5) (Nat.le_of_ble_eq_true rfl)
  rw [lg_entry_eq]
  exact w_NumberWriter_writeExponent (x_cx B hml hG hZ) v0 v2 h hl hP hD0.self va_S.rf

