abbrev wd_Pattern_secondIsUsual (cC cI : ClassId) (a0_0 a0_1 a0_2 a0_3 a0_4 a0_5 a0_6 a0_7 a0_8 a0_9 a0_10 a0_11 a0_12 : Nat) (v0 : T_Pattern) : va_W := [(a0_0, .inr (4, [.ref a0_1, .ref a0_7, .int v0.2.2.1, .int v0.2.2.2])), (a0_1, .inr (3, [.ref a0_2, .ref a0_4, .ref a0_5])), (a0_2, .inr (1, [.ref a0_3, .int v0.1.1.2])), (a0_3, .inl (cI, 120, .inl v0.1.1.1)), (a0_4, .inr (2, [.int v0.1.2.1.1, .int v0.1.2.1.2.1, .int v0.1.2.1.2.2.1, .int v0.1.2.1.2.2.2.1, .int v0.1.2.1.2.2.2.2.1, .int v0.1.2.1.2.2.2.2.2.1, .int v0.1.2.1.2.2.2.2.2.2])), (a0_5, .inr (1, [.ref a0_6, .int v0.1.2.2.2])), (a0_6, .inl (cI, 120, .inl v0.1.2.2.1)), (a0_7, .inr (3, [.ref a0_8, .ref a0_10, .ref a0_11])), (a0_8, .inr (1, [.ref a0_9, .int v0.2.1.1.2])), (a0_9, .inl (cI, 120, .inl v0.2.1.1.1)), (a0_10, .inr (2, [.int v0.2.1.2.1.1, .int v0.2.1.2.1.2.1, .int v0.2.1.2.1.2.2.1, .int v0.2.1.2.1.2.2.2.1, .int v0.2.1.2.1.2.2.2.2.1, .int v0.2.1.2.1.2.2.2.2.2.1, .int v0.2.1.2.1.2.2.2.2.2.2])), (a0_11, .inr (1, [.ref a0_12, .int v0.2.1.2.2.2])), (a0_12, .inl (cI, 120, .inl v0.2.1.2.2.1))]
abbrev O_Pattern_secondIsUsual : Type := Int32
abbrev q_Pattern_secondIsUsual (D : va_G) (cC cI : ClassId) (a0_0 a0_1 a0_2 a0_3 a0_4 a0_5 a0_6 a0_7 a0_8 a0_9 a0_10 a0_11 a0_12 : Nat) (v0 : T_Pattern) (out : O_Pattern_secondIsUsual) (A : Nat → Prop) : Array Value → State → Outcome → State → Prop := va_Qi (fun r (_ : Unit) => r = out) (fun _ t => va_P D classes (wd_Pattern_secondIsUsual cC cI a0_0 a0_1 a0_2 a0_3 a0_4 a0_5 a0_6 a0_7 a0_8 a0_9 a0_10 a0_11 a0_12 v0) t.heap ∧ va_D A (wd_Pattern_secondIsUsual cC cI a0_0 a0_1 a0_2 a0_3 a0_4 a0_5 a0_6 a0_7 a0_8 a0_9 a0_10 a0_11 a0_12 v0)) A
abbrev rm_Pattern_secondIsUsual : Room := { frames := 2, cells := 0, slots := 0, locals := 44 }
def J_Pattern_secondIsUsual_62 (p : Program) (l : Launch) (e : Env) (s : State) (m : MethodId) (args : Array Value) (below : List Frame) (meth : Method) (c : Code) (A : Nat → Prop) (D : va_G) (cC cI : ClassId) (a0_0 a0_1 a0_2 a0_3 a0_4 a0_5 a0_6 a0_7 a0_8 a0_9 a0_10 a0_11 a0_12 : Nat) (v0 : T_Pattern) (out : O_Pattern_secondIsUsual) (k : Option O_Pattern_secondIsUsual) : Prop := ∀  (ls : Array Slot) (H : Heap) (locs : List Loc), k  = some out → lv_has ls 1 [] → va_P D classes (wd_Pattern_secondIsUsual cC cI a0_0 a0_1 a0_2 a0_3 a0_4 a0_5 a0_6 a0_7 a0_8 a0_9 a0_10 a0_11 a0_12 v0) H → va_D A (wd_Pattern_secondIsUsual cC cI a0_0 a0_1 a0_2 a0_3 a0_4 a0_5 a0_6 a0_7 a0_8 a0_9 a0_10 a0_11 a0_12 v0) → va_S A s.heap H locs → W p l e rm_Pattern_secondIsUsual s m args below meth c H locs 0 0 (MQ below (q_Pattern_secondIsUsual D cC cI a0_0 a0_1 a0_2 a0_3 a0_4 a0_5 a0_6 a0_7 a0_8 a0_9 a0_10 a0_11 a0_12 v0 out A) args s 0 0 A) (F0 m 62 ls [])
def J_Pattern_secondIsUsual_63 (p : Program) (l : Launch) (e : Env) (s : State) (m : MethodId) (args : Array Value) (below : List Frame) (meth : Method) (c : Code) (A : Nat → Prop) (D : va_G) (cC cI : ClassId) (a0_0 a0_1 a0_2 a0_3 a0_4 a0_5 a0_6 a0_7 a0_8 a0_9 a0_10 a0_11 a0_12 : Nat) (v0 : T_Pattern) (out : O_Pattern_secondIsUsual) (k : Int32 → Option O_Pattern_secondIsUsual) : Prop := ∀ (s0 : Int32) (ls : Array Slot) (H : Heap) (locs : List Loc), k s0 = some out → lv_has ls 1 [] → va_P D classes (wd_Pattern_secondIsUsual cC cI a0_0 a0_1 a0_2 a0_3 a0_4 a0_5 a0_6 a0_7 a0_8 a0_9 a0_10 a0_11 a0_12 v0) H → va_D A (wd_Pattern_secondIsUsual cC cI a0_0 a0_1 a0_2 a0_3 a0_4 a0_5 a0_6 a0_7 a0_8 a0_9 a0_10 a0_11 a0_12 v0) → va_S A s.heap H locs → W p l e rm_Pattern_secondIsUsual s m args below meth c H locs 0 0 (MQ below (q_Pattern_secondIsUsual D cC cI a0_0 a0_1 a0_2 a0_3 a0_4 a0_5 a0_6 a0_7 a0_8 a0_9 a0_10 a0_11 a0_12 v0 out A) args s 0 0 A) (F0 m 63 ls [.int s0])
def f_Pattern_secondIsUsual_63 (v0 : T_Pattern) (s0 : Int32) : Option O_Pattern_secondIsUsual := if (s0 = 0 ∨ s0 = 1) then some s0 else none
set_option maxHeartbeats 4000000 in
set_option maxRecDepth 100000 in
theorem w_Pattern_secondIsUsual_63 {p : Program} {l : Launch} {e : Env} {s : State} {m : MethodId} {args : Array Value} {below : List Frame} {meth : Method} {c : Code} {A : Nat → Prop} {D : va_G} {cC cI : ClassId} {a0_0 a0_1 a0_2 a0_3 a0_4 a0_5 a0_6 a0_7 a0_8 a0_9 a0_10 a0_11 a0_12 : Nat} {v0 : T_Pattern} (X : xCX p s m args meth c A D cC cI b_Pattern_secondIsUsual 1 R_Pattern (some .boolean)) {out : O_Pattern_secondIsUsual}   : J_Pattern_secondIsUsual_63 p l e s m args below meth c A D cC cI a0_0 a0_1 a0_2 a0_3 a0_4 a0_5 a0_6 a0_7 a0_8 a0_9 a0_10 a0_11 a0_12 v0 out (f_Pattern_secondIsUsual_63 v0 ) := by
  obtain ⟨hx, hb, hml, hown, htB, ⟨hK, hN⟩, hZ, hA, hr, hlocks⟩ := id X
  intro s0 ls H locs h hl hP hD hS
  obtain ⟨hc, h⟩ := x_chk h
  obtain rfl := Option.some.inj h
  exact W.zret (v := s0) (ty := .boolean) hx hb hr (x_zn hc) (fun t ht hW => ⟨⟨s0, (), rfl, rfl, by rw [ht]; exact hP, hD⟩, hS.F ht⟩) hS.2.2 d_Pattern_secondIsUsual_63 hlocks

def f_Pattern_secondIsUsual_62 (v0 : T_Pattern) : Option O_Pattern_secondIsUsual := f_Pattern_secondIsUsual_63 v0 (0 : Int32)
set_option maxHeartbeats 4000000 in
set_option maxRecDepth 100000 in
theorem w_Pattern_secondIsUsual_62 {p : Program} {l : Launch} {e : Env} {s : State} {m : MethodId} {args : Array Value} {below : List Frame} {meth : Method} {c : Code} {A : Nat → Prop} {D : va_G} {cC cI : ClassId} {a0_0 a0_1 a0_2 a0_3 a0_4 a0_5 a0_6 a0_7 a0_8 a0_9 a0_10 a0_11 a0_12 : Nat} {v0 : T_Pattern} (X : xCX p s m args meth c A D cC cI b_Pattern_secondIsUsual 1 R_Pattern (some .boolean)) {out : O_Pattern_secondIsUsual}   : J_Pattern_secondIsUsual_62 p l e s m args below meth c A D cC cI a0_0 a0_1 a0_2 a0_3 a0_4 a0_5 a0_6 a0_7 a0_8 a0_9 a0_10 a0_11 a0_12 v0 out (f_Pattern_secondIsUsual_62 v0 ) := by
  obtain ⟨hx, hb, hml, hown, htB, ⟨hK, hN⟩, hZ, hA, hr, hlocks⟩ := id X
  intro  ls H locs h hl hP hD hS
  refine lv_iconst (v := 0) hx hb d_Pattern_secondIsUsual_62 (by decide) ?_
  exact w_Pattern_secondIsUsual_63 X (0 : Int32) ls H locs h (lv_sub hl [] rfl) hP hD hS

def f_Pattern_secondIsUsual (v0 : T_Pattern) : Option O_Pattern_secondIsUsual := (f_Affix_at v0.2.1.1 (0 : Int32)).bind (fun o8 => (if o8 = (45 : Int32) then (f_Affix_endsAs v0.2.1.1 v0.1.1 (1 : Int32)).bind (fun o31 => (if o31 = 0 then f_Pattern_secondIsUsual_62 v0 else (f_Affix_endsAs v0.2.1.2.2 v0.1.2.2 (0 : Int32)).bind (fun o52 => (if o52 = 0 then f_Pattern_secondIsUsual_62 v0 else f_Pattern_secondIsUsual_63 v0 (1 : Int32))))) else f_Pattern_secondIsUsual_62 v0))
set_option maxHeartbeats 4000000 in
set_option maxRecDepth 100000 in
theorem w_Pattern_secondIsUsual {p : Program} {l : Launch} {e : Env} {s : State} {m : MethodId} {args : Array Value} {below : List Frame} {meth : Method} {c : Code} {A : Nat → Prop} {D : va_G} {cC cI : ClassId} {a0_0 a0_1 a0_2 a0_3 a0_4 a0_5 a0_6 a0_7 a0_8 a0_9 a0_10 a0_11 a0_12 : Nat} {v0 : T_Pattern} (X : xCX p s m args meth c A D cC cI b_Pattern_secondIsUsual 1 R_Pattern (some .boolean)) {out : O_Pattern_secondIsUsual}  {ls : Array Slot} {H : Heap} {locs : List Loc} (h : f_Pattern_secondIsUsual v0 = some out) (hl : lv_has ls 1 [(0, .ref a0_0)]) (hP : va_P D classes (wd_Pattern_secondIsUsual cC cI a0_0 a0_1 a0_2 a0_3 a0_4 a0_5 a0_6 a0_7 a0_8 a0_9 a0_10 a0_11 a0_12 v0) H) (hD : va_D A (wd_Pattern_secondIsUsual cC cI a0_0 a0_1 a0_2 a0_3 a0_4 a0_5 a0_6 a0_7 a0_8 a0_9 a0_10 a0_11 a0_12 v0)) (hS : va_S A s.heap H locs) : W p l e rm_Pattern_secondIsUsual s m args below meth c H locs 0 0 (MQ below (q_Pattern_secondIsUsual D cC cI a0_0 a0_1 a0_2 a0_3 a0_4 a0_5 a0_6 a0_7 a0_8 a0_9 a0_10 a0_11 a0_12 v0 out A) args s 0 0 A) (F0 m 0 ls []) := by
  obtain ⟨hx, hb, hml, hown, htB, ⟨hK, hN⟩, hZ, hA, hr, hlocks⟩ := id X
  refine lv_aload_n hx hb d_Pattern_secondIsUsual_0 rfl (lv_at hl 0 rfl) ?_
  refine va_get (D := D) (ci := 4) (v := .ref a0_7) (C := R_Pattern) (T := F_Pattern) (N := 4) hx hb htB in_Pattern hown hK hP 0 rfl rfl 1 (by decide) (htB _ b_41) (fun _ h9 => h9) rfl d_Pattern_secondIsUsual_1 ?_
  refine va_getN (D := D) (ci := 3) (v := .ref a0_8) (C := R_Part) (T := F_Part) (N := 3) hx hb htB in_Part hown hK hP 7 rfl rfl 0 (by decide) (va_Nw.use rfl (hN _ n_2)) (fun _ h9 => h9) rfl d_Pattern_secondIsUsual_4 ?_
  refine lv_iconst (v := 0) hx hb d_Pattern_secondIsUsual_7 (by decide) ?_
  obtain ⟨o8, ho8, h⟩ := x_bnd h
  refine x_calli (r0 := o8) (ws2 := (wd_Pattern_secondIsUsual cC cI a0_0 a0_1 a0_2 a0_3 a0_4 a0_5 a0_6 a0_7 a0_8 a0_9 a0_10 a0_11 a0_12 v0)) (x_runVN (As := [.int (0 : Int32)]) (rest := []) X (c_Affix_at l D cC cI H.size a0_8 a0_9 v0.2.1.1 (0 : Int32) o8 ho8) b_8 1 (hN _ n_8) (htB _ b_10) (htB _ b_11) (htB _ b_9) ⟨by decide, by decide, by decide +kernel⟩ ⟨(Nat.le_of_ble_eq_true rfl), (Nat.le_of_ble_eq_true rfl)⟩ 8 rfl rfl hP hD hS [8, 9] rfl (by decide) rfl rfl hl.1 rfl rfl (Nat.le_of_ble_eq_true rfl) d_Pattern_secondIsUsual_8) hP hD hS hA [8, 9] [0, 1, 2, 3, 4, 5, 6, 7, 10, 11, 12] [0, 1, 2, 3, 4, 5, 6, 7, 11, 12, 8, 9, 10] rfl rfl (by decide) (by decide) rfl (by decide) (fun H locs hP hD hS => ?_)
  refine lv_bipush (v := 45) hx hb d_Pattern_secondIsUsual_11 (by decide) ?_
  refine lv_icmp_ne (tgt := 62) hx hb d_Pattern_secondIsUsual_13 rfl (fun hc => ?_) (fun hc => ?_)
  · have h := (if_neg hc).symm.trans h
    exact w_Pattern_secondIsUsual_62 X ls H locs h (lv_sub hl [] rfl) hP hD hS
  have h := (if_pos hc).symm.trans h
  refine lv_aload_n hx hb d_Pattern_secondIsUsual_16 rfl (lv_at hl 0 rfl) ?_
  refine va_get (D := D) (ci := 4) (v := .ref a0_7) (C := R_Pattern) (T := F_Pattern) (N := 4) hx hb htB in_Pattern hown hK hP 0 rfl rfl 1 (by decide) (htB _ b_41) (fun _ h9 => h9) rfl d_Pattern_secondIsUsual_17 ?_
  refine va_getN (D := D) (ci := 3) (v := .ref a0_8) (C := R_Part) (T := F_Part) (N := 3) hx hb htB in_Part hown hK hP 7 rfl rfl 0 (by decide) (va_Nw.use rfl (hN _ n_2)) (fun _ h9 => h9) rfl d_Pattern_secondIsUsual_20 ?_
  refine lv_aload_n hx hb d_Pattern_secondIsUsual_23 rfl (lv_at hl 0 rfl) ?_
  refine va_get (D := D) (ci := 4) (v := .ref a0_1) (C := R_Pattern) (T := F_Pattern) (N := 4) hx hb htB in_Pattern hown hK hP 0 rfl rfl 0 (by decide) (htB _ b_35) (fun _ h9 => h9) rfl d_Pattern_secondIsUsual_24 ?_
  refine va_getN (D := D) (ci := 3) (v := .ref a0_2) (C := R_Part) (T := F_Part) (N := 3) hx hb htB in_Part hown hK hP 1 rfl rfl 0 (by decide) (va_Nw.use rfl (hN _ n_2)) (fun _ h9 => h9) rfl d_Pattern_secondIsUsual_27 ?_
  refine lv_iconst (v := 1) hx hb d_Pattern_secondIsUsual_30 (by decide) ?_
  obtain ⟨o31, ho31, h⟩ := x_bnd h
  refine x_calli (r0 := o31) (ws2 := (wd_Pattern_secondIsUsual cC cI a0_0 a0_1 a0_2 a0_3 a0_4 a0_5 a0_6 a0_7 a0_8 a0_9 a0_10 a0_11 a0_12 v0)) (x_runVN (As := [.ref a0_2, .int (1 : Int32)]) (rest := []) X (c_Affix_endsAs l D cC cI H.size a0_8 a0_9 a0_2 a0_3 v0.2.1.1 v0.1.1 (1 : Int32) o31 ho31) b_48 2 (hN _ n_9) (htB _ b_49) (htB _ b_50) (htB _ b_9) ⟨by decide, by decide, by decide +kernel⟩ ⟨(Nat.le_of_ble_eq_true rfl), (Nat.le_of_ble_eq_true rfl)⟩ 8 rfl rfl hP hD hS [8, 9, 2, 3] rfl (by decide) rfl rfl hl.1 rfl rfl (Nat.le_of_ble_eq_true rfl) d_Pattern_secondIsUsual_31) hP hD hS hA [8, 9, 2, 3] [0, 1, 4, 5, 6, 7, 10, 11, 12] [0, 1, 11, 12, 2, 3, 4, 5, 9, 10, 6, 7, 8] rfl rfl (by decide) (by decide) rfl (by decide) (fun H locs hP hD hS => ?_)
  refine lv_if_eq (tgt := 62) hx hb d_Pattern_secondIsUsual_34 rfl (fun hc => ?_) (fun hc => ?_)
  · have h := (if_pos hc).symm.trans h
    exact w_Pattern_secondIsUsual_62 X ls H locs h (lv_sub hl [] rfl) hP hD hS
  have h := (if_neg hc).symm.trans h
  refine lv_aload_n hx hb d_Pattern_secondIsUsual_37 rfl (lv_at hl 0 rfl) ?_
  refine va_get (D := D) (ci := 4) (v := .ref a0_7) (C := R_Pattern) (T := F_Pattern) (N := 4) hx hb htB in_Pattern hown hK hP 0 rfl rfl 1 (by decide) (htB _ b_41) (fun _ h9 => h9) rfl d_Pattern_secondIsUsual_38 ?_
  refine va_getN (D := D) (ci := 3) (v := .ref a0_11) (C := R_Part) (T := F_Part) (N := 3) hx hb htB in_Part hown hK hP 7 rfl rfl 2 (by decide) (va_Nw.use rfl (hN _ n_7)) (fun _ h9 => h9) rfl d_Pattern_secondIsUsual_41 ?_
  refine lv_aload_n hx hb d_Pattern_secondIsUsual_44 rfl (lv_at hl 0 rfl) ?_
  refine va_get (D := D) (ci := 4) (v := .ref a0_1) (C := R_Pattern) (T := F_Pattern) (N := 4) hx hb htB in_Pattern hown hK hP 0 rfl rfl 0 (by decide) (htB _ b_35) (fun _ h9 => h9) rfl d_Pattern_secondIsUsual_45 ?_
  refine va_getN (D := D) (ci := 3) (v := .ref a0_5) (C := R_Part) (T := F_Part) (N := 3) hx hb htB in_Part hown hK hP 1 rfl rfl 2 (by decide) (va_Nw.use rfl (hN _ n_7)) (fun _ h9 => h9) rfl d_Pattern_secondIsUsual_48 ?_
  refine lv_iconst (v := 0) hx hb d_Pattern_secondIsUsual_51 (by decide) ?_
  obtain ⟨o52, ho52, h⟩ := x_bnd h
  refine x_calli (r0 := o52) (ws2 := (wd_Pattern_secondIsUsual cC cI a0_0 a0_1 a0_2 a0_3 a0_4 a0_5 a0_6 a0_7 a0_8 a0_9 a0_10 a0_11 a0_12 v0)) (x_runVN (As := [.ref a0_5, .int (0 : Int32)]) (rest := []) X (c_Affix_endsAs l D cC cI H.size a0_11 a0_12 a0_5 a0_6 v0.2.1.2.2 v0.1.2.2 (0 : Int32) o52 ho52) b_48 2 (hN _ n_9) (htB _ b_49) (htB _ b_50) (htB _ b_9) ⟨by decide, by decide, by decide +kernel⟩ ⟨(Nat.le_of_ble_eq_true rfl), (Nat.le_of_ble_eq_true rfl)⟩ 11 rfl rfl hP hD hS [11, 12, 5, 6] rfl (by decide) rfl rfl hl.1 rfl rfl (Nat.le_of_ble_eq_true rfl) d_Pattern_secondIsUsual_52) hP hD hS hA [11, 12, 5, 6] [0, 1, 2, 3, 4, 7, 8, 9, 10] [0, 1, 2, 3, 4, 11, 12, 5, 6, 7, 8, 9, 10] rfl rfl (by decide) (by decide) rfl (by decide) (fun H locs hP hD hS => ?_)
  refine lv_if_eq (tgt := 62) hx hb d_Pattern_secondIsUsual_55 rfl (fun hc => ?_) (fun hc => ?_)
  · have h := (if_pos hc).symm.trans h
    exact w_Pattern_secondIsUsual_62 X ls H locs h (lv_sub hl [] rfl) hP hD hS
  have h := (if_neg hc).symm.trans h
  refine lv_iconst (v := 1) hx hb d_Pattern_secondIsUsual_58 (by decide) ?_
  refine lv_goto (tgt := 63) hx hb d_Pattern_secondIsUsual_59 rfl ?_
  exact w_Pattern_secondIsUsual_63 X (1 : Int32) ls H locs h (lv_sub hl [] rfl) hP hD hS

set_option maxHeartbeats 4000000 in
set_option maxRecDepth 100000 in
theorem c_Pattern_secondIsUsual (l : Launch) (D : va_G) (cC cI : ClassId) (sz : Nat) (a0_0 a0_1 a0_2 a0_3 a0_4 a0_5 a0_6 a0_7 a0_8 a0_9 a0_10 a0_11 a0_12 : Nat) (v0 : T_Pattern) (out : O_Pattern_secondIsUsual) (h : f_Pattern_secondIsUsual v0 = some out) : Met l y_Pattern_secondIsUsual (.code y_Pattern_secondIsUsual b_Pattern_secondIsUsual 1 (some .boolean) :: BIG) rm_Pattern_secondIsUsual (va_Pc [.ref a0_0] (xPre D cC cI (wd_Pattern_secondIsUsual cC cI a0_0 a0_1 a0_2 a0_3 a0_4 a0_5 a0_6 a0_7 a0_8 a0_9 a0_10 a0_11 a0_12 v0) sz)) (q_Pattern_secondIsUsual D cC cI a0_0 a0_1 a0_2 a0_3 a0_4 a0_5 a0_6 a0_7 a0_8 a0_9 a0_10 a0_11 a0_12 v0 out (va_A (wd_Pattern_secondIsUsual cC cI a0_0 a0_1 a0_2 a0_3 a0_4 a0_5 a0_6 a0_7 a0_8 a0_9 a0_10 a0_11 a0_12 v0) sz)) 0 0 (va_A (wd_Pattern_secondIsUsual cC cI a0_0 a0_1 a0_2 a0_3 a0_4 a0_5 a0_6 a0_7 a0_8 a0_9 a0_10 a0_11 a0_12 v0) sz) := by
  refine Met.ofW (cc := b_Pattern_secondIsUsual) (maxL := 1) (ret := (some .boolean)) (by decide) rfl ?_
  intro p e s m args below meth c s₁ B hml hv
  obtain ⟨rfl, rfl, hP, hD0, hG, hZ⟩ := hv
  have hl := lv_entry [.ref a0_0] (n := 1) (Nat.le_of_ble_eq_true rfl)
  rw [lg_entry_eq]
  exact w_Pattern_secondIsUsual (x_cx B hml hG hZ) h hl hP hD0.self va_S.rf

abbrev wd_Deci_isSpecial (cC cI : ClassId)  : va_W := []
abbrev O_Deci_isSpecial : Type := Int32
abbrev q_Deci_isSpecial (D : va_G) (cC cI : ClassId)  (out : O_Deci_isSpecial) (A : Nat → Prop) : Array Value → State → Outcome → State → Prop := va_Qi (fun r (_ : Unit) => r = out) (fun _ t => va_P D classes (wd_Deci_isSpecial cC cI ) t.heap ∧ va_D A (wd_Deci_isSpecial cC cI )) A
abbrev rm_Deci_isSpecial : Room := { frames := 0, cells := 0, slots := 0, locals := 0 }
def J_Deci_isSpecial_36 (p : Program) (l : Launch) (e : Env) (s : State) (m : MethodId) (args : Array Value) (below : List Frame) (meth : Method) (c : Code) (A : Nat → Prop) (D : va_G) (cC cI : ClassId) (out : O_Deci_isSpecial) (k : Option O_Deci_isSpecial) : Prop := ∀  (ls : Array Slot) (H : Heap) (locs : List Loc), k  = some out → lv_has ls 1 [] → va_P D classes (wd_Deci_isSpecial cC cI) H → va_D A (wd_Deci_isSpecial cC cI) → va_S A s.heap H locs → W p l e rm_Deci_isSpecial s m args below meth c H locs 0 0 (MQ below (q_Deci_isSpecial D cC cI  out A) args s 0 0 A) (F0 m 36 ls [])
def J_Deci_isSpecial_41 (p : Program) (l : Launch) (e : Env) (s : State) (m : MethodId) (args : Array Value) (below : List Frame) (meth : Method) (c : Code) (A : Nat → Prop) (D : va_G) (cC cI : ClassId) (out : O_Deci_isSpecial) (k : Int32 → Option O_Deci_isSpecial) : Prop := ∀ (s0 : Int32) (ls : Array Slot) (H : Heap) (locs : List Loc), k s0 = some out → lv_has ls 1 [] → va_P D classes (wd_Deci_isSpecial cC cI) H → va_D A (wd_Deci_isSpecial cC cI) → va_S A s.heap H locs → W p l e rm_Deci_isSpecial s m args below meth c H locs 0 0 (MQ below (q_Deci_isSpecial D cC cI  out A) args s 0 0 A) (F0 m 41 ls [.int s0])
def f_Deci_isSpecial_41 (s0 : Int32) : Option O_Deci_isSpecial := if (s0 = 0 ∨ s0 = 1) then some s0 else none
set_option maxHeartbeats 4000000 in
set_option maxRecDepth 100000 in
theorem w_Deci_isSpecial_41 {p : Program} {l : Launch} {e : Env} {s : State} {m : MethodId} {args : Array Value} {below : List Frame} {meth : Method} {c : Code} {A : Nat → Prop} {D : va_G} {cC cI : ClassId} (X : xCX p s m args meth c A D cC cI b_Deci_isSpecial 1 R_Deci (some .boolean)) {out : O_Deci_isSpecial}   : J_Deci_isSpecial_41 p l e s m args below meth c A D cC cI  out (f_Deci_isSpecial_41  ) := by
  obtain ⟨hx, hb, hml, hown, htB, ⟨hK, hN⟩, hZ, hA, hr, hlocks⟩ := id X
  intro s0 ls H locs h hl hP hD hS
  obtain ⟨hc, h⟩ := x_chk h
  obtain rfl := Option.some.inj h
  exact W.zret (v := s0) (ty := .boolean) hx hb hr (x_zn hc) (fun t ht hW => ⟨⟨s0, (), rfl, rfl, by rw [ht]; exact hP, hD⟩, hS.F ht⟩) hS.2.2 d_Deci_isSpecial_41 hlocks

def f_Deci_isSpecial_36 : Option O_Deci_isSpecial := f_Deci_isSpecial_41 (1 : Int32)
set_option maxHeartbeats 4000000 in
set_option maxRecDepth 100000 in
theorem w_Deci_isSpecial_36 {p : Program} {l : Launch} {e : Env} {s : State} {m : MethodId} {args : Array Value} {below : List Frame} {meth : Method} {c : Code} {A : Nat → Prop} {D : va_G} {cC cI : ClassId} (X : xCX p s m args meth c A D cC cI b_Deci_isSpecial 1 R_Deci (some .boolean)) {out : O_Deci_isSpecial}   : J_Deci_isSpecial_36 p l e s m args below meth c A D cC cI  out (f_Deci_isSpecial_36  ) := by
  obtain ⟨hx, hb, hml, hown, htB, ⟨hK, hN⟩, hZ, hA, hr, hlocks⟩ := id X
  intro  ls H locs h hl hP hD hS
  refine lv_iconst (v := 1) hx hb d_Deci_isSpecial_36 (by decide) ?_
  refine lv_goto (tgt := 41) hx hb d_Deci_isSpecial_37 rfl ?_
  exact w_Deci_isSpecial_41 X (1 : Int32) ls H locs h (lv_sub hl [] rfl) hP hD hS

def f_Deci_isSpecial (v0 : Int32) : Option O_Deci_isSpecial := (if v0 = (35 : Int32) then f_Deci_isSpecial_36 else (if v0 = (48 : Int32) then f_Deci_isSpecial_36 else (if v0 = (44 : Int32) then f_Deci_isSpecial_36 else (if v0 = (46 : Int32) then f_Deci_isSpecial_36 else (if v0 = (59 : Int32) then f_Deci_isSpecial_36 else (if v0 = (69 : Int32) then f_Deci_isSpecial_36 else f_Deci_isSpecial_41 (0 : Int32)))))))
set_option maxHeartbeats 4000000 in
set_option maxRecDepth 100000 in
theorem w_Deci_isSpecial {p : Program} {l : Launch} {e : Env} {s : State} {m : MethodId} {args : Array Value} {below : List Frame} {meth : Method} {c : Code} {A : Nat → Prop} {D : va_G} {cC cI : ClassId} (X : xCX p s m args meth c A D cC cI b_Deci_isSpecial 1 R_Deci (some .boolean)) {out : O_Deci_isSpecial} (v0 : Int32) {ls : Array Slot} {H : Heap} {locs : List Loc} (h : f_Deci_isSpecial v0 = some out) (hl : lv_has ls 1 [(0, .int v0)]) (hP : va_P D classes (wd_Deci_isSpecial cC cI) H) (hD : va_D A (wd_Deci_isSpecial cC cI)) (hS : va_S A s.heap H locs) : W p l e rm_Deci_isSpecial s m args below meth c H locs 0 0 (MQ below (q_Deci_isSpecial D cC cI  out A) args s 0 0 A) (F0 m 0 ls []) := by
  obtain ⟨hx, hb, hml, hown, htB, ⟨hK, hN⟩, hZ, hA, hr, hlocks⟩ := id X
  refine lv_iload_n hx hb d_Deci_isSpecial_0 rfl (lv_at hl 0 rfl) ?_
  refine lv_bipush (v := 35) hx hb d_Deci_isSpecial_1 (by decide) ?_
  refine lv_icmp_eq (tgt := 36) hx hb d_Deci_isSpecial_3 rfl (fun hc => ?_) (fun hc => ?_)
  · have h := (if_pos hc).symm.trans h
    exact w_Deci_isSpecial_36 X ls H locs h (lv_sub hl [] rfl) hP hD hS
  have h := (if_neg hc).symm.trans h
  refine lv_iload_n hx hb d_Deci_isSpecial_6 rfl (lv_at hl 0 rfl) ?_
  refine lv_bipush (v := 48) hx hb d_Deci_isSpecial_7 (by decide) ?_
  refine lv_icmp_eq (tgt := 36) hx hb d_Deci_isSpecial_9 rfl (fun hc => ?_) (fun hc => ?_)
  · have h := (if_pos hc).symm.trans h
    exact w_Deci_isSpecial_36 X ls H locs h (lv_sub hl [] rfl) hP hD hS
  have h := (if_neg hc).symm.trans h
  refine lv_iload_n hx hb d_Deci_isSpecial_12 rfl (lv_at hl 0 rfl) ?_
  refine lv_bipush (v := 44) hx hb d_Deci_isSpecial_13 (by decide) ?_
  refine lv_icmp_eq (tgt := 36) hx hb d_Deci_isSpecial_15 rfl (fun hc => ?_) (fun hc => ?_)
  · have h := (if_pos hc).symm.trans h
    exact w_Deci_isSpecial_36 X ls H locs h (lv_sub hl [] rfl) hP hD hS
  have h := (if_neg hc).symm.trans h
  refine lv_iload_n hx hb d_Deci_isSpecial_18 rfl (lv_at hl 0 rfl) ?_
  refine lv_bipush (v := 46) hx hb d_Deci_isSpecial_19 (by decide) ?_
  refine lv_icmp_eq (tgt := 36) hx hb d_Deci_isSpecial_21 rfl (fun hc => ?_) (fun hc => ?_)
  · have h := (if_pos hc).symm.trans h
    exact w_Deci_isSpecial_36 X ls H locs h (lv_sub hl [] rfl) hP hD hS
  have h := (if_neg hc).symm.trans h
  refine lv_iload_n hx hb d_Deci_isSpecial_24 rfl (lv_at hl 0 rfl) ?_
  refine lv_bipush (v := 59) hx hb d_Deci_isSpecial_25 (by decide) ?_
  refine lv_icmp_eq (tgt := 36) hx hb d_Deci_isSpecial_27 rfl (fun hc => ?_) (fun hc => ?_)
  · have h := (if_pos hc).symm.trans h
    exact w_Deci_isSpecial_36 X ls H locs h (lv_sub hl [] rfl) hP hD hS
  have h := (if_neg hc).symm.trans h
  refine lv_iload_n hx hb d_Deci_isSpecial_30 rfl (lv_at hl 0 rfl) ?_
  refine lv_bipush (v := 69) hx hb d_Deci_isSpecial_31 (by decide) ?_
  refine lv_icmp_ne (tgt := 40) hx hb d_Deci_isSpecial_33 rfl (fun hc => ?_) (fun hc => ?_)
  · have h := (if_neg hc).symm.trans h
    refine lv_iconst (v := 0) hx hb d_Deci_isSpecial_40 (by decide) ?_
    exact w_Deci_isSpecial_41 X (0 : Int32) ls H locs h (lv_sub hl [] rfl) hP hD hS
  have h := (if_pos hc).symm.trans h
  exact w_Deci_isSpecial_36 X ls H locs h (lv_sub hl [] rfl) hP hD hS

set_option maxHeartbeats 4000000 in
set_option maxRecDepth 100000 in
theorem c_Deci_isSpecial (l : Launch) (D : va_G) (cC cI : ClassId) (sz : Nat) (v0 : Int32) (out : O_Deci_isSpecial) (h : f_Deci_isSpecial v0 = some out) : Met l y_Deci_isSpecial (.code y_Deci_isSpecial b_Deci_isSpecial 1 (some .boolean) :: BIG) rm_Deci_isSpecial (va_Pc [.int v0] (xPre D cC cI (wd_Deci_isSpecial cC cI) sz)) (q_Deci_isSpecial D cC cI  out (va_A (wd_Deci_isSpecial cC cI) sz)) 0 0 (va_A (wd_Deci_isSpecial cC cI) sz) := by
  refine Met.ofW (cc := b_Deci_isSpecial) (maxL := 1) (ret := (some .boolean)) (by decide) rfl ?_
  intro p e s m args below meth c s₁ B hml hv
  obtain ⟨rfl, rfl, hP, hD0, hG, hZ⟩ := hv
  have hl := lv_entry [.int v0] (n := 1) (Nat.le_of_ble_eq_true rfl)
  rw [lg_entry_eq]
  exact w_Deci_isSpecial (x_cx B hml hG hZ) v0 h hl hP hD0.self va_S.rf

abbrev wd_PatternReader_readAffix (cC cI : ClassId) (a0_0 a1_0 a1_1 a2_0 a2_1 : Nat) (v0 : T_PatternReader) (v1 : T_Row) (v2 : T_Affix) : va_W := [(a0_0, .inr (5, [.int v0])), (a1_0, .inr (0, [.ref a1_1, .int v1.2])), (a1_1, .inl (cC, 120, .inl v1.1)), (a2_0, .inr (1, [.ref a2_1, .int v2.2])), (a2_1, .inl (cI, 120, .inl v2.1))]
abbrev O_PatternReader_readAffix : Type := Int32 × T_PatternReader × T_Affix
abbrev q_PatternReader_readAffix (D : va_G) (cC cI : ClassId) (a0_0 a1_0 a1_1 a2_0 a2_1 : Nat) (v1 : T_Row) (out : O_PatternReader_readAffix) (A : Nat → Prop) : Array Value → State → Outcome → State → Prop := va_Qi (fun r (_ : Unit) => r = out.1) (fun _ t => va_P D classes (wd_PatternReader_readAffix cC cI a0_0 a1_0 a1_1 a2_0 a2_1 out.2.1 v1 out.2.2) t.heap ∧ va_D A (wd_PatternReader_readAffix cC cI a0_0 a1_0 a1_1 a2_0 a2_1 out.2.1 v1 out.2.2)) A
abbrev rm_PatternReader_readAffix : Room := { frames := 1, cells := 0, slots := 0, locals := 21 }
def J_PatternReader_readAffix_12 (p : Program) (l : Launch) (e : Env) (s : State) (m : MethodId) (args : Array Value) (below : List Frame) (meth : Method) (c : Code) (A : Nat → Prop) (D : va_G) (cC cI : ClassId) (a0_0 a1_0 a1_1 a2_0 a2_1 : Nat) (v1 : T_Row) (out : O_PatternReader_readAffix) (k : T_PatternReader → T_Affix → Int32 → Int32 → Option O_PatternReader_readAffix) : Prop := ∀ (v0 : T_PatternReader) (v2 : T_Affix) (x3 : Int32) (x4 : Int32) (ls : Array Slot) (H : Heap) (locs : List Loc), k v0 v2 x3 x4 = some out → lv_has ls 6 [(0, .ref a0_0), (1, .ref a1_0), (2, .ref a2_0), (3, .int x3), (4, .int x4)] → va_P D classes (wd_PatternReader_readAffix cC cI a0_0 a1_0 a1_1 a2_0 a2_1 v0 v1 v2) H → va_D A (wd_PatternReader_readAffix cC cI a0_0 a1_0 a1_1 a2_0 a2_1 v0 v1 v2) → va_S A s.heap H locs → W p l e rm_PatternReader_readAffix s m args below meth c H locs 0 0 (MQ below (q_PatternReader_readAffix D cC cI a0_0 a1_0 a1_1 a2_0 a2_1 v1 out A) args s 0 0 A) (F0 m 12 ls [])
def J_PatternReader_readAffix_149 (p : Program) (l : Launch) (e : Env) (s : State) (m : MethodId) (args : Array Value) (below : List Frame) (meth : Method) (c : Code) (A : Nat → Prop) (D : va_G) (cC cI : ClassId) (a0_0 a1_0 a1_1 a2_0 a2_1 : Nat) (v1 : T_Row) (out : O_PatternReader_readAffix) (k : T_PatternReader → T_Affix → Int32 → Option O_PatternReader_readAffix) : Prop := ∀ (v0 : T_PatternReader) (v2 : T_Affix) (s0 : Int32) (ls : Array Slot) (H : Heap) (locs : List Loc), k v0 v2 s0 = some out → lv_has ls 6 [] → va_P D classes (wd_PatternReader_readAffix cC cI a0_0 a1_0 a1_1 a2_0 a2_1 v0 v1 v2) H → va_D A (wd_PatternReader_readAffix cC cI a0_0 a1_0 a1_1 a2_0 a2_1 v0 v1 v2) → va_S A s.heap H locs → W p l e rm_PatternReader_readAffix s m args below meth c H locs 0 0 (MQ below (q_PatternReader_readAffix D cC cI a0_0 a1_0 a1_1 a2_0 a2_1 v1 out A) args s 0 0 A) (F0 m 149 ls [.int s0])
def f_PatternReader_readAffix_149 (v1 : T_Row) (v0 : T_PatternReader) (v2 : T_Affix) (s0 : Int32) : Option O_PatternReader_readAffix := if (s0 = 0 ∨ s0 = 1) then some (s0, v0, v2) else none
set_option maxHeartbeats 4000000 in
set_option maxRecDepth 100000 in
theorem w_PatternReader_readAffix_149 {p : Program} {l : Launch} {e : Env} {s : State} {m : MethodId} {args : Array Value} {below : List Frame} {meth : Method} {c : Code} {A : Nat → Prop} {D : va_G} {cC cI : ClassId} {a0_0 a1_0 a1_1 a2_0 a2_1 : Nat} {v1 : T_Row} (X : xCX p s m args meth c A D cC cI b_PatternReader_readAffix 6 R_PatternReader (some .boolean)) {out : O_PatternReader_readAffix}   : J_PatternReader_readAffix_149 p l e s m args below meth c A D cC cI a0_0 a1_0 a1_1 a2_0 a2_1 v1 out (f_PatternReader_readAffix_149 v1 ) := by
  obtain ⟨hx, hb, hml, hown, htB, ⟨hK, hN⟩, hZ, hA, hr, hlocks⟩ := id X
  intro v0 v2 s0 ls H locs h hl hP hD hS
  obtain ⟨hc, h⟩ := x_chk h
  obtain rfl := Option.some.inj h
  exact W.zret (v := s0) (ty := .boolean) hx hb hr (x_zn hc) (fun t ht hW => ⟨⟨s0, (), rfl, rfl, by rw [ht]; exact hP, hD⟩, hS.F ht⟩) hS.2.2 d_PatternReader_readAffix_149 hlocks

def J_PatternReader_readAffix_124 (p : Program) (l : Launch) (e : Env) (s : State) (m : MethodId) (args : Array Value) (below : List Frame) (meth : Method) (c : Code) (A : Nat → Prop) (D : va_G) (cC cI : ClassId) (a0_0 a1_0 a1_1 a2_0 a2_1 : Nat) (v1 : T_Row) (out : O_PatternReader_readAffix) (k : T_PatternReader → T_Affix → Int32 → Int32 → Int32 → Option O_PatternReader_readAffix) : Prop := ∀ (v0 : T_PatternReader) (v2 : T_Affix) (x3 : Int32) (x4 : Int32) (s1 : Int32) (ls : Array Slot) (H : Heap) (locs : List Loc), k v0 v2 x3 x4 s1 = some out → lv_has ls 6 [(0, .ref a0_0), (1, .ref a1_0), (2, .ref a2_0), (3, .int x3), (4, .int x4)] → va_P D classes (wd_PatternReader_readAffix cC cI a0_0 a1_0 a1_1 a2_0 a2_1 v0 v1 v2) H → va_D A (wd_PatternReader_readAffix cC cI a0_0 a1_0 a1_1 a2_0 a2_1 v0 v1 v2) → va_S A s.heap H locs → W p l e rm_PatternReader_readAffix s m args below meth c H locs 0 0 (MQ below (q_PatternReader_readAffix D cC cI a0_0 a1_0 a1_1 a2_0 a2_1 v1 out A) args s 0 0 A) (F0 m 124 ls [.int s1, .ref a2_0])
def J_PatternReader_readAffix_127 (p : Program) (l : Launch) (e : Env) (s : State) (m : MethodId) (args : Array Value) (below : List Frame) (meth : Method) (c : Code) (A : Nat → Prop) (D : va_G) (cC cI : ClassId) (a0_0 a1_0 a1_1 a2_0 a2_1 : Nat) (v1 : T_Row) (out : O_PatternReader_readAffix) (k : T_PatternReader → T_Affix → Int32 → Int32 → Option O_PatternReader_readAffix) : Prop := ∀ (v0 : T_PatternReader) (v2 : T_Affix) (x3 : Int32) (x4 : Int32) (ls : Array Slot) (H : Heap) (locs : List Loc), k v0 v2 x3 x4 = some out → lv_has ls 6 [(0, .ref a0_0), (1, .ref a1_0), (2, .ref a2_0), (3, .int x3), (4, .int x4)] → va_P D classes (wd_PatternReader_readAffix cC cI a0_0 a1_0 a1_1 a2_0 a2_1 v0 v1 v2) H → va_D A (wd_PatternReader_readAffix cC cI a0_0 a1_0 a1_1 a2_0 a2_1 v0 v1 v2) → va_S A s.heap H locs → W p l e rm_PatternReader_readAffix s m args below meth c H locs 0 0 (MQ below (q_PatternReader_readAffix D cC cI a0_0 a1_0 a1_1 a2_0 a2_1 v1 out A) args s 0 0 A) (F0 m 127 ls [])
def f_PatternReader_readAffix_127 (v1 : T_Row) (k12 : T_PatternReader → T_Affix → Int32 → Int32 → Option O_PatternReader_readAffix) (v0 : T_PatternReader) (v2 : T_Affix) (x3 : Int32) (x4 : Int32) : Option O_PatternReader_readAffix := k12 (v0 + (1 : Int32)) v2 x3 x4
set_option maxHeartbeats 4000000 in
set_option maxRecDepth 100000 in
theorem w_PatternReader_readAffix_127 {p : Program} {l : Launch} {e : Env} {s : State} {m : MethodId} {args : Array Value} {below : List Frame} {meth : Method} {c : Code} {A : Nat → Prop} {D : va_G} {cC cI : ClassId} {a0_0 a1_0 a1_1 a2_0 a2_1 : Nat} {v1 : T_Row} (X : xCX p s m args meth c A D cC cI b_PatternReader_readAffix 6 R_PatternReader (some .boolean)) {out : O_PatternReader_readAffix} {k12 : T_PatternReader → T_Affix → Int32 → Int32 → Option O_PatternReader_readAffix} (hk12 : J_PatternReader_readAffix_12 p l e s m args below meth c A D cC cI a0_0 a1_0 a1_1 a2_0 a2_1 v1 out k12) : J_PatternReader_readAffix_127 p l e s m args below meth c A D cC cI a0_0 a1_0 a1_1 a2_0 a2_1 v1 out (f_PatternReader_readAffix_127 v1 k12) := by
  obtain ⟨hx, hb, hml, hown, htB, ⟨hK, hN⟩, hZ, hA, hr, hlocks⟩ := id X
  intro v0 v2 x3 x4 ls H locs h hl hP hD hS
  refine lv_aload_n hx hb d_PatternReader_readAffix_127 rfl (lv_at hl 0 rfl) ?_
  refine lv_dup hx hb d_PatternReader_readAffix_128 rfl ?_
  refine va_get (D := D) (ci := 5) (v := .int v0) (C := R_PatternReader) (T := F_PatternReader) (N := 1) hx hb htB in_PatternReader hown hK hP 0 rfl rfl 0 (by decide) (htB _ b_54) (fun _ h9 => h9) rfl d_PatternReader_readAffix_129 ?_
  refine lv_iconst (v := 1) hx hb d_PatternReader_readAffix_132 (by decide) ?_
  refine lv_iadd hx hb d_PatternReader_readAffix_133 ?_
  refine va_put (D := D) (ci := 5) (v := .int (v0 + (1 : Int32))) (ty := .int) (C := R_PatternReader) (T := F_PatternReader) (N := 1) hx hb htB in_PatternReader t_PatternReader t_PatternReader_ok n_PatternReader hown hK hP hD hS 0 rfl rfl 0 (by decide) (htB _ b_54) (fun _ h9 => h9) rfl (by decide +kernel) rfl rfl (Nat.le_of_ble_eq_true rfl) d_PatternReader_readAffix_134 (fun H locs hP hD hS => ?_)
  have hP : va_P D classes (wd_PatternReader_readAffix cC cI a0_0 a1_0 a1_1 a2_0 a2_1 (v0 + (1 : Int32)) v1 v2) H := hP
  have hD : va_D A (wd_PatternReader_readAffix cC cI a0_0 a1_0 a1_1 a2_0 a2_1 (v0 + (1 : Int32)) v1 v2) := hD
  refine lv_goto (tgt := 12) hx hb d_PatternReader_readAffix_137 rfl ?_
  exact hk12 (v0 + (1 : Int32)) v2 x3 x4 ls H locs h (lv_sub hl [0, 1, 2, 3, 4] rfl) hP hD hS

def f_PatternReader_readAffix_124 (v1 : T_Row) (k12 : T_PatternReader → T_Affix → Int32 → Int32 → Option O_PatternReader_readAffix) (v0 : T_PatternReader) (v2 : T_Affix) (x3 : Int32) (x4 : Int32) (s1 : Int32) : Option O_PatternReader_readAffix := (f_Affix_add v2 s1).bind (fun o124 => f_PatternReader_readAffix_127 v1 k12 v0 o124 x3 x4)
set_option maxHeartbeats 4000000 in
set_option maxRecDepth 100000 in
theorem w_PatternReader_readAffix_124 {p : Program} {l : Launch} {e : Env} {s : State} {m : MethodId} {args : Array Value} {below : List Frame} {meth : Method} {c : Code} {A : Nat → Prop} {D : va_G} {cC cI : ClassId} {a0_0 a1_0 a1_1 a2_0 a2_1 : Nat} {v1 : T_Row} (X : xCX p s m args meth c A D cC cI b_PatternReader_readAffix 6 R_PatternReader (some .boolean)) {out : O_PatternReader_readAffix} {k12 : T_PatternReader → T_Affix → Int32 → Int32 → Option O_PatternReader_readAffix} (hk12 : J_PatternReader_readAffix_12 p l e s m args below meth c A D cC cI a0_0 a1_0 a1_1 a2_0 a2_1 v1 out k12) : J_PatternReader_readAffix_124 p l e s m args below meth c A D cC cI a0_0 a1_0 a1_1 a2_0 a2_1 v1 out (f_PatternReader_readAffix_124 v1 k12) := by
  obtain ⟨hx, hb, hml, hown, htB, ⟨hK, hN⟩, hZ, hA, hr, hlocks⟩ := id X
  intro v0 v2 x3 x4 s1 ls H locs h hl hP hD hS
  obtain ⟨o124, ho124, h⟩ := x_bnd h
  refine x_callv (ws2 := (wd_PatternReader_readAffix cC cI a0_0 a1_0 a1_1 a2_0 a2_1 v0 v1 o124)) (x_runVN (As := [.int s1]) (rest := []) X (c_Affix_add l D cC cI H.size a2_0 a2_1 v2 s1 o124 ho124) b_13 1 (hN _ n_14) (htB _ b_14) (htB _ b_15) (htB _ b_9) ⟨by decide, by decide, by decide +kernel⟩ ⟨(Nat.le_of_ble_eq_true rfl), (Nat.le_of_ble_eq_true rfl)⟩ 3 rfl rfl hP hD hS [3, 4] rfl (by decide) rfl rfl hl.1 rfl rfl (Nat.le_of_ble_eq_true rfl) d_PatternReader_readAffix_124) hP hD hS hA [3, 4] [0, 1, 2] [0, 1, 2, 3, 4] rfl rfl (by decide) (by decide) rfl (by decide) (fun H locs hP hD hS => ?_)
  exact w_PatternReader_readAffix_127 X hk12 v0 o124 x3 x4 ls H locs h (lv_sub hl [0, 1, 2, 3, 4] rfl) hP hD hS

def J_PatternReader_readAffix_81 (p : Program) (l : Launch) (e : Env) (s : State) (m : MethodId) (args : Array Value) (below : List Frame) (meth : Method) (c : Code) (A : Nat → Prop) (D : va_G) (cC cI : ClassId) (a0_0 a1_0 a1_1 a2_0 a2_1 : Nat) (v1 : T_Row) (out : O_PatternReader_readAffix) (k : T_PatternReader → T_Affix → Int32 → Int32 → Option O_PatternReader_readAffix) : Prop := ∀ (v0 : T_PatternReader) (v2 : T_Affix) (x4 : Int32) (s0 : Int32) (ls : Array Slot) (H : Heap) (locs : List Loc), k v0 v2 x4 s0 = some out → lv_has ls 6 [(0, .ref a0_0), (1, .ref a1_0), (2, .ref a2_0), (4, .int x4)] → va_P D classes (wd_PatternReader_readAffix cC cI a0_0 a1_0 a1_1 a2_0 a2_1 v0 v1 v2) H → va_D A (wd_PatternReader_readAffix cC cI a0_0 a1_0 a1_1 a2_0 a2_1 v0 v1 v2) → va_S A s.heap H locs → W p l e rm_PatternReader_readAffix s m args below meth c H locs 0 0 (MQ below (q_PatternReader_readAffix D cC cI a0_0 a1_0 a1_1 a2_0 a2_1 v1 out A) args s 0 0 A) (F0 m 81 ls [.int s0])
def f_PatternReader_readAffix_81 (v1 : T_Row) (k12 : T_PatternReader → T_Affix → Int32 → Int32 → Option O_PatternReader_readAffix) (v0 : T_PatternReader) (v2 : T_Affix) (x4 : Int32) (s0 : Int32) : Option O_PatternReader_readAffix := f_PatternReader_readAffix_127 v1 k12 v0 v2 s0 x4
set_option maxHeartbeats 4000000 in
set_option maxRecDepth 100000 in
theorem w_PatternReader_readAffix_81 {p : Program} {l : Launch} {e : Env} {s : State} {m : MethodId} {args : Array Value} {below : List Frame} {meth : Method} {c : Code} {A : Nat → Prop} {D : va_G} {cC cI : ClassId} {a0_0 a1_0 a1_1 a2_0 a2_1 : Nat} {v1 : T_Row} (X : xCX p s m args meth c A D cC cI b_PatternReader_readAffix 6 R_PatternReader (some .boolean)) {out : O_PatternReader_readAffix} {k12 : T_PatternReader → T_Affix → Int32 → Int32 → Option O_PatternReader_readAffix} (hk12 : J_PatternReader_readAffix_12 p l e s m args below meth c A D cC cI a0_0 a1_0 a1_1 a2_0 a2_1 v1 out k12) : J_PatternReader_readAffix_81 p l e s m args below meth c A D cC cI a0_0 a1_0 a1_1 a2_0 a2_1 v1 out (f_PatternReader_readAffix_81 v1 k12) := by
  obtain ⟨hx, hb, hml, hown, htB, ⟨hK, hN⟩, hZ, hA, hr, hlocks⟩ := id X
  intro v0 v2 x4 s0 ls H locs h hl hP hD hS
  refine lv_istore_n (lv' := [(3, .int s0), (0, .ref a0_0), (1, .ref a1_0), (2, .ref a2_0), (4, .int x4)]) hx hb d_PatternReader_readAffix_81 rfl hl (by decide) rfl (fun ls hl => ?_)
  refine lv_goto (tgt := 127) hx hb d_PatternReader_readAffix_82 rfl ?_
  exact w_PatternReader_readAffix_127 X hk12 v0 v2 s0 x4 ls H locs h (lv_sub hl [1, 2, 3, 0, 4] rfl) hP hD hS

def f_PatternReader_readAffix_12 (v1 : T_Row)  : Nat → T_PatternReader → T_Affix → Int32 → Int32 → Option O_PatternReader_readAffix
  | 0, _, _, _, _ => none
  | n + 1, v0, v2, x3, x4 => (if x4 ≤ v0 then (if x3 = 0 then f_PatternReader_readAffix_149 v1 v0 v2 (1 : Int32) else f_PatternReader_readAffix_149 v1 v0 v2 (0 : Int32)) else (f_Row_at v1 v0).bind (fun o26 => (if o26 = (39 : Int32) then (f_Row_at v1 (v0 + (1 : Int32))).bind (fun o45 => (if o45 = (39 : Int32) then (f_Affix_add v2 (39 : Int32)).bind (fun o56 => f_PatternReader_readAffix_127 v1 (f_PatternReader_readAffix_12 v1 n) (v0 + (1 : Int32)) o56 x3 x4) else (if x3 = 0 then f_PatternReader_readAffix_81 v1 (f_PatternReader_readAffix_12 v1 n) v0 v2 x4 (1 : Int32) else f_PatternReader_readAffix_81 v1 (f_PatternReader_readAffix_12 v1 n) v0 v2 x4 (0 : Int32)))) else (if x3 = 0 then (f_Deci_isSpecial o26).bind (fun o100 => (if o100 = 0 then (if o26 = (37 : Int32) then f_PatternReader_readAffix_124 v1 (f_PatternReader_readAffix_12 v1 n) v0 v2 x3 x4 (256 : Int32) else f_PatternReader_readAffix_124 v1 (f_PatternReader_readAffix_12 v1 n) v0 v2 x3 x4 o26) else some ((1 : Int32), v0, v2))) else (f_Affix_add v2 o26).bind (fun o92 => f_PatternReader_readAffix_127 v1 (f_PatternReader_readAffix_12 v1 n) v0 o92 x3 x4)))))
set_option maxHeartbeats 4000000 in
set_option maxRecDepth 100000 in
theorem w_PatternReader_readAffix_12 {p : Program} {l : Launch} {e : Env} {s : State} {m : MethodId} {args : Array Value} {below : List Frame} {meth : Method} {c : Code} {A : Nat → Prop} {D : va_G} {cC cI : ClassId} {a0_0 a1_0 a1_1 a2_0 a2_1 : Nat} {v1 : T_Row} (X : xCX p s m args meth c A D cC cI b_PatternReader_readAffix 6 R_PatternReader (some .boolean)) {out : O_PatternReader_readAffix}   : ∀ n : Nat, J_PatternReader_readAffix_12 p l e s m args below meth c A D cC cI a0_0 a1_0 a1_1 a2_0 a2_1 v1 out (f_PatternReader_readAffix_12 v1  n) := by
  obtain ⟨hx, hb, hml, hown, htB, ⟨hK, hN⟩, hZ, hA, hr, hlocks⟩ := id X
  intro n
  induction n with
  | zero =>
    intro v0 v2 x3 x4 ls H locs h hl hP hD hS
    cases h
  | succ n ih =>
    intro v0 v2 x3 x4 ls H locs h hl hP hD hS
    refine lv_aload_n hx hb d_PatternReader_readAffix_12 rfl (lv_at hl 0 rfl) ?_
    refine va_get (D := D) (ci := 5) (v := .int v0) (C := R_PatternReader) (T := F_PatternReader) (N := 1) hx hb htB in_PatternReader hown hK hP 0 rfl rfl 0 (by decide) (htB _ b_54) (fun _ h9 => h9) rfl d_PatternReader_readAffix_13 ?_
    refine lv_iload hx hb d_PatternReader_readAffix_16 (lv_at hl 4 rfl) ?_
    refine lv_icmp_ge (tgt := 140) hx hb d_PatternReader_readAffix_18 rfl (fun hc => ?_) (fun hc => ?_)
    · have h := (if_pos hc).symm.trans h
      refine lv_iload_n hx hb d_PatternReader_readAffix_140 rfl (lv_at hl 3 rfl) ?_
      refine lv_if_ne (tgt := 148) hx hb d_PatternReader_readAffix_141 rfl (fun hc => ?_) (fun hc => ?_)
      · have h := (if_neg hc).symm.trans h
        refine lv_iconst (v := 0) hx hb d_PatternReader_readAffix_148 (by decide) ?_
        exact w_PatternReader_readAffix_149 X v0 v2 (0 : Int32) ls H locs h (lv_sub hl [] rfl) hP hD hS
      have h := (if_pos hc).symm.trans h
      refine lv_iconst (v := 1) hx hb d_PatternReader_readAffix_144 (by decide) ?_
      refine lv_goto (tgt := 149) hx hb d_PatternReader_readAffix_145 rfl ?_
      exact w_PatternReader_readAffix_149 X v0 v2 (1 : Int32) ls H locs h (lv_sub hl [] rfl) hP hD hS
    have h := (if_neg hc).symm.trans h
    refine lv_aload_n hx hb d_PatternReader_readAffix_21 rfl (lv_at hl 1 rfl) ?_
    refine lv_aload_n hx hb d_PatternReader_readAffix_22 rfl (lv_at hl 0 rfl) ?_
    refine va_get (D := D) (ci := 5) (v := .int v0) (C := R_PatternReader) (T := F_PatternReader) (N := 1) hx hb htB in_PatternReader hown hK hP 0 rfl rfl 0 (by decide) (htB _ b_54) (fun _ h9 => h9) rfl d_PatternReader_readAffix_23 ?_
    obtain ⟨o26, ho26, h⟩ := x_bnd h
    refine x_calli (r0 := o26) (ws2 := (wd_PatternReader_readAffix cC cI a0_0 a1_0 a1_1 a2_0 a2_1 v0 v1 v2)) (x_runVN (As := [.int v0]) (rest := []) X (c_Row_at l D cC cI H.size a1_0 a1_1 v1 v0 o26 ho26) b_25 1 (hN _ n_12) (htB _ b_26) (htB _ b_27) (htB _ b_22) ⟨by decide, by decide, by decide +kernel⟩ ⟨(Nat.le_of_ble_eq_true rfl), (Nat.le_of_ble_eq_true rfl)⟩ 1 rfl rfl hP hD hS [1, 2] rfl (by decide) rfl rfl hl.1 rfl rfl (Nat.le_of_ble_eq_true rfl) d_PatternReader_readAffix_26) hP hD hS hA [1, 2] [0, 3, 4] [0, 3, 4, 1, 2] rfl rfl (by decide) (by decide) rfl (by decide) (fun H locs hP hD hS => ?_)
    refine lv_istore (lv' := [(5, .int o26), (0, .ref a0_0), (1, .ref a1_0), (2, .ref a2_0), (3, .int x3), (4, .int x4)]) hx hb d_PatternReader_readAffix_29 hl (by decide) rfl (fun ls hl => ?_)
    refine lv_iload hx hb d_PatternReader_readAffix_31 (lv_at hl 0 rfl) ?_
    refine lv_bipush (v := 39) hx hb d_PatternReader_readAffix_33 (by decide) ?_
    refine lv_icmp_ne (tgt := 85) hx hb d_PatternReader_readAffix_35 rfl (fun hc => ?_) (fun hc => ?_)
    · have h := (if_neg hc).symm.trans h
      refine lv_iload_n hx hb d_PatternReader_readAffix_85 rfl (lv_at hl 4 rfl) ?_
      refine lv_if_eq (tgt := 98) hx hb d_PatternReader_readAffix_86 rfl (fun hc => ?_) (fun hc => ?_)
      · have h := (if_pos hc).symm.trans h
        refine lv_iload hx hb d_PatternReader_readAffix_98 (lv_at hl 0 rfl) ?_
        obtain ⟨o100, ho100, h⟩ := x_bnd h
        refine x_calli (r0 := o100) (ws2 := (wd_PatternReader_readAffix cC cI a0_0 a1_0 a1_1 a2_0 a2_1 v0 v1 v2)) (x_runSN (As := [.int o26]) (rest := []) X (c_Deci_isSpecial l D cC cI H.size o26 o100 ho100) b_55 1 (hN _ n_13) (htB _ b_57) (htB _ b_56) ⟨by decide, by decide, by decide +kernel⟩ ⟨(Nat.le_of_ble_eq_true rfl), (Nat.le_of_ble_eq_true rfl)⟩ hP hD hS [] rfl (by decide) rfl rfl hl.1 rfl rfl (Nat.le_of_ble_eq_true rfl) d_PatternReader_readAffix_100) hP hD hS hA [] [0, 1, 2, 3, 4] [0, 1, 2, 3, 4] rfl rfl (by decide) (by decide) rfl (by decide) (fun H locs hP hD hS => ?_)
        refine lv_if_eq (tgt := 108) hx hb d_PatternReader_readAffix_103 rfl (fun hc => ?_) (fun hc => ?_)
        · have h := (if_pos hc).symm.trans h
          refine lv_aload_n hx hb d_PatternReader_readAffix_108 rfl (lv_at hl 3 rfl) ?_
          refine lv_iload hx hb d_PatternReader_readAffix_109 (lv_at hl 0 rfl) ?_
          refine lv_bipush (v := 37) hx hb d_PatternReader_readAffix_111 (by decide) ?_
          refine lv_icmp_ne (tgt := 122) hx hb d_PatternReader_readAffix_113 rfl (fun hc => ?_) (fun hc => ?_)
          · have h := (if_neg hc).symm.trans h
            refine lv_iload hx hb d_PatternReader_readAffix_122 (lv_at hl 0 rfl) ?_
            exact w_PatternReader_readAffix_124 X ih v0 v2 x3 x4 o26 ls H locs h (lv_sub hl [1, 2, 3, 4, 5] rfl) hP hD hS
          have h := (if_pos hc).symm.trans h
          refine lv_sipush (v := 256) hx hb d_PatternReader_readAffix_116 (by decide) ?_
          refine lv_goto (tgt := 124) hx hb d_PatternReader_readAffix_119 rfl ?_
          exact w_PatternReader_readAffix_124 X ih v0 v2 x3 x4 (256 : Int32) ls H locs h (lv_sub hl [1, 2, 3, 4, 5] rfl) hP hD hS
        have h := (if_neg hc).symm.trans h
        refine lv_iconst (v := 1) hx hb d_PatternReader_readAffix_106 (by decide) ?_
        obtain rfl := Option.some.inj h
        exact W.zret (v := (1 : Int32)) (ty := .boolean) hx hb hr rfl (fun t ht hW => ⟨⟨(1 : Int32), (), rfl, rfl, by rw [ht]; exact hP, hD⟩, hS.F ht⟩) hS.2.2 d_PatternReader_readAffix_107 hlocks
      have h := (if_neg hc).symm.trans h
      refine lv_aload_n hx hb d_PatternReader_readAffix_89 rfl (lv_at hl 3 rfl) ?_
      refine lv_iload hx hb d_PatternReader_readAffix_90 (lv_at hl 0 rfl) ?_
      obtain ⟨o92, ho92, h⟩ := x_bnd h
      refine x_callv (ws2 := (wd_PatternReader_readAffix cC cI a0_0 a1_0 a1_1 a2_0 a2_1 v0 v1 o92)) (x_runVN (As := [.int o26]) (rest := []) X (c_Affix_add l D cC cI H.size a2_0 a2_1 v2 o26 o92 ho92) b_13 1 (hN _ n_14) (htB _ b_14) (htB _ b_15) (htB _ b_9) ⟨by decide, by decide, by decide +kernel⟩ ⟨(Nat.le_of_ble_eq_true rfl), (Nat.le_of_ble_eq_true rfl)⟩ 3 rfl rfl hP hD hS [3, 4] rfl (by decide) rfl rfl hl.1 rfl rfl (Nat.le_of_ble_eq_true rfl) d_PatternReader_readAffix_92) hP hD hS hA [3, 4] [0, 1, 2] [0, 1, 2, 3, 4] rfl rfl (by decide) (by decide) rfl (by decide) (fun H locs hP hD hS => ?_)
      refine lv_goto (tgt := 127) hx hb d_PatternReader_readAffix_95 rfl ?_
      exact w_PatternReader_readAffix_127 X ih v0 o92 x3 x4 ls H locs h (lv_sub hl [1, 2, 3, 4, 5] rfl) hP hD hS
    have h := (if_pos hc).symm.trans h
    refine lv_aload_n hx hb d_PatternReader_readAffix_38 rfl (lv_at hl 2 rfl) ?_
    refine lv_aload_n hx hb d_PatternReader_readAffix_39 rfl (lv_at hl 1 rfl) ?_
    refine va_get (D := D) (ci := 5) (v := .int v0) (C := R_PatternReader) (T := F_PatternReader) (N := 1) hx hb htB in_PatternReader hown hK hP 0 rfl rfl 0 (by decide) (htB _ b_54) (fun _ h9 => h9) rfl d_PatternReader_readAffix_40 ?_
    refine lv_iconst (v := 1) hx hb d_PatternReader_readAffix_43 (by decide) ?_
    refine lv_iadd hx hb d_PatternReader_readAffix_44 ?_
    obtain ⟨o45, ho45, h⟩ := x_bnd h
    refine x_calli (r0 := o45) (ws2 := (wd_PatternReader_readAffix cC cI a0_0 a1_0 a1_1 a2_0 a2_1 v0 v1 v2)) (x_runVN (As := [.int (v0 + (1 : Int32))]) (rest := []) X (c_Row_at l D cC cI H.size a1_0 a1_1 v1 (v0 + (1 : Int32)) o45 ho45) b_25 1 (hN _ n_12) (htB _ b_26) (htB _ b_27) (htB _ b_22) ⟨by decide, by decide, by decide +kernel⟩ ⟨(Nat.le_of_ble_eq_true rfl), (Nat.le_of_ble_eq_true rfl)⟩ 1 rfl rfl hP hD hS [1, 2] rfl (by decide) rfl rfl hl.1 rfl rfl (Nat.le_of_ble_eq_true rfl) d_PatternReader_readAffix_45) hP hD hS hA [1, 2] [0, 3, 4] [0, 3, 4, 1, 2] rfl rfl (by decide) (by decide) rfl (by decide) (fun H locs hP hD hS => ?_)
    refine lv_bipush (v := 39) hx hb d_PatternReader_readAffix_48 (by decide) ?_
    refine lv_icmp_ne (tgt := 72) hx hb d_PatternReader_readAffix_50 rfl (fun hc => ?_) (fun hc => ?_)
    · have h := (if_neg hc).symm.trans h
      refine lv_iload_n hx hb d_PatternReader_readAffix_72 rfl (lv_at hl 4 rfl) ?_
      refine lv_if_ne (tgt := 80) hx hb d_PatternReader_readAffix_73 rfl (fun hc => ?_) (fun hc => ?_)
      · have h := (if_neg hc).symm.trans h
        refine lv_iconst (v := 0) hx hb d_PatternReader_readAffix_80 (by decide) ?_
        exact w_PatternReader_readAffix_81 X ih v0 v2 x4 (0 : Int32) ls H locs h (lv_sub hl [1, 2, 3, 5] rfl) hP hD hS
      have h := (if_pos hc).symm.trans h
      refine lv_iconst (v := 1) hx hb d_PatternReader_readAffix_76 (by decide) ?_
      refine lv_goto (tgt := 81) hx hb d_PatternReader_readAffix_77 rfl ?_
      exact w_PatternReader_readAffix_81 X ih v0 v2 x4 (1 : Int32) ls H locs h (lv_sub hl [1, 2, 3, 5] rfl) hP hD hS
    have h := (if_pos hc).symm.trans h
    refine lv_aload_n hx hb d_PatternReader_readAffix_53 rfl (lv_at hl 3 rfl) ?_
    refine lv_bipush (v := 39) hx hb d_PatternReader_readAffix_54 (by decide) ?_
    obtain ⟨o56, ho56, h⟩ := x_bnd h
    refine x_callv (ws2 := (wd_PatternReader_readAffix cC cI a0_0 a1_0 a1_1 a2_0 a2_1 v0 v1 o56)) (x_runVN (As := [.int (39 : Int32)]) (rest := []) X (c_Affix_add l D cC cI H.size a2_0 a2_1 v2 (39 : Int32) o56 ho56) b_13 1 (hN _ n_14) (htB _ b_14) (htB _ b_15) (htB _ b_9) ⟨by decide, by decide, by decide +kernel⟩ ⟨(Nat.le_of_ble_eq_true rfl), (Nat.le_of_ble_eq_true rfl)⟩ 3 rfl rfl hP hD hS [3, 4] rfl (by decide) rfl rfl hl.1 rfl rfl (Nat.le_of_ble_eq_true rfl) d_PatternReader_readAffix_56) hP hD hS hA [3, 4] [0, 1, 2] [0, 1, 2, 3, 4] rfl rfl (by decide) (by decide) rfl (by decide) (fun H locs hP hD hS => ?_)
    refine lv_aload_n hx hb d_PatternReader_readAffix_59 rfl (lv_at hl 1 rfl) ?_
    refine lv_dup hx hb d_PatternReader_readAffix_60 rfl ?_
    refine va_get (D := D) (ci := 5) (v := .int v0) (C := R_PatternReader) (T := F_PatternReader) (N := 1) hx hb htB in_PatternReader hown hK hP 0 rfl rfl 0 (by decide) (htB _ b_54) (fun _ h9 => h9) rfl d_PatternReader_readAffix_61 ?_
    refine lv_iconst (v := 1) hx hb d_PatternReader_readAffix_64 (by decide) ?_
    refine lv_iadd hx hb d_PatternReader_readAffix_65 ?_
    refine va_put (D := D) (ci := 5) (v := .int (v0 + (1 : Int32))) (ty := .int) (C := R_PatternReader) (T := F_PatternReader) (N := 1) hx hb htB in_PatternReader t_PatternReader t_PatternReader_ok n_PatternReader hown hK hP hD hS 0 rfl rfl 0 (by decide) (htB _ b_54) (fun _ h9 => h9) rfl (by decide +kernel) rfl rfl (Nat.le_of_ble_eq_true rfl) d_PatternReader_readAffix_66 (fun H locs hP hD hS => ?_)
    have hP : va_P D classes (wd_PatternReader_readAffix cC cI a0_0 a1_0 a1_1 a2_0 a2_1 (v0 + (1 : Int32)) v1 o56) H := hP
    have hD : va_D A (wd_PatternReader_readAffix cC cI a0_0 a1_0 a1_1 a2_0 a2_1 (v0 + (1 : Int32)) v1 o56) := hD
    refine lv_goto (tgt := 127) hx hb d_PatternReader_readAffix_69 rfl ?_
    exact w_PatternReader_readAffix_127 X ih (v0 + (1 : Int32)) o56 x3 x4 ls H locs h (lv_sub hl [1, 2, 3, 4, 5] rfl) hP hD hS

def f_PatternReader_readAffix (v0 : T_PatternReader) (v1 : T_Row) (v2 : T_Affix) : Option O_PatternReader_readAffix := (f_Affix_clear v2).bind (fun o1 => (f_Row_size v1).bind (fun o7 => f_PatternReader_readAffix_12 v1 FU v0 o1 (0 : Int32) o7))
set_option maxHeartbeats 4000000 in
set_option maxRecDepth 100000 in
theorem w_PatternReader_readAffix {p : Program} {l : Launch} {e : Env} {s : State} {m : MethodId} {args : Array Value} {below : List Frame} {meth : Method} {c : Code} {A : Nat → Prop} {D : va_G} {cC cI : ClassId} {a0_0 a1_0 a1_1 a2_0 a2_1 : Nat} {v1 : T_Row} (X : xCX p s m args meth c A D cC cI b_PatternReader_readAffix 6 R_PatternReader (some .boolean)) {out : O_PatternReader_readAffix} (v0 : T_PatternReader) (v2 : T_Affix) {ls : Array Slot} {H : Heap} {locs : List Loc} (h : f_PatternReader_readAffix v0 v1 v2 = some out) (hl : lv_has ls 6 [(0, .ref a0_0), (1, .ref a1_0), (2, .ref a2_0)]) (hP : va_P D classes (wd_PatternReader_readAffix cC cI a0_0 a1_0 a1_1 a2_0 a2_1 v0 v1 v2) H) (hD : va_D A (wd_PatternReader_readAffix cC cI a0_0 a1_0 a1_1 a2_0 a2_1 v0 v1 v2)) (hS : va_S A s.heap H locs) : W p l e rm_PatternReader_readAffix s m args below meth c H locs 0 0 (MQ below (q_PatternReader_readAffix D cC cI a0_0 a1_0 a1_1 a2_0 a2_1 v1 out A) args s 0 0 A) (F0 m 0 ls []) := by
  obtain ⟨hx, hb, hml, hown, htB, ⟨hK, hN⟩, hZ, hA, hr, hlocks⟩ := id X
  refine lv_aload_n hx hb d_PatternReader_readAffix_0 rfl (lv_at hl 2 rfl) ?_
  obtain ⟨o1, ho1, h⟩ := x_bnd h
  refine x_callv (ws2 := (wd_PatternReader_readAffix cC cI a0_0 a1_0 a1_1 a2_0 a2_1 v0 v1 o1)) (x_runVN (As := []) (rest := []) X (c_Affix_clear l D cC cI H.size a2_0 a2_1 v2 o1 ho1) b_42 0 (hN _ n_10) (htB _ b_43) (htB _ b_44) (htB _ b_9) ⟨by decide, by decide, by decide +kernel⟩ ⟨(Nat.le_of_ble_eq_true rfl), (Nat.le_of_ble_eq_true rfl)⟩ 3 rfl rfl hP hD hS [3, 4] rfl (by decide) rfl rfl hl.1 rfl rfl (Nat.le_of_ble_eq_true rfl) d_PatternReader_readAffix_1) hP hD hS hA [3, 4] [0, 1, 2] [0, 1, 2, 3, 4] rfl rfl (by decide) (by decide) rfl (by decide) (fun H locs hP hD hS => ?_)
  refine lv_iconst (v := 0) hx hb d_PatternReader_readAffix_4 (by decide) ?_
  refine lv_istore_n (lv' := [(3, .int (0 : Int32)), (0, .ref a0_0), (1, .ref a1_0), (2, .ref a2_0)]) hx hb d_PatternReader_readAffix_5 rfl hl (by decide) rfl (fun ls hl => ?_)
  refine lv_aload_n hx hb d_PatternReader_readAffix_6 rfl (lv_at hl 2 rfl) ?_
  obtain ⟨o7, ho7, h⟩ := x_bnd h
  refine x_calli (r0 := o7) (ws2 := (wd_PatternReader_readAffix cC cI a0_0 a1_0 a1_1 a2_0 a2_1 v0 v1 o1)) (x_runVN (As := []) (rest := []) X (c_Row_size l D cC cI H.size a1_0 a1_1 v1 o7 ho7) b_51 0 (hN _ n_11) (htB _ b_52) (htB _ b_53) (htB _ b_22) ⟨by decide, by decide, by decide +kernel⟩ ⟨(Nat.le_of_ble_eq_true rfl), (Nat.le_of_ble_eq_true rfl)⟩ 1 rfl rfl hP hD hS [1, 2] rfl (by decide) rfl rfl hl.1 rfl rfl (Nat.le_of_ble_eq_true rfl) d_PatternReader_readAffix_7) hP hD hS hA [1, 2] [0, 3, 4] [0, 3, 4, 1, 2] rfl rfl (by decide) (by decide) rfl (by decide) (fun H locs hP hD hS => ?_)
  refine lv_istore (lv' := [(4, .int o7), (3, .int (0 : Int32)), (0, .ref a0_0), (1, .ref a1_0), (2, .ref a2_0)]) hx hb d_PatternReader_readAffix_10 hl (by decide) rfl (fun ls hl => ?_)
  exact w_PatternReader_readAffix_12 X FU v0 o1 (0 : Int32) o7 ls H locs h (lv_sub hl [2, 3, 4, 1, 0] rfl) hP hD hS

set_option maxHeartbeats 4000000 in
set_option maxRecDepth 100000 in
theorem c_PatternReader_readAffix (l : Launch) (D : va_G) (cC cI : ClassId) (sz : Nat) (a0_0 a1_0 a1_1 a2_0 a2_1 : Nat) (v0 : T_PatternReader) (v1 : T_Row) (v2 : T_Affix) (out : O_PatternReader_readAffix) (h : f_PatternReader_readAffix v0 v1 v2 = some out) : Met l y_PatternReader_readAffix (.code y_PatternReader_readAffix b_PatternReader_readAffix 6 (some .boolean) :: BIG) rm_PatternReader_readAffix (va_Pc [.ref a0_0, .ref a1_0, .ref a2_0] (xPre D cC cI (wd_PatternReader_readAffix cC cI a0_0 a1_0 a1_1 a2_0 a2_1 v0 v1 v2) sz)) (q_PatternReader_readAffix D cC cI a0_0 a1_0 a1_1 a2_0 a2_1 v1 out (va_A (wd_PatternReader_readAffix cC cI a0_0 a1_0 a1_1 a2_0 a2_1 v0 v1 v2) sz)) 0 0 (va_A (wd_PatternReader_readAffix cC cI a0_0 a1_0 a1_1 a2_0 a2_1 v0 v1 v2) sz) := by
  refine Met.ofW (cc := b_PatternReader_readAffix) (maxL := 6) (ret := (some .boolean)) (by decide) rfl ?_
  intro p e s m args below meth c s₁ B hml hv
  obtain ⟨rfl, rfl, hP, hD0, hG, hZ⟩ := hv
  have hl := lv_entry [.ref a0_0, .ref a1_0, .ref a2_0] (n := 6) (Nat.le_of_ble_eq_true rfl)
  rw [lg_entry_eq]
  exact w_PatternReader_readAffix (x_cx B hml hG hZ) v0 v2 h hl hP hD0.self va_S.rf

abbrev wd_PatternReader_readInteger (cC cI : ClassId) (a0_0 a1_0 a1_1 a2_0 : Nat) (v0 : T_PatternReader) (v1 : T_Row) (v2 : T_Shape) : va_W := [(a0_0, .inr (5, [.int v0])), (a1_0, .inr (0, [.ref a1_1, .int v1.2])), (a1_1, .inl (cC, 120, .inl v1.1)), (a2_0, .inr (2, [.int v2.1, .int v2.2.1, .int v2.2.2.1, .int v2.2.2.2.1, .int v2.2.2.2.2.1, .int v2.2.2.2.2.2.1, .int v2.2.2.2.2.2.2]))]
abbrev O_PatternReader_readInteger : Type := Int32 × T_PatternReader × T_Shape
abbrev q_PatternReader_readInteger (D : va_G) (cC cI : ClassId) (a0_0 a1_0 a1_1 a2_0 : Nat) (v1 : T_Row) (out : O_PatternReader_readInteger) (A : Nat → Prop) : Array Value → State → Outcome → State → Prop := va_Qi (fun r (_ : Unit) => r = out.1) (fun _ t => va_P D classes (wd_PatternReader_readInteger cC cI a0_0 a1_0 a1_1 a2_0 out.2.1 v1 out.2.2) t.heap ∧ va_D A (wd_PatternReader_readInteger cC cI a0_0 a1_0 a1_1 a2_0 out.2.1 v1 out.2.2)) A
abbrev rm_PatternReader_readInteger : Room := { frames := 1, cells := 0, slots := 0, locals := 21 }
def J_PatternReader_readInteger_2 (p : Program) (l : Launch) (e : Env) (s : State) (m : MethodId) (args : Array Value) (below : List Frame) (meth : Method) (c : Code) (A : Nat → Prop) (D : va_G) (cC cI : ClassId) (a0_0 a1_0 a1_1 a2_0 : Nat) (v1 : T_Row) (out : O_PatternReader_readInteger) (k : T_PatternReader → T_Shape → Int32 → Option O_PatternReader_readInteger) : Prop := ∀ (v0 : T_PatternReader) (v2 : T_Shape) (x3 : Int32) (ls : Array Slot) (H : Heap) (locs : List Loc), k v0 v2 x3 = some out → lv_has ls 5 [(0, .ref a0_0), (1, .ref a1_0), (2, .ref a2_0), (3, .int x3)] → va_P D classes (wd_PatternReader_readInteger cC cI a0_0 a1_0 a1_1 a2_0 v0 v1 v2) H → va_D A (wd_PatternReader_readInteger cC cI a0_0 a1_0 a1_1 a2_0 v0 v1 v2) → va_S A s.heap H locs → W p l e rm_PatternReader_readInteger s m args below meth c H locs 0 0 (MQ below (q_PatternReader_readInteger D cC cI a0_0 a1_0 a1_1 a2_0 v1 out A) args s 0 0 A) (F0 m 2 ls [])
def J_PatternReader_readInteger_29 (p : Program) (l : Launch) (e : Env) (s : State) (m : MethodId) (args : Array Value) (below : List Frame) (meth : Method) (c : Code) (A : Nat → Prop) (D : va_G) (cC cI : ClassId) (a0_0 a1_0 a1_1 a2_0 : Nat) (v1 : T_Row) (out : O_PatternReader_readInteger) (k : T_PatternReader → T_Shape → Int32 → Option O_PatternReader_readInteger) : Prop := ∀ (v0 : T_PatternReader) (v2 : T_Shape) (x3 : Int32) (ls : Array Slot) (H : Heap) (locs : List Loc), k v0 v2 x3 = some out → lv_has ls 5 [(0, .ref a0_0), (1, .ref a1_0), (2, .ref a2_0), (3, .int x3)] → va_P D classes (wd_PatternReader_readInteger cC cI a0_0 a1_0 a1_1 a2_0 v0 v1 v2) H → va_D A (wd_PatternReader_readInteger cC cI a0_0 a1_0 a1_1 a2_0 v0 v1 v2) → va_S A s.heap H locs → W p l e rm_PatternReader_readInteger s m args below meth c H locs 0 0 (MQ below (q_PatternReader_readInteger D cC cI a0_0 a1_0 a1_1 a2_0 v1 out A) args s 0 0 A) (F0 m 29 ls [])
def J_PatternReader_readInteger_30 (p : Program) (l : Launch) (e : Env) (s : State) (m : MethodId) (args : Array Value) (below : List Frame) (meth : Method) (c : Code) (A : Nat → Prop) (D : va_G) (cC cI : ClassId) (a0_0 a1_0 a1_1 a2_0 : Nat) (v1 : T_Row) (out : O_PatternReader_readInteger) (k : T_PatternReader → T_Shape → Int32 → Int32 → Option O_PatternReader_readInteger) : Prop := ∀ (v0 : T_PatternReader) (v2 : T_Shape) (x3 : Int32) (s0 : Int32) (ls : Array Slot) (H : Heap) (locs : List Loc), k v0 v2 x3 s0 = some out → lv_has ls 5 [(0, .ref a0_0), (1, .ref a1_0), (2, .ref a2_0), (3, .int x3)] → va_P D classes (wd_PatternReader_readInteger cC cI a0_0 a1_0 a1_1 a2_0 v0 v1 v2) H → va_D A (wd_PatternReader_readInteger cC cI a0_0 a1_0 a1_1 a2_0 v0 v1 v2) → va_S A s.heap H locs → W p l e rm_PatternReader_readInteger s m args below meth c H locs 0 0 (MQ below (q_PatternReader_readInteger D cC cI a0_0 a1_0 a1_1 a2_0 v1 out A) args s 0 0 A) (F0 m 30 ls [.int s0])
def J_PatternReader_readInteger_51 (p : Program) (l : Launch) (e : Env) (s : State) (m : MethodId) (args : Array Value) (below : List Frame) (meth : Method) (c : Code) (A : Nat → Prop) (D : va_G) (cC cI : ClassId) (a0_0 a1_0 a1_1 a2_0 : Nat) (v1 : T_Row) (out : O_PatternReader_readInteger) (k : T_PatternReader → T_Shape → Int32 → Int32 → Option O_PatternReader_readInteger) : Prop := ∀ (v0 : T_PatternReader) (v2 : T_Shape) (x3 : Int32) (x4 : Int32) (ls : Array Slot) (H : Heap) (locs : List Loc), k v0 v2 x3 x4 = some out → lv_has ls 5 [(0, .ref a0_0), (1, .ref a1_0), (2, .ref a2_0), (3, .int x3), (4, .int x4)] → va_P D classes (wd_PatternReader_readInteger cC cI a0_0 a1_0 a1_1 a2_0 v0 v1 v2) H → va_D A (wd_PatternReader_readInteger cC cI a0_0 a1_0 a1_1 a2_0 v0 v1 v2) → va_S A s.heap H locs → W p l e rm_PatternReader_readInteger s m args below meth c H locs 0 0 (MQ below (q_PatternReader_readInteger D cC cI a0_0 a1_0 a1_1 a2_0 v1 out A) args s 0 0 A) (F0 m 51 ls [])
def J_PatternReader_readInteger_79 (p : Program) (l : Launch) (e : Env) (s : State) (m : MethodId) (args : Array Value) (below : List Frame) (meth : Method) (c : Code) (A : Nat → Prop) (D : va_G) (cC cI : ClassId) (a0_0 a1_0 a1_1 a2_0 : Nat) (v1 : T_Row) (out : O_PatternReader_readInteger) (k : T_PatternReader → T_Shape → Option O_PatternReader_readInteger) : Prop := ∀ (v0 : T_PatternReader) (v2 : T_Shape) (ls : Array Slot) (H : Heap) (locs : List Loc), k v0 v2 = some out → lv_has ls 5 [] → va_P D classes (wd_PatternReader_readInteger cC cI a0_0 a1_0 a1_1 a2_0 v0 v1 v2) H → va_D A (wd_PatternReader_readInteger cC cI a0_0 a1_0 a1_1 a2_0 v0 v1 v2) → va_S A s.heap H locs → W p l e rm_PatternReader_readInteger s m args below meth c H locs 0 0 (MQ below (q_PatternReader_readInteger D cC cI a0_0 a1_0 a1_1 a2_0 v1 out A) args s 0 0 A) (F0 m 79 ls [])
def J_PatternReader_readInteger_80 (p : Program) (l : Launch) (e : Env) (s : State) (m : MethodId) (args : Array Value) (below : List Frame) (meth : Method) (c : Code) (A : Nat → Prop) (D : va_G) (cC cI : ClassId) (a0_0 a1_0 a1_1 a2_0 : Nat) (v1 : T_Row) (out : O_PatternReader_readInteger) (k : T_PatternReader → T_Shape → Int32 → Option O_PatternReader_readInteger) : Prop := ∀ (v0 : T_PatternReader) (v2 : T_Shape) (s0 : Int32) (ls : Array Slot) (H : Heap) (locs : List Loc), k v0 v2 s0 = some out → lv_has ls 5 [] → va_P D classes (wd_PatternReader_readInteger cC cI a0_0 a1_0 a1_1 a2_0 v0 v1 v2) H → va_D A (wd_PatternReader_readInteger cC cI a0_0 a1_0 a1_1 a2_0 v0 v1 v2) → va_S A s.heap H locs → W p l e rm_PatternReader_readInteger s m args below meth c H locs 0 0 (MQ below (q_PatternReader_readInteger D cC cI a0_0 a1_0 a1_1 a2_0 v1 out A) args s 0 0 A) (F0 m 80 ls [.int s0])
def f_PatternReader_readInteger_80 (v1 : T_Row) (v0 : T_PatternReader) (v2 : T_Shape) (s0 : Int32) : Option O_PatternReader_readInteger := if (s0 = 0 ∨ s0 = 1) then some (s0, v0, v2) else none
set_option maxHeartbeats 4000000 in
set_option maxRecDepth 100000 in
theorem w_PatternReader_readInteger_80 {p : Program} {l : Launch} {e : Env} {s : State} {m : MethodId} {args : Array Value} {below : List Frame} {meth : Method} {c : Code} {A : Nat → Prop} {D : va_G} {cC cI : ClassId} {a0_0 a1_0 a1_1 a2_0 : Nat} {v1 : T_Row} (X : xCX p s m args meth c A D cC cI b_PatternReader_readInteger 5 R_PatternReader (some .boolean)) {out : O_PatternReader_readInteger}   : J_PatternReader_readInteger_80 p l e s m args below meth c A D cC cI a0_0 a1_0 a1_1 a2_0 v1 out (f_PatternReader_readInteger_80 v1 ) := by
  obtain ⟨hx, hb, hml, hown, htB, ⟨hK, hN⟩, hZ, hA, hr, hlocks⟩ := id X
  intro v0 v2 s0 ls H locs h hl hP hD hS
  obtain ⟨hc, h⟩ := x_chk h
  obtain rfl := Option.some.inj h
  exact W.zret (v := s0) (ty := .boolean) hx hb hr (x_zn hc) (fun t ht hW => ⟨⟨s0, (), rfl, rfl, by rw [ht]; exact hP, hD⟩, hS.F ht⟩) hS.2.2 d_PatternReader_readInteger_80 hlocks

def f_PatternReader_readInteger_79 (v1 : T_Row) (v0 : T_PatternReader) (v2 : T_Shape) : Option O_PatternReader_readInteger := f_PatternReader_readInteger_80 v1 v0 v2 (0 : Int32)
set_option maxHeartbeats 4000000 in
set_option maxRecDepth 100000 in
theorem w_PatternReader_readInteger_79 {p : Program} {l : Launch} {e : Env} {s : State} {m : MethodId} {args : Array Value} {below : List Frame} {meth : Method} {c : Code} {A : Nat → Prop} {D : va_G} {cC cI : ClassId} {a0_0 a1_0 a1_1 a2_0 : Nat} {v1 : T_Row} (X : xCX p s m args meth c A D cC cI b_PatternReader_readInteger 5 R_PatternReader (some .boolean)) {out : O_PatternReader_readInteger}   : J_PatternReader_readInteger_79 p l e s m args below meth c A D cC cI a0_0 a1_0 a1_1 a2_0 v1 out (f_PatternReader_readInteger_79 v1 ) := by
  obtain ⟨hx, hb, hml, hown, htB, ⟨hK, hN⟩, hZ, hA, hr, hlocks⟩ := id X
  intro v0 v2 ls H locs h hl hP hD hS
  refine lv_iconst (v := 0) hx hb d_PatternReader_readInteger_79 (by decide) ?_
  exact w_PatternReader_readInteger_80 X v0 v2 (0 : Int32) ls H locs h (lv_sub hl [] rfl) hP hD hS

def f_PatternReader_readInteger_51 (v1 : T_Row) (k2 : T_PatternReader → T_Shape → Int32 → Option O_PatternReader_readInteger) (v0 : T_PatternReader) (v2 : T_Shape) (x3 : Int32) (x4 : Int32) : Option O_PatternReader_readInteger := (f_Row_at v1 v0).bind (fun o57 => (f_Shape_takeInteger v2 o57).bind (fun o60 => (if o60.1 = 0 then (if x3 ≤ 0 then f_PatternReader_readInteger_79 v1 v0 o60.2 else (if x4 = 0 then f_PatternReader_readInteger_80 v1 v0 o60.2 (1 : Int32) else f_PatternReader_readInteger_79 v1 v0 o60.2)) else k2 (v0 + (1 : Int32)) o60.2 (x3 + (1 : Int32)))))
set_option maxHeartbeats 4000000 in
set_option maxRecDepth 100000 in
theorem w_PatternReader_readInteger_51 {p : Program} {l : Launch} {e : Env} {s : State} {m : MethodId} {args : Array Value} {below : List Frame} {meth : Method} {c : Code} {A : Nat → Prop} {D : va_G} {cC cI : ClassId} {a0_0 a1_0 a1_1 a2_0 : Nat} {v1 : T_Row} (X : xCX p s m args meth c A D cC cI b_PatternReader_readInteger 5 R_PatternReader (some .boolean)) {out : O_PatternReader_readInteger} {k2 : T_PatternReader → T_Shape → Int32 → Option O_PatternReader_readInteger} (hk2 : J_PatternReader_readInteger_2 p l e s m args below meth c A D cC cI a0_0 a1_0 a1_1 a2_0 v1 out k2) : J_PatternReader_readInteger_51 p l e s m args below meth c A D cC cI a0_0 a1_0 a1_1 a2_0 v1 out (f_PatternReader_readInteger_51 v1 k2) := by
  obtain ⟨hx, hb, hml, hown, htB, ⟨hK, hN⟩, hZ, hA, hr, hlocks⟩ := id X
  intro v0 v2 x3 x4 ls H locs h hl hP hD hS
  refine lv_aload_n hx hb d_PatternReader_readInteger_51 rfl (lv_at hl 2 rfl) ?_
  refine lv_aload_n hx hb d_PatternReader_readInteger_52 rfl (lv_at hl 1 rfl) ?_
  refine lv_aload_n hx hb d_PatternReader_readInteger_53 rfl (lv_at hl 0 rfl) ?_
  refine va_get (D := D) (ci := 5) (v := .int v0) (C := R_PatternReader) (T := F_PatternReader) (N := 1) hx hb htB in_PatternReader hown hK hP 0 rfl rfl 0 (by decide) (htB _ b_54) (fun _ h9 => h9) rfl d_PatternReader_readInteger_54 ?_
  obtain ⟨o57, ho57, h⟩ := x_bnd h
  refine x_calli (r0 := o57) (ws2 := (wd_PatternReader_readInteger cC cI a0_0 a1_0 a1_1 a2_0 v0 v1 v2)) (x_runVN (As := [.int v0]) (rest := [.ref a2_0]) X (c_Row_at l D cC cI H.size a1_0 a1_1 v1 v0 o57 ho57) b_25 1 (hN _ n_12) (htB _ b_26) (htB _ b_27) (htB _ b_22) ⟨by decide, by decide, by decide +kernel⟩ ⟨(Nat.le_of_ble_eq_true rfl), (Nat.le_of_ble_eq_true rfl)⟩ 1 rfl rfl hP hD hS [1, 2] rfl (by decide) rfl rfl hl.1 rfl rfl (Nat.le_of_ble_eq_true rfl) d_PatternReader_readInteger_57) hP hD hS hA [1, 2] [0, 3] [0, 2, 3, 1] rfl rfl (by decide) (by decide) rfl (by decide) (fun H locs hP hD hS => ?_)
  obtain ⟨o60, ho60, h⟩ := x_bnd h
  refine x_calli (r0 := o60.1) (ws2 := (wd_PatternReader_readInteger cC cI a0_0 a1_0 a1_1 a2_0 v0 v1 o60.2)) (x_runVN (As := [.int o57]) (rest := []) X (c_Shape_takeInteger l D cC cI H.size a2_0 v2 o57 o60 ho60) b_58 1 (hN _ n_15) (htB _ b_60) (htB _ b_61) (htB _ b_59) ⟨by decide, by decide, by decide +kernel⟩ ⟨(Nat.le_of_ble_eq_true rfl), (Nat.le_of_ble_eq_true rfl)⟩ 3 rfl rfl hP hD hS [3] rfl (by decide) rfl rfl hl.1 rfl rfl (Nat.le_of_ble_eq_true rfl) d_PatternReader_readInteger_60) hP hD hS hA [3] [0, 1, 2] [0, 1, 2, 3] rfl rfl (by decide) (by decide) rfl (by decide) (fun H locs hP hD hS => ?_)
  refine lv_if_ne (tgt := 81) hx hb d_PatternReader_readInteger_63 rfl (fun hc => ?_) (fun hc => ?_)
  · have h := (if_neg hc).symm.trans h
    refine lv_aload_n hx hb d_PatternReader_readInteger_81 rfl (lv_at hl 0 rfl) ?_
    refine lv_dup hx hb d_PatternReader_readInteger_82 rfl ?_
    refine va_get (D := D) (ci := 5) (v := .int v0) (C := R_PatternReader) (T := F_PatternReader) (N := 1) hx hb htB in_PatternReader hown hK hP 0 rfl rfl 0 (by decide) (htB _ b_54) (fun _ h9 => h9) rfl d_PatternReader_readInteger_83 ?_
    refine lv_iconst (v := 1) hx hb d_PatternReader_readInteger_86 (by decide) ?_
    refine lv_iadd hx hb d_PatternReader_readInteger_87 ?_
    refine va_put (D := D) (ci := 5) (v := .int (v0 + (1 : Int32))) (ty := .int) (C := R_PatternReader) (T := F_PatternReader) (N := 1) hx hb htB in_PatternReader t_PatternReader t_PatternReader_ok n_PatternReader hown hK hP hD hS 0 rfl rfl 0 (by decide) (htB _ b_54) (fun _ h9 => h9) rfl (by decide +kernel) rfl rfl (Nat.le_of_ble_eq_true rfl) d_PatternReader_readInteger_88 (fun H locs hP hD hS => ?_)
    have hP : va_P D classes (wd_PatternReader_readInteger cC cI a0_0 a1_0 a1_1 a2_0 (v0 + (1 : Int32)) v1 o60.2) H := hP
    have hD : va_D A (wd_PatternReader_readInteger cC cI a0_0 a1_0 a1_1 a2_0 (v0 + (1 : Int32)) v1 o60.2) := hD
    refine lv_iinc (k := 3) (v := (x3 + (1 : Int32))) (lv' := [(3, .int (x3 + (1 : Int32))), (0, .ref a0_0), (1, .ref a1_0), (2, .ref a2_0), (4, .int x4)]) hx hb d_PatternReader_readInteger_91 hl rfl (congrArg (fun z => x3 + z) (by decide : Int32.ofInt 1 = (1 : Int32))) (by decide) rfl (fun ls hl => ?_)
    refine lv_goto (tgt := 2) hx hb d_PatternReader_readInteger_94 rfl ?_
    exact hk2 (v0 + (1 : Int32)) o60.2 (x3 + (1 : Int32)) ls H locs h (lv_sub hl [1, 2, 3, 0] rfl) hP hD hS
  have h := (if_pos hc).symm.trans h
  refine lv_iload_n hx hb d_PatternReader_readInteger_66 rfl (lv_at hl 3 rfl) ?_
  refine lv_if_le (tgt := 79) hx hb d_PatternReader_readInteger_67 rfl (fun hc => ?_) (fun hc => ?_)
  · have h := (if_pos hc).symm.trans h
    exact w_PatternReader_readInteger_79 X v0 o60.2 ls H locs h (lv_sub hl [] rfl) hP hD hS
  have h := (if_neg hc).symm.trans h
  refine lv_iload hx hb d_PatternReader_readInteger_70 (lv_at hl 4 rfl) ?_
  refine lv_if_ne (tgt := 79) hx hb d_PatternReader_readInteger_72 rfl (fun hc => ?_) (fun hc => ?_)
  · have h := (if_neg hc).symm.trans h
    exact w_PatternReader_readInteger_79 X v0 o60.2 ls H locs h (lv_sub hl [] rfl) hP hD hS
  have h := (if_pos hc).symm.trans h
  refine lv_iconst (v := 1) hx hb d_PatternReader_readInteger_75 (by decide) ?_
  refine lv_goto (tgt := 80) hx hb d_PatternReader_readInteger_76 rfl ?_
  exact w_PatternReader_readInteger_80 X v0 o60.2 (1 : Int32) ls H locs h (lv_sub hl [] rfl) hP hD hS

def f_PatternReader_readInteger_30 (v1 : T_Row) (k2 : T_PatternReader → T_Shape → Int32 → Option O_PatternReader_readInteger) (v0 : T_PatternReader) (v2 : T_Shape) (x3 : Int32) (s0 : Int32) : Option O_PatternReader_readInteger := (if s0 = 0 then f_PatternReader_readInteger_51 v1 k2 v0 v2 x3 s0 else (f_Shape_startGroup v2).bind (fun o48 => f_PatternReader_readInteger_51 v1 k2 (v0 + (1 : Int32)) o48 x3 s0))
set_option maxHeartbeats 4000000 in
set_option maxRecDepth 100000 in
theorem w_PatternReader_readInteger_30 {p : Program} {l : Launch} {e : Env} {s : State} {m : MethodId} {args : Array Value} {below : List Frame} {meth : Method} {c : Code} {A : Nat → Prop} {D : va_G} {cC cI : ClassId} {a0_0 a1_0 a1_1 a2_0 : Nat} {v1 : T_Row} (X : xCX p s m args meth c A D cC cI b_PatternReader_readInteger 5 R_PatternReader (some .boolean)) {out : O_PatternReader_readInteger} {k2 : T_PatternReader → T_Shape → Int32 → Option O_PatternReader_readInteger} (hk2 : J_PatternReader_readInteger_2 p l e s m args below meth c A D cC cI a0_0 a1_0 a1_1 a2_0 v1 out k2) : J_PatternReader_readInteger_30 p l e s m args below meth c A D cC cI a0_0 a1_0 a1_1 a2_0 v1 out (f_PatternReader_readInteger_30 v1 k2) := by
  obtain ⟨hx, hb, hml, hown, htB, ⟨hK, hN⟩, hZ, hA, hr, hlocks⟩ := id X
  intro v0 v2 x3 s0 ls H locs h hl hP hD hS
  refine lv_istore (lv' := [(4, .int s0), (0, .ref a0_0), (1, .ref a1_0), (2, .ref a2_0), (3, .int x3)]) hx hb d_PatternReader_readInteger_30 hl (by decide) rfl (fun ls hl => ?_)
  refine lv_iload hx hb d_PatternReader_readInteger_32 (lv_at hl 0 rfl) ?_
  refine lv_if_eq (tgt := 51) hx hb d_PatternReader_readInteger_34 rfl (fun hc => ?_) (fun hc => ?_)
  · have h := (if_pos hc).symm.trans h
    exact w_PatternReader_readInteger_51 X hk2 v0 v2 x3 s0 ls H locs h (lv_sub hl [1, 2, 3, 4, 0] rfl) hP hD hS
  have h := (if_neg hc).symm.trans h
  refine lv_aload_n hx hb d_PatternReader_readInteger_37 rfl (lv_at hl 1 rfl) ?_
  refine lv_dup hx hb d_PatternReader_readInteger_38 rfl ?_
  refine va_get (D := D) (ci := 5) (v := .int v0) (C := R_PatternReader) (T := F_PatternReader) (N := 1) hx hb htB in_PatternReader hown hK hP 0 rfl rfl 0 (by decide) (htB _ b_54) (fun _ h9 => h9) rfl d_PatternReader_readInteger_39 ?_
  refine lv_iconst (v := 1) hx hb d_PatternReader_readInteger_42 (by decide) ?_
  refine lv_iadd hx hb d_PatternReader_readInteger_43 ?_
  refine va_put (D := D) (ci := 5) (v := .int (v0 + (1 : Int32))) (ty := .int) (C := R_PatternReader) (T := F_PatternReader) (N := 1) hx hb htB in_PatternReader t_PatternReader t_PatternReader_ok n_PatternReader hown hK hP hD hS 0 rfl rfl 0 (by decide) (htB _ b_54) (fun _ h9 => h9) rfl (by decide +kernel) rfl rfl (Nat.le_of_ble_eq_true rfl) d_PatternReader_readInteger_44 (fun H locs hP hD hS => ?_)
  have hP : va_P D classes (wd_PatternReader_readInteger cC cI a0_0 a1_0 a1_1 a2_0 (v0 + (1 : Int32)) v1 v2) H := hP
  have hD : va_D A (wd_PatternReader_readInteger cC cI a0_0 a1_0 a1_1 a2_0 (v0 + (1 : Int32)) v1 v2) := hD
  refine lv_aload_n hx hb d_PatternReader_readInteger_47 rfl (lv_at hl 3 rfl) ?_
  obtain ⟨o48, ho48, h⟩ := x_bnd h
  refine x_callv (ws2 := (wd_PatternReader_readInteger cC cI a0_0 a1_0 a1_1 a2_0 (v0 + (1 : Int32)) v1 o48)) (x_runVN (As := []) (rest := []) X (c_Shape_startGroup l D cC cI H.size a2_0 v2 o48 ho48) b_62 0 (hN _ n_16) (htB _ b_63) (htB _ b_64) (htB _ b_59) ⟨by decide, by decide, by decide +kernel⟩ ⟨(Nat.le_of_ble_eq_true rfl), (Nat.le_of_ble_eq_true rfl)⟩ 3 rfl rfl hP hD hS [3] rfl (by decide) rfl rfl hl.1 rfl rfl (Nat.le_of_ble_eq_true rfl) d_PatternReader_readInteger_48) hP hD hS hA [3] [0, 1, 2] [0, 1, 2, 3] rfl rfl (by decide) (by decide) rfl (by decide) (fun H locs hP hD hS => ?_)
  exact w_PatternReader_readInteger_51 X hk2 (v0 + (1 : Int32)) o48 x3 s0 ls H locs h (lv_sub hl [1, 2, 3, 4, 0] rfl) hP hD hS

def f_PatternReader_readInteger_29 (v1 : T_Row) (k2 : T_PatternReader → T_Shape → Int32 → Option O_PatternReader_readInteger) (v0 : T_PatternReader) (v2 : T_Shape) (x3 : Int32) : Option O_PatternReader_readInteger := f_PatternReader_readInteger_30 v1 k2 v0 v2 x3 (0 : Int32)
set_option maxHeartbeats 4000000 in
set_option maxRecDepth 100000 in
theorem w_PatternReader_readInteger_29 {p : Program} {l : Launch} {e : Env} {s : State} {m : MethodId} {args : Array Value} {below : List Frame} {meth : Method} {c : Code} {A : Nat → Prop} {D : va_G} {cC cI : ClassId} {a0_0 a1_0 a1_1 a2_0 : Nat} {v1 : T_Row} (X : xCX p s m args meth c A D cC cI b_PatternReader_readInteger 5 R_PatternReader (some .boolean)) {out : O_PatternReader_readInteger} {k2 : T_PatternReader → T_Shape → Int32 → Option O_PatternReader_readInteger} (hk2 : J_PatternReader_readInteger_2 p l e s m args below meth c A D cC cI a0_0 a1_0 a1_1 a2_0 v1 out k2) : J_PatternReader_readInteger_29 p l e s m args below meth c A D cC cI a0_0 a1_0 a1_1 a2_0 v1 out (f_PatternReader_readInteger_29 v1 k2) := by
  obtain ⟨hx, hb, hml, hown, htB, ⟨hK, hN⟩, hZ, hA, hr, hlocks⟩ := id X
  intro v0 v2 x3 ls H locs h hl hP hD hS
  refine lv_iconst (v := 0) hx hb d_PatternReader_readInteger_29 (by decide) ?_
  exact w_PatternReader_readInteger_30 X hk2 v0 v2 x3 (0 : Int32) ls H locs h (lv_sub hl [0, 1, 2, 3] rfl) hP hD hS

def f_PatternReader_readInteger_2 (v1 : T_Row)  : Nat → T_PatternReader → T_Shape → Int32 → Option O_PatternReader_readInteger
  | 0, _, _, _ => none
  | n + 1, v0, v2, x3 => (if (12 : Int32) ≤ x3 then some ((1 : Int32), v0, v2) else (if x3 ≤ 0 then f_PatternReader_readInteger_29 v1 (f_PatternReader_readInteger_2 v1 n) v0 v2 x3 else (f_Row_at v1 v0).bind (fun o17 => (if o17 = (44 : Int32) then f_PatternReader_readInteger_30 v1 (f_PatternReader_readInteger_2 v1 n) v0 v2 x3 (1 : Int32) else f_PatternReader_readInteger_29 v1 (f_PatternReader_readInteger_2 v1 n) v0 v2 x3))))
set_option maxHeartbeats 4000000 in
set_option maxRecDepth 100000 in
theorem w_PatternReader_readInteger_2 {p : Program} {l : Launch} {e : Env} {s : State} {m : MethodId} {args : Array Value} {below : List Frame} {meth : Method} {c : Code} {A : Nat → Prop} {D : va_G} {cC cI : ClassId} {a0_0 a1_0 a1_1 a2_0 : Nat} {v1 : T_Row} (X : xCX p s m args meth c A D cC cI b_PatternReader_readInteger 5 R_PatternReader (some .boolean)) {out : O_PatternReader_readInteger}   : ∀ n : Nat, J_PatternReader_readInteger_2 p l e s m args below meth c A D cC cI a0_0 a1_0 a1_1 a2_0 v1 out (f_PatternReader_readInteger_2 v1  n) := by
  obtain ⟨hx, hb, hml, hown, htB, ⟨hK, hN⟩, hZ, hA, hr, hlocks⟩ := id X
  intro n
  induction n with
  | zero =>
    intro v0 v2 x3 ls H locs h hl hP hD hS
    cases h
  | succ n ih =>
    intro v0 v2 x3 ls H locs h hl hP hD hS
    refine lv_iload_n hx hb d_PatternReader_readInteger_2 rfl (lv_at hl 3 rfl) ?_
    refine lv_bipush (v := 12) hx hb d_PatternReader_readInteger_3 (by decide) ?_
    refine lv_icmp_ge (tgt := 97) hx hb d_PatternReader_readInteger_5 rfl (fun hc => ?_) (fun hc => ?_)
    · have h := (if_pos hc).symm.trans h
      refine lv_iconst (v := 1) hx hb d_PatternReader_readInteger_97 (by decide) ?_
      obtain rfl := Option.some.inj h
      exact W.zret (v := (1 : Int32)) (ty := .boolean) hx hb hr rfl (fun t ht hW => ⟨⟨(1 : Int32), (), rfl, rfl, by rw [ht]; exact hP, hD⟩, hS.F ht⟩) hS.2.2 d_PatternReader_readInteger_98 hlocks
    have h := (if_neg hc).symm.trans h
    refine lv_iload_n hx hb d_PatternReader_readInteger_8 rfl (lv_at hl 3 rfl) ?_
    refine lv_if_le (tgt := 29) hx hb d_PatternReader_readInteger_9 rfl (fun hc => ?_) (fun hc => ?_)
    · have h := (if_pos hc).symm.trans h
      exact w_PatternReader_readInteger_29 X ih v0 v2 x3 ls H locs h (lv_sub hl [0, 1, 2, 3] rfl) hP hD hS
    have h := (if_neg hc).symm.trans h
    refine lv_aload_n hx hb d_PatternReader_readInteger_12 rfl (lv_at hl 1 rfl) ?_
    refine lv_aload_n hx hb d_PatternReader_readInteger_13 rfl (lv_at hl 0 rfl) ?_
    refine va_get (D := D) (ci := 5) (v := .int v0) (C := R_PatternReader) (T := F_PatternReader) (N := 1) hx hb htB in_PatternReader hown hK hP 0 rfl rfl 0 (by decide) (htB _ b_54) (fun _ h9 => h9) rfl d_PatternReader_readInteger_14 ?_
    obtain ⟨o17, ho17, h⟩ := x_bnd h
    refine x_calli (r0 := o17) (ws2 := (wd_PatternReader_readInteger cC cI a0_0 a1_0 a1_1 a2_0 v0 v1 v2)) (x_runVN (As := [.int v0]) (rest := []) X (c_Row_at l D cC cI H.size a1_0 a1_1 v1 v0 o17 ho17) b_25 1 (hN _ n_12) (htB _ b_26) (htB _ b_27) (htB _ b_22) ⟨by decide, by decide, by decide +kernel⟩ ⟨(Nat.le_of_ble_eq_true rfl), (Nat.le_of_ble_eq_true rfl)⟩ 1 rfl rfl hP hD hS [1, 2] rfl (by decide) rfl rfl hl.1 rfl rfl (Nat.le_of_ble_eq_true rfl) d_PatternReader_readInteger_17) hP hD hS hA [1, 2] [0, 3] [0, 2, 3, 1] rfl rfl (by decide) (by decide) rfl (by decide) (fun H locs hP hD hS => ?_)
    refine lv_bipush (v := 44) hx hb d_PatternReader_readInteger_20 (by decide) ?_
    refine lv_icmp_ne (tgt := 29) hx hb d_PatternReader_readInteger_22 rfl (fun hc => ?_) (fun hc => ?_)
    · have h := (if_neg hc).symm.trans h
      exact w_PatternReader_readInteger_29 X ih v0 v2 x3 ls H locs h (lv_sub hl [0, 1, 2, 3] rfl) hP hD hS
    have h := (if_pos hc).symm.trans h
    refine lv_iconst (v := 1) hx hb d_PatternReader_readInteger_25 (by decide) ?_
    refine lv_goto (tgt := 30) hx hb d_PatternReader_readInteger_26 rfl ?_
    exact w_PatternReader_readInteger_30 X ih v0 v2 x3 (1 : Int32) ls H locs h (lv_sub hl [0, 1, 2, 3] rfl) hP hD hS

def f_PatternReader_readInteger (v0 : T_PatternReader) (v1 : T_Row) (v2 : T_Shape) : Option O_PatternReader_readInteger := f_PatternReader_readInteger_2 v1 FU v0 v2 (0 : Int32)
set_option maxHeartbeats 4000000 in
set_option maxRecDepth 100000 in
theorem w_PatternReader_readInteger {p : Program} {l : Launch} {e : Env} {s : State} {m : MethodId} {args : Array Value} {below : List Frame} {meth : Method} {c : Code} {A : Nat → Prop} {D : va_G} {cC cI : ClassId} {a0_0 a1_0 a1_1 a2_0 : Nat} {v1 : T_Row} (X : xCX p s m args meth c A D cC cI b_PatternReader_readInteger 5 R_PatternReader (some .boolean)) {out : O_PatternReader_readInteger} (v0 : T_PatternReader) (v2 : T_Shape) {ls : Array Slot} {H : Heap} {locs : List Loc} (h : f_PatternReader_readInteger v0 v1 v2 = some out) (hl : lv_has ls 5 [(0, .ref a0_0), (1, .ref a1_0), (2, .ref a2_0)]) (hP : va_P D classes (wd_PatternReader_readInteger cC cI a0_0 a1_0 a1_1 a2_0 v0 v1 v2) H) (hD : va_D A (wd_PatternReader_readInteger cC cI a0_0 a1_0 a1_1 a2_0 v0 v1 v2)) (hS : va_S A s.heap H locs) : W p l e rm_PatternReader_readInteger s m args below meth c H locs 0 0 (MQ below (q_PatternReader_readInteger D cC cI a0_0 a1_0 a1_1 a2_0 v1 out A) args s 0 0 A) (F0 m 0 ls []) := by
  obtain ⟨hx, hb, hml, hown, htB, ⟨hK, hN⟩, hZ, hA, hr, hlocks⟩ := id X
  refine lv_iconst (v := 0) hx hb d_PatternReader_readInteger_0 (by decide) ?_
  refine lv_istore_n (lv' := [(3, .int (0 : Int32)), (0, .ref a0_0), (1, .ref a1_0), (2, .ref a2_0)]) hx hb d_PatternReader_readInteger_1 rfl hl (by decide) rfl (fun ls hl => ?_)
  exact w_PatternReader_readInteger_2 X FU v0 v2 (0 : Int32) ls H locs h (lv_sub hl [1, 2, 3, 0] rfl) hP hD hS

set_option maxHeartbeats 4000000 in
set_option maxRecDepth 100000 in
theorem c_PatternReader_readInteger (l : Launch) (D : va_G) (cC cI : ClassId) (sz : Nat) (a0_0 a1_0 a1_1 a2_0 : Nat) (v0 : T_PatternReader) (v1 : T_Row) (v2 : T_Shape) (out : O_PatternReader_readInteger) (h : f_PatternReader_readInteger v0 v1 v2 = some out) : Met l y_PatternReader_readInteger (.code y_PatternReader_readInteger b_PatternReader_readInteger 5 (some .boolean) :: BIG) rm_PatternReader_readInteger (va_Pc [.ref a0_0, .ref a1_0, .ref a2_0] (xPre D cC cI (wd_PatternReader_readInteger cC cI a0_0 a1_0 a1_1 a2_0 v0 v1 v2) sz)) (q_PatternReader_readInteger D cC cI a0_0 a1_0 a1_1 a2_0 v1 out (va_A (wd_PatternReader_readInteger cC cI a0_0 a1_0 a1_1 a2_0 v0 v1 v2) sz)) 0 0 (va_A (wd_PatternReader_readInteger cC cI a0_0 a1_0 a1_1 a2_0 v0 v1 v2) sz) := by
  refine Met.ofW (cc := b_PatternReader_readInteger) (maxL := 5) (ret := (some .boolean)) (by decide) rfl ?_
  intro p e s m args below meth c s₁ B hml hv
  obtain ⟨rfl, rfl, hP, hD0, hG, hZ⟩ := hv
  have hl := lv_entry [.ref a0_0, .ref a1_0, .ref a2_0] (n := 5) (Nat.le_of_ble_eq_true rfl)
  rw [lg_entry_eq]
  exact w_PatternReader_readInteger (x_cx B hml hG hZ) v0 v2 h hl hP hD0.self va_S.rf

abbrev wd_PatternReader_readFraction (cC cI : ClassId) (a0_0 a1_0 a1_1 a2_0 : Nat) (v0 : T_PatternReader) (v1 : T_Row) (v2 : T_Shape) : va_W := [(a0_0, .inr (5, [.int v0])), (a1_0, .inr (0, [.ref a1_1, .int v1.2])), (a1_1, .inl (cC, 120, .inl v1.1)), (a2_0, .inr (2, [.int v2.1, .int v2.2.1, .int v2.2.2.1, .int v2.2.2.2.1, .int v2.2.2.2.2.1, .int v2.2.2.2.2.2.1, .int v2.2.2.2.2.2.2]))]
abbrev O_PatternReader_readFraction : Type := T_PatternReader × T_Shape
abbrev q_PatternReader_readFraction (D : va_G) (cC cI : ClassId) (a0_0 a1_0 a1_1 a2_0 : Nat) (v1 : T_Row) (out : O_PatternReader_readFraction) (A : Nat → Prop) : Array Value → State → Outcome → State → Prop := va_Qv (fun _ : Unit => True) (fun _ t => va_P D classes (wd_PatternReader_readFraction cC cI a0_0 a1_0 a1_1 a2_0 out.1 v1 out.2) t.heap ∧ va_D A (wd_PatternReader_readFraction cC cI a0_0 a1_0 a1_1 a2_0 out.1 v1 out.2)) A
abbrev rm_PatternReader_readFraction : Room := { frames := 1, cells := 0, slots := 0, locals := 21 }
def J_PatternReader_readFraction_2 (p : Program) (l : Launch) (e : Env) (s : State) (m : MethodId) (args : Array Value) (below : List Frame) (meth : Method) (c : Code) (A : Nat → Prop) (D : va_G) (cC cI : ClassId) (a0_0 a1_0 a1_1 a2_0 : Nat) (v1 : T_Row) (out : O_PatternReader_readFraction) (k : T_PatternReader → T_Shape → Int32 → Option O_PatternReader_readFraction) : Prop := ∀ (v0 : T_PatternReader) (v2 : T_Shape) (x3 : Int32) (ls : Array Slot) (H : Heap) (locs : List Loc), k v0 v2 x3 = some out → lv_has ls 4 [(0, .ref a0_0), (1, .ref a1_0), (2, .ref a2_0), (3, .int x3)] → va_P D classes (wd_PatternReader_readFraction cC cI a0_0 a1_0 a1_1 a2_0 v0 v1 v2) H → va_D A (wd_PatternReader_readFraction cC cI a0_0 a1_0 a1_1 a2_0 v0 v1 v2) → va_S A s.heap H locs → W p l e rm_PatternReader_readFraction s m args below meth c H locs 0 0 (MQ below (q_PatternReader_readFraction D cC cI a0_0 a1_0 a1_1 a2_0 v1 out A) args s 0 0 A) (F0 m 2 ls [])
def f_PatternReader_readFraction_2 (v1 : T_Row)  : Nat → T_PatternReader → T_Shape → Int32 → Option O_PatternReader_readFraction
  | 0, _, _, _ => none
  | n + 1, v0, v2, x3 => (if (9 : Int32) ≤ x3 then some (v0, v2) else (f_Row_at v1 v0).bind (fun o14 => (f_Shape_takeFraction v2 o14).bind (fun o17 => (if o17.1 = 0 then some (v0, o17.2) else (f_PatternReader_readFraction_2 v1 n) (v0 + (1 : Int32)) o17.2 (x3 + (1 : Int32))))))
set_option maxHeartbeats 4000000 in
set_option maxRecDepth 100000 in
theorem w_PatternReader_readFraction_2 {p : Program} {l : Launch} {e : Env} {s : State} {m : MethodId} {args : Array Value} {below : List Frame} {meth : Method} {c : Code} {A : Nat → Prop} {D : va_G} {cC cI : ClassId} {a0_0 a1_0 a1_1 a2_0 : Nat} {v1 : T_Row} (X : xCX p s m args meth c A D cC cI b_PatternReader_readFraction 4 R_PatternReader none) {out : O_PatternReader_readFraction}   : ∀ n : Nat, J_PatternReader_readFraction_2 p l e s m args below meth c A D cC cI a0_0 a1_0 a1_1 a2_0 v1 out (f_PatternReader_readFraction_2 v1  n) := by
  obtain ⟨hx, hb, hml, hown, htB, ⟨hK, hN⟩, hZ, hA, hr, hlocks⟩ := id X
  intro n
  induction n with
  | zero =>
    intro v0 v2 x3 ls H locs h hl hP hD hS
    cases h
  | succ n ih =>
    intro v0 v2 x3 ls H locs h hl hP hD hS
    refine lv_iload_n hx hb d_PatternReader_readFraction_2 rfl (lv_at hl 3 rfl) ?_
    refine lv_bipush (v := 9) hx hb d_PatternReader_readFraction_3 (by decide) ?_
    refine lv_icmp_ge (tgt := 40) hx hb d_PatternReader_readFraction_5 rfl (fun hc => ?_) (fun hc => ?_)
    · have h := (if_pos hc).symm.trans h
      obtain rfl := Option.some.inj h
      exact W.vret hx hb hr (fun t ht hW => ⟨⟨(), rfl, trivial, by rw [ht]; exact hP, hD⟩, hS.F ht⟩) hS.2.2 d_PatternReader_readFraction_40 hlocks
    have h := (if_neg hc).symm.trans h
    refine lv_aload_n hx hb d_PatternReader_readFraction_8 rfl (lv_at hl 2 rfl) ?_
    refine lv_aload_n hx hb d_PatternReader_readFraction_9 rfl (lv_at hl 1 rfl) ?_
    refine lv_aload_n hx hb d_PatternReader_readFraction_10 rfl (lv_at hl 0 rfl) ?_
    refine va_get (D := D) (ci := 5) (v := .int v0) (C := R_PatternReader) (T := F_PatternReader) (N := 1) hx hb htB in_PatternReader hown hK hP 0 rfl rfl 0 (by decide) (htB _ b_54) (fun _ h9 => h9) rfl d_PatternReader_readFraction_11 ?_
    obtain ⟨o14, ho14, h⟩ := x_bnd h
    refine x_calli (r0 := o14) (ws2 := (wd_PatternReader_readFraction cC cI a0_0 a1_0 a1_1 a2_0 v0 v1 v2)) (x_runVN (As := [.int v0]) (rest := [.ref a2_0]) X (c_Row_at l D cC cI H.size a1_0 a1_1 v1 v0 o14 ho14) b_25 1 (hN _ n_12) (htB _ b_26) (htB _ b_27) (htB _ b_22) ⟨by decide, by decide, by decide +kernel⟩ ⟨(Nat.le_of_ble_eq_true rfl), (Nat.le_of_ble_eq_true rfl)⟩ 1 rfl rfl hP hD hS [1, 2] rfl (by decide) rfl rfl hl.1 rfl rfl (Nat.le_of_ble_eq_true rfl) d_PatternReader_readFraction_14) hP hD hS hA [1, 2] [0, 3] [0, 2, 3, 1] rfl rfl (by decide) (by decide) rfl (by decide) (fun H locs hP hD hS => ?_)
    obtain ⟨o17, ho17, h⟩ := x_bnd h
    refine x_calli (r0 := o17.1) (ws2 := (wd_PatternReader_readFraction cC cI a0_0 a1_0 a1_1 a2_0 v0 v1 o17.2)) (x_runVN (As := [.int o14]) (rest := []) X (c_Shape_takeFraction l D cC cI H.size a2_0 v2 o14 o17 ho17) b_65 1 (hN _ n_17) (htB _ b_66) (htB _ b_67) (htB _ b_59) ⟨by decide, by decide, by decide +kernel⟩ ⟨(Nat.le_of_ble_eq_true rfl), (Nat.le_of_ble_eq_true rfl)⟩ 3 rfl rfl hP hD hS [3] rfl (by decide) rfl rfl hl.1 rfl rfl (Nat.le_of_ble_eq_true rfl) d_PatternReader_readFraction_17) hP hD hS hA [3] [0, 1, 2] [0, 1, 2, 3] rfl rfl (by decide) (by decide) rfl (by decide) (fun H locs hP hD hS => ?_)
    refine lv_if_ne (tgt := 24) hx hb d_PatternReader_readFraction_20 rfl (fun hc => ?_) (fun hc => ?_)
    · have h := (if_neg hc).symm.trans h
      refine lv_aload_n hx hb d_PatternReader_readFraction_24 rfl (lv_at hl 0 rfl) ?_
      refine lv_dup hx hb d_PatternReader_readFraction_25 rfl ?_
      refine va_get (D := D) (ci := 5) (v := .int v0) (C := R_PatternReader) (T := F_PatternReader) (N := 1) hx hb htB in_PatternReader hown hK hP 0 rfl rfl 0 (by decide) (htB _ b_54) (fun _ h9 => h9) rfl d_PatternReader_readFraction_26 ?_
      refine lv_iconst (v := 1) hx hb d_PatternReader_readFraction_29 (by decide) ?_
      refine lv_iadd hx hb d_PatternReader_readFraction_30 ?_
      refine va_put (D := D) (ci := 5) (v := .int (v0 + (1 : Int32))) (ty := .int) (C := R_PatternReader) (T := F_PatternReader) (N := 1) hx hb htB in_PatternReader t_PatternReader t_PatternReader_ok n_PatternReader hown hK hP hD hS 0 rfl rfl 0 (by decide) (htB _ b_54) (fun _ h9 => h9) rfl (by decide +kernel) rfl rfl (Nat.le_of_ble_eq_true rfl) d_PatternReader_readFraction_31 (fun H locs hP hD hS => ?_)
      have hP : va_P D classes (wd_PatternReader_readFraction cC cI a0_0 a1_0 a1_1 a2_0 (v0 + (1 : Int32)) v1 o17.2) H := hP
      have hD : va_D A (wd_PatternReader_readFraction cC cI a0_0 a1_0 a1_1 a2_0 (v0 + (1 : Int32)) v1 o17.2) := hD
      refine lv_iinc (k := 3) (v := (x3 + (1 : Int32))) (lv' := [(3, .int (x3 + (1 : Int32))), (0, .ref a0_0), (1, .ref a1_0), (2, .ref a2_0)]) hx hb d_PatternReader_readFraction_34 hl rfl (congrArg (fun z => x3 + z) (by decide : Int32.ofInt 1 = (1 : Int32))) (by decide) rfl (fun ls hl => ?_)
      refine lv_goto (tgt := 2) hx hb d_PatternReader_readFraction_37 rfl ?_
      exact ih (v0 + (1 : Int32)) o17.2 (x3 + (1 : Int32)) ls H locs h (lv_sub hl [1, 2, 3, 0] rfl) hP hD hS
    have h := (if_pos hc).symm.trans h
    obtain rfl := Option.some.inj h
    exact W.vret hx hb hr (fun t ht hW => ⟨⟨(), rfl, trivial, by rw [ht]; exact hP, hD⟩, hS.F ht⟩) hS.2.2 d_PatternReader_readFraction_23 hlocks

def f_PatternReader_readFraction (v0 : T_PatternReader) (v1 : T_Row) (v2 : T_Shape) : Option O_PatternReader_readFraction := f_PatternReader_readFraction_2 v1 FU v0 v2 (0 : Int32)
set_option maxHeartbeats 4000000 in
set_option maxRecDepth 100000 in
theorem w_PatternReader_readFraction {p : Program} {l : Launch} {e : Env} {s : State} {m : MethodId} {args : Array Value} {below : List Frame} {meth : Method} {c : Code} {A : Nat → Prop} {D : va_G} {cC cI : ClassId} {a0_0 a1_0 a1_1 a2_0 : Nat} {v1 : T_Row} (X : xCX p s m args meth c A D cC cI b_PatternReader_readFraction 4 R_PatternReader none) {out : O_PatternReader_readFraction} (v0 : T_PatternReader) (v2 : T_Shape) {ls : Array Slot} {H : Heap} {locs : List Loc} (h : f_PatternReader_readFraction v0 v1 v2 = some out) (hl : lv_has ls 4 [(0, .ref a0_0), (1, .ref a1_0), (2, .ref a2_0)]) (hP : va_P D classes (wd_PatternReader_readFraction cC cI a0_0 a1_0 a1_1 a2_0 v0 v1 v2) H) (hD : va_D A (wd_PatternReader_readFraction cC cI a0_0 a1_0 a1_1 a2_0 v0 v1 v2)) (hS : va_S A s.heap H locs) : W p l e rm_PatternReader_readFraction s m args below meth c H locs 0 0 (MQ below (q_PatternReader_readFraction D cC cI a0_0 a1_0 a1_1 a2_0 v1 out A) args s 0 0 A) (F0 m 0 ls []) := by
  obtain ⟨hx, hb, hml, hown, htB, ⟨hK, hN⟩, hZ, hA, hr, hlocks⟩ := id X
  refine lv_iconst (v := 0) hx hb d_PatternReader_readFraction_0 (by decide) ?_
  refine lv_istore_n (lv' := [(3, .int (0 : Int32)), (0, .ref a0_0), (1, .ref a1_0), (2, .ref a2_0)]) hx hb d_PatternReader_readFraction_1 rfl hl (by decide) rfl (fun ls hl => ?_)
  exact w_PatternReader_readFraction_2 X FU v0 v2 (0 : Int32) ls H locs h (lv_sub hl [1, 2, 3, 0] rfl) hP hD hS

set_option maxHeartbeats 4000000 in
set_option maxRecDepth 100000 in
theorem c_PatternReader_readFraction (l : Launch) (D : va_G) (cC cI : ClassId) (sz : Nat) (a0_0 a1_0 a1_1 a2_0 : Nat) (v0 : T_PatternReader) (v1 : T_Row) (v2 : T_Shape) (out : O_PatternReader_readFraction) (h : f_PatternReader_readFraction v0 v1 v2 = some out) : Met l y_PatternReader_readFraction (.code y_PatternReader_readFraction b_PatternReader_readFraction 4 none :: BIG) rm_PatternReader_readFraction (va_Pc [.ref a0_0, .ref a1_0, .ref a2_0] (xPre D cC cI (wd_PatternReader_readFraction cC cI a0_0 a1_0 a1_1 a2_0 v0 v1 v2) sz)) (q_PatternReader_readFraction D cC cI a0_0 a1_0 a1_1 a2_0 v1 out (va_A (wd_PatternReader_readFraction cC cI a0_0 a1_0 a1_1 a2_0 v0 v1 v2) sz)) 0 0 (va_A (wd_PatternReader_readFraction cC cI a0_0 a1_0 a1_1 a2_0 v0 v1 v2) sz) := by
  refine Met.ofW (cc := b_PatternReader_readFraction) (maxL := 4) (ret := none) (by decide) rfl ?_
  intro p e s m args below meth c s₁ B hml hv
  obtain ⟨rfl, rfl, hP, hD0, hG, hZ⟩ := hv
  have hl := lv_entry [.ref a0_0, .ref a1_0, .ref a2_0] (n := 4) (Nat.le_of_ble_eq_true rfl)
  rw [lg_entry_eq]
  exact w_PatternReader_readFraction (x_cx B hml hG hZ) v0 v2 h hl hP hD0.self va_S.rf

abbrev wd_PatternReader_readExponent (cC cI : ClassId) (a0_0 a1_0 a1_1 a2_0 : Nat) (v0 : T_PatternReader) (v1 : T_Row) (v2 : T_Shape) : va_W := [(a0_0, .inr (5, [.int v0])), (a1_0, .inr (0, [.ref a1_1, .int v1.2])), (a1_1, .inl (cC, 120, .inl v1.1)), (a2_0, .inr (2, [.int v2.1, .int v2.2.1, .int v2.2.2.1, .int v2.2.2.2.1, .int v2.2.2.2.2.1, .int v2.2.2.2.2.2.1, .int v2.2.2.2.2.2.2]))]
abbrev O_PatternReader_readExponent : Type := Int32 × T_PatternReader × T_Shape
abbrev q_PatternReader_readExponent (D : va_G) (cC cI : ClassId) (a0_0 a1_0 a1_1 a2_0 : Nat) (v1 : T_Row) (out : O_PatternReader_readExponent) (A : Nat → Prop) : Array Value → State → Outcome → State → Prop := va_Qi (fun r (_ : Unit) => r = out.1) (fun _ t => va_P D classes (wd_PatternReader_readExponent cC cI a0_0 a1_0 a1_1 a2_0 out.2.1 v1 out.2.2) t.heap ∧ va_D A (wd_PatternReader_readExponent cC cI a0_0 a1_0 a1_1 a2_0 out.2.1 v1 out.2.2)) A
abbrev rm_PatternReader_readExponent : Room := { frames := 1, cells := 0, slots := 0, locals := 21 }
def J_PatternReader_readExponent_0 (p : Program) (l : Launch) (e : Env) (s : State) (m : MethodId) (args : Array Value) (below : List Frame) (meth : Method) (c : Code) (A : Nat → Prop) (D : va_G) (cC cI : ClassId) (a0_0 a1_0 a1_1 a2_0 : Nat) (v1 : T_Row) (out : O_PatternReader_readExponent) (k : T_PatternReader → T_Shape → Option O_PatternReader_readExponent) : Prop := ∀ (v0 : T_PatternReader) (v2 : T_Shape) (ls : Array Slot) (H : Heap) (locs : List Loc), k v0 v2 = some out → lv_has ls 3 [(0, .ref a0_0), (1, .ref a1_0), (2, .ref a2_0)] → va_P D classes (wd_PatternReader_readExponent cC cI a0_0 a1_0 a1_1 a2_0 v0 v1 v2) H → va_D A (wd_PatternReader_readExponent cC cI a0_0 a1_0 a1_1 a2_0 v0 v1 v2) → va_S A s.heap H locs → W p l e rm_PatternReader_readExponent s m args below meth c H locs 0 0 (MQ below (q_PatternReader_readExponent D cC cI a0_0 a1_0 a1_1 a2_0 v1 out A) args s 0 0 A) (F0 m 0 ls [])
def J_PatternReader_readExponent_44 (p : Program) (l : Launch) (e : Env) (s : State) (m : MethodId) (args : Array Value) (below : List Frame) (meth : Method) (c : Code) (A : Nat → Prop) (D : va_G) (cC cI : ClassId) (a0_0 a1_0 a1_1 a2_0 : Nat) (v1 : T_Row) (out : O_PatternReader_readExponent) (k : T_PatternReader → T_Shape → Option O_PatternReader_readExponent) : Prop := ∀ (v0 : T_PatternReader) (v2 : T_Shape) (ls : Array Slot) (H : Heap) (locs : List Loc), k v0 v2 = some out → lv_has ls 3 [(2, .ref a2_0)] → va_P D classes (wd_PatternReader_readExponent cC cI a0_0 a1_0 a1_1 a2_0 v0 v1 v2) H → va_D A (wd_PatternReader_readExponent cC cI a0_0 a1_0 a1_1 a2_0 v0 v1 v2) → va_S A s.heap H locs → W p l e rm_PatternReader_readExponent s m args below meth c H locs 0 0 (MQ below (q_PatternReader_readExponent D cC cI a0_0 a1_0 a1_1 a2_0 v1 out A) args s 0 0 A) (F0 m 44 ls [])
def J_PatternReader_readExponent_56 (p : Program) (l : Launch) (e : Env) (s : State) (m : MethodId) (args : Array Value) (below : List Frame) (meth : Method) (c : Code) (A : Nat → Prop) (D : va_G) (cC cI : ClassId) (a0_0 a1_0 a1_1 a2_0 : Nat) (v1 : T_Row) (out : O_PatternReader_readExponent) (k : T_PatternReader → T_Shape → Int32 → Option O_PatternReader_readExponent) : Prop := ∀ (v0 : T_PatternReader) (v2 : T_Shape) (s0 : Int32) (ls : Array Slot) (H : Heap) (locs : List Loc), k v0 v2 s0 = some out → lv_has ls 3 [] → va_P D classes (wd_PatternReader_readExponent cC cI a0_0 a1_0 a1_1 a2_0 v0 v1 v2) H → va_D A (wd_PatternReader_readExponent cC cI a0_0 a1_0 a1_1 a2_0 v0 v1 v2) → va_S A s.heap H locs → W p l e rm_PatternReader_readExponent s m args below meth c H locs 0 0 (MQ below (q_PatternReader_readExponent D cC cI a0_0 a1_0 a1_1 a2_0 v1 out A) args s 0 0 A) (F0 m 56 ls [.int s0])
def f_PatternReader_readExponent_56 (v1 : T_Row) (v0 : T_PatternReader) (v2 : T_Shape) (s0 : Int32) : Option O_PatternReader_readExponent := if (s0 = 0 ∨ s0 = 1) then some (s0, v0, v2) else none
set_option maxHeartbeats 4000000 in
set_option maxRecDepth 100000 in
theorem w_PatternReader_readExponent_56 {p : Program} {l : Launch} {e : Env} {s : State} {m : MethodId} {args : Array Value} {below : List Frame} {meth : Method} {c : Code} {A : Nat → Prop} {D : va_G} {cC cI : ClassId} {a0_0 a1_0 a1_1 a2_0 : Nat} {v1 : T_Row} (X : xCX p s m args meth c A D cC cI b_PatternReader_readExponent 3 R_PatternReader (some .boolean)) {out : O_PatternReader_readExponent}   : J_PatternReader_readExponent_56 p l e s m args below meth c A D cC cI a0_0 a1_0 a1_1 a2_0 v1 out (f_PatternReader_readExponent_56 v1 ) := by
  obtain ⟨hx, hb, hml, hown, htB, ⟨hK, hN⟩, hZ, hA, hr, hlocks⟩ := id X
  intro v0 v2 s0 ls H locs h hl hP hD hS
  obtain ⟨hc, h⟩ := x_chk h
  obtain rfl := Option.some.inj h
  exact W.zret (v := s0) (ty := .boolean) hx hb hr (x_zn hc) (fun t ht hW => ⟨⟨s0, (), rfl, rfl, by rw [ht]; exact hP, hD⟩, hS.F ht⟩) hS.2.2 d_PatternReader_readExponent_56 hlocks

def f_PatternReader_readExponent_44 (v1 : T_Row) (v0 : T_PatternReader) (v2 : T_Shape) : Option O_PatternReader_readExponent := (if v2.2.2.2.2.2.2 ≤ 0 then f_PatternReader_readExponent_56 v1 v0 v2 (0 : Int32) else f_PatternReader_readExponent_56 v1 v0 v2 (1 : Int32))
set_option maxHeartbeats 4000000 in
set_option maxRecDepth 100000 in
theorem w_PatternReader_readExponent_44 {p : Program} {l : Launch} {e : Env} {s : State} {m : MethodId} {args : Array Value} {below : List Frame} {meth : Method} {c : Code} {A : Nat → Prop} {D : va_G} {cC cI : ClassId} {a0_0 a1_0 a1_1 a2_0 : Nat} {v1 : T_Row} (X : xCX p s m args meth c A D cC cI b_PatternReader_readExponent 3 R_PatternReader (some .boolean)) {out : O_PatternReader_readExponent}   : J_PatternReader_readExponent_44 p l e s m args below meth c A D cC cI a0_0 a1_0 a1_1 a2_0 v1 out (f_PatternReader_readExponent_44 v1 ) := by
  obtain ⟨hx, hb, hml, hown, htB, ⟨hK, hN⟩, hZ, hA, hr, hlocks⟩ := id X
  intro v0 v2 ls H locs h hl hP hD hS
  refine lv_aload_n hx hb d_PatternReader_readExponent_44 rfl (lv_at hl 0 rfl) ?_
  refine va_getN (D := D) (ci := 2) (v := .int v2.2.2.2.2.2.2) (C := R_Shape) (T := F_Shape) (N := 7) hx hb htB in_Shape hown hK hP 3 rfl rfl 6 (by decide) (va_Nw.use rfl (hN _ n_18)) (fun _ h9 => h9) rfl d_PatternReader_readExponent_45 ?_
  refine lv_if_le (tgt := 55) hx hb d_PatternReader_readExponent_48 rfl (fun hc => ?_) (fun hc => ?_)
  · have h := (if_pos hc).symm.trans h
    refine lv_iconst (v := 0) hx hb d_PatternReader_readExponent_55 (by decide) ?_
    exact w_PatternReader_readExponent_56 X v0 v2 (0 : Int32) ls H locs h (lv_sub hl [] rfl) hP hD hS
  have h := (if_neg hc).symm.trans h
  refine lv_iconst (v := 1) hx hb d_PatternReader_readExponent_51 (by decide) ?_
  refine lv_goto (tgt := 56) hx hb d_PatternReader_readExponent_52 rfl ?_
  exact w_PatternReader_readExponent_56 X v0 v2 (1 : Int32) ls H locs h (lv_sub hl [] rfl) hP hD hS

def f_PatternReader_readExponent_0 (v1 : T_Row)  : Nat → T_PatternReader → T_Shape → Option O_PatternReader_readExponent
  | 0, _, _ => none
  | n + 1, v0, v2 => (if (3 : Int32) ≤ v2.2.2.2.2.2.2 then f_PatternReader_readExponent_44 v1 v0 v2 else (f_Row_at v1 v0).bind (fun o13 => (if o13 = (48 : Int32) then (f_PatternReader_readExponent_0 v1 n) (v0 + (1 : Int32)) (v2.1, v2.2.1, v2.2.2.1, v2.2.2.2.1, v2.2.2.2.2.1, v2.2.2.2.2.2.1, (v2.2.2.2.2.2.2 + (1 : Int32))) else f_PatternReader_readExponent_44 v1 v0 v2)))
set_option maxHeartbeats 4000000 in
set_option maxRecDepth 100000 in
theorem w_PatternReader_readExponent_0 {p : Program} {l : Launch} {e : Env} {s : State} {m : MethodId} {args : Array Value} {below : List Frame} {meth : Method} {c : Code} {A : Nat → Prop} {D : va_G} {cC cI : ClassId} {a0_0 a1_0 a1_1 a2_0 : Nat} {v1 : T_Row} (X : xCX p s m args meth c A D cC cI b_PatternReader_readExponent 3 R_PatternReader (some .boolean)) {out : O_PatternReader_readExponent}   : ∀ n : Nat, J_PatternReader_readExponent_0 p l e s m args below meth c A D cC cI a0_0 a1_0 a1_1 a2_0 v1 out (f_PatternReader_readExponent_0 v1  n) := by
  obtain ⟨hx, hb, hml, hown, htB, ⟨hK, hN⟩, hZ, hA, hr, hlocks⟩ := id X
  intro n
  induction n with
  | zero =>
    intro v0 v2 ls H locs h hl hP hD hS
    cases h
  | succ n ih =>
    intro v0 v2 ls H locs h hl hP hD hS
    refine lv_aload_n hx hb d_PatternReader_readExponent_0 rfl (lv_at hl 2 rfl) ?_
    refine va_getN (D := D) (ci := 2) (v := .int v2.2.2.2.2.2.2) (C := R_Shape) (T := F_Shape) (N := 7) hx hb htB in_Shape hown hK hP 3 rfl rfl 6 (by decide) (va_Nw.use rfl (hN _ n_18)) (fun _ h9 => h9) rfl d_PatternReader_readExponent_1 ?_
    refine lv_iconst (v := 3) hx hb d_PatternReader_readExponent_4 (by decide) ?_
    refine lv_icmp_ge (tgt := 44) hx hb d_PatternReader_readExponent_5 rfl (fun hc => ?_) (fun hc => ?_)
    · have h := (if_pos hc).symm.trans h
      exact w_PatternReader_readExponent_44 X v0 v2 ls H locs h (lv_sub hl [2] rfl) hP hD hS
    have h := (if_neg hc).symm.trans h
    refine lv_aload_n hx hb d_PatternReader_readExponent_8 rfl (lv_at hl 1 rfl) ?_
    refine lv_aload_n hx hb d_PatternReader_readExponent_9 rfl (lv_at hl 0 rfl) ?_
    refine va_get (D := D) (ci := 5) (v := .int v0) (C := R_PatternReader) (T := F_PatternReader) (N := 1) hx hb htB in_PatternReader hown hK hP 0 rfl rfl 0 (by decide) (htB _ b_54) (fun _ h9 => h9) rfl d_PatternReader_readExponent_10 ?_
    obtain ⟨o13, ho13, h⟩ := x_bnd h
    refine x_calli (r0 := o13) (ws2 := (wd_PatternReader_readExponent cC cI a0_0 a1_0 a1_1 a2_0 v0 v1 v2)) (x_runVN (As := [.int v0]) (rest := []) X (c_Row_at l D cC cI H.size a1_0 a1_1 v1 v0 o13 ho13) b_25 1 (hN _ n_12) (htB _ b_26) (htB _ b_27) (htB _ b_22) ⟨by decide, by decide, by decide +kernel⟩ ⟨(Nat.le_of_ble_eq_true rfl), (Nat.le_of_ble_eq_true rfl)⟩ 1 rfl rfl hP hD hS [1, 2] rfl (by decide) rfl rfl hl.1 rfl rfl (Nat.le_of_ble_eq_true rfl) d_PatternReader_readExponent_13) hP hD hS hA [1, 2] [0, 3] [0, 2, 3, 1] rfl rfl (by decide) (by decide) rfl (by decide) (fun H locs hP hD hS => ?_)
    refine lv_bipush (v := 48) hx hb d_PatternReader_readExponent_16 (by decide) ?_
    refine lv_icmp_ne (tgt := 44) hx hb d_PatternReader_readExponent_18 rfl (fun hc => ?_) (fun hc => ?_)
    · have h := (if_neg hc).symm.trans h
      exact w_PatternReader_readExponent_44 X v0 v2 ls H locs h (lv_sub hl [2] rfl) hP hD hS
    have h := (if_pos hc).symm.trans h
    refine lv_aload_n hx hb d_PatternReader_readExponent_21 rfl (lv_at hl 2 rfl) ?_
    refine lv_dup hx hb d_PatternReader_readExponent_22 rfl ?_
    refine va_getN (D := D) (ci := 2) (v := .int v2.2.2.2.2.2.2) (C := R_Shape) (T := F_Shape) (N := 7) hx hb htB in_Shape hown hK hP 3 rfl rfl 6 (by decide) (va_Nw.use rfl (hN _ n_18)) (fun _ h9 => h9) rfl d_PatternReader_readExponent_23 ?_
    refine lv_iconst (v := 1) hx hb d_PatternReader_readExponent_26 (by decide) ?_
    refine lv_iadd hx hb d_PatternReader_readExponent_27 ?_
    refine va_putN (D := D) (ci := 2) (v := .int (v2.2.2.2.2.2.2 + (1 : Int32))) (ty := .int) (C := R_Shape) (T := F_Shape) (N := 7) hx hb htB in_Shape t_Shape t_Shape_ok n_Shape hown hK hP hD hS 3 rfl rfl 6 (by decide) (va_Nw.use rfl (hN _ n_18)) (fun _ h9 => h9) rfl (by decide +kernel) rfl rfl (Nat.le_of_ble_eq_true rfl) d_PatternReader_readExponent_28 (fun H locs hP hD hS => ?_)
    have hP : va_P D classes (wd_PatternReader_readExponent cC cI a0_0 a1_0 a1_1 a2_0 v0 v1 (v2.1, v2.2.1, v2.2.2.1, v2.2.2.2.1, v2.2.2.2.2.1, v2.2.2.2.2.2.1, (v2.2.2.2.2.2.2 + (1 : Int32)))) H := hP
    have hD : va_D A (wd_PatternReader_readExponent cC cI a0_0 a1_0 a1_1 a2_0 v0 v1 (v2.1, v2.2.1, v2.2.2.1, v2.2.2.2.1, v2.2.2.2.2.1, v2.2.2.2.2.2.1, (v2.2.2.2.2.2.2 + (1 : Int32)))) := hD
    refine lv_aload_n hx hb d_PatternReader_readExponent_31 rfl (lv_at hl 0 rfl) ?_
    refine lv_dup hx hb d_PatternReader_readExponent_32 rfl ?_
    refine va_get (D := D) (ci := 5) (v := .int v0) (C := R_PatternReader) (T := F_PatternReader) (N := 1) hx hb htB in_PatternReader hown hK hP 0 rfl rfl 0 (by decide) (htB _ b_54) (fun _ h9 => h9) rfl d_PatternReader_readExponent_33 ?_
    refine lv_iconst (v := 1) hx hb d_PatternReader_readExponent_36 (by decide) ?_
    refine lv_iadd hx hb d_PatternReader_readExponent_37 ?_
    refine va_put (D := D) (ci := 5) (v := .int (v0 + (1 : Int32))) (ty := .int) (C := R_PatternReader) (T := F_PatternReader) (N := 1) hx hb htB in_PatternReader t_PatternReader t_PatternReader_ok n_PatternReader hown hK hP hD hS 0 rfl rfl 0 (by decide) (htB _ b_54) (fun _ h9 => h9) rfl (by decide +kernel) rfl rfl (Nat.le_of_ble_eq_true rfl) d_PatternReader_readExponent_38 (fun H locs hP hD hS => ?_)
    have hP : va_P D classes (wd_PatternReader_readExponent cC cI a0_0 a1_0 a1_1 a2_0 (v0 + (1 : Int32)) v1 (v2.1, v2.2.1, v2.2.2.1, v2.2.2.2.1, v2.2.2.2.2.1, v2.2.2.2.2.2.1, (v2.2.2.2.2.2.2 + (1 : Int32)))) H := hP
    have hD : va_D A (wd_PatternReader_readExponent cC cI a0_0 a1_0 a1_1 a2_0 (v0 + (1 : Int32)) v1 (v2.1, v2.2.1, v2.2.2.1, v2.2.2.2.1, v2.2.2.2.2.1, v2.2.2.2.2.2.1, (v2.2.2.2.2.2.2 + (1 : Int32)))) := hD
    refine lv_goto (tgt := 0) hx hb d_PatternReader_readExponent_41 rfl ?_
    exact ih (v0 + (1 : Int32)) (v2.1, v2.2.1, v2.2.2.1, v2.2.2.2.1, v2.2.2.2.2.1, v2.2.2.2.2.2.1, (v2.2.2.2.2.2.2 + (1 : Int32))) ls H locs h (lv_sub hl [0, 1, 2] rfl) hP hD hS

def f_PatternReader_readExponent (v0 : T_PatternReader) (v1 : T_Row) (v2 : T_Shape) : Option O_PatternReader_readExponent := f_PatternReader_readExponent_0 v1 FU v0 v2
set_option maxHeartbeats 4000000 in
set_option maxRecDepth 100000 in
theorem w_PatternReader_readExponent {p : Program} {l : Launch} {e : Env} {s : State} {m : MethodId} {args : Array Value} {below : List Frame} {meth : Method} {c : Code} {A : Nat → Prop} {D : va_G} {cC cI : ClassId} {a0_0 a1_0 a1_1 a2_0 : Nat} {v1 : T_Row} (X : xCX p s m args meth c A D cC cI b_PatternReader_readExponent 3 R_PatternReader (some .boolean)) {out : O_PatternReader_readExponent} (v0 : T_PatternReader) (v2 : T_Shape) {ls : Array Slot} {H : Heap} {locs : List Loc} (h : f_PatternReader_readExponent v0 v1 v2 = some out) (hl : lv_has ls 3 [(0, .ref a0_0), (1, .ref a1_0), (2, .ref a2_0)]) (hP : va_P D classes (wd_PatternReader_readExponent cC cI a0_0 a1_0 a1_1 a2_0 v0 v1 v2) H) (hD : va_D A (wd_PatternReader_readExponent cC cI a0_0 a1_0 a1_1 a2_0 v0 v1 v2)) (hS : va_S A s.heap H locs) : W p l e rm_PatternReader_readExponent s m args below meth c H locs 0 0 (MQ below (q_PatternReader_readExponent D cC cI a0_0 a1_0 a1_1 a2_0 v1 out A) args s 0 0 A) (F0 m 0 ls []) := by
  obtain ⟨hx, hb, hml, hown, htB, ⟨hK, hN⟩, hZ, hA, hr, hlocks⟩ := id X
  exact w_PatternReader_readExponent_0 X FU v0 v2 ls H locs h (lv_sub hl [0, 1, 2] rfl) hP hD hS

set_option maxHeartbeats 4000000 in
set_option maxRecDepth 100000 in
theorem c_PatternReader_readExponent (l : Launch) (D : va_G) (cC cI : ClassId) (sz : Nat) (a0_0 a1_0 a1_1 a2_0 : Nat) (v0 : T_PatternReader) (v1 : T_Row) (v2 : T_Shape) (out : O_PatternReader_readExponent) (h : f_PatternReader_readExponent v0 v1 v2 = some out) : Met l y_PatternReader_readExponent (.code y_PatternReader_readExponent b_PatternReader_readExponent 3 (some .boolean) :: BIG) rm_PatternReader_readExponent (va_Pc [.ref a0_0, .ref a1_0, .ref a2_0] (xPre D cC cI (wd_PatternReader_readExponent cC cI a0_0 a1_0 a1_1 a2_0 v0 v1 v2) sz)) (q_PatternReader_readExponent D cC cI a0_0 a1_0 a1_1 a2_0 v1 out (va_A (wd_PatternReader_readExponent cC cI a0_0 a1_0 a1_1 a2_0 v0 v1 v2) sz)) 0 0 (va_A (wd_PatternReader_readExponent cC cI a0_0 a1_0 a1_1 a2_0 v0 v1 v2) sz) := by
  refine Met.ofW (cc := b_PatternReader_readExponent) (maxL := 3) (ret := (some .boolean)) (by decide) rfl ?_
  intro p e s m args below meth c s₁ B hml hv
  obtain ⟨rfl, rfl, hP, hD0, hG, hZ⟩ := hv
  have hl := lv_entry [.ref a0_0, .ref a1_0, .ref a2_0] (n := 3) (Nat.le_of_ble_eq_true rfl)
  rw [lg_entry_eq]
  exact w_PatternReader_readExponent (x_cx B hml hG hZ) v0 v2 h hl hP hD0.self va_S.rf

abbrev wd_PatternReader_readNumber (cC cI : ClassId) (a0_0 a1_0 a1_1 a2_0 : Nat) (v0 : T_PatternReader) (v1 : T_Row) (v2 : T_Shape) : va_W := [(a0_0, .inr (5, [.int v0])), (a1_0, .inr (0, [.ref a1_1, .int v1.2])), (a1_1, .inl (cC, 120, .inl v1.1)), (a2_0, .inr (2, [.int v2.1, .int v2.2.1, .int v2.2.2.1, .int v2.2.2.2.1, .int v2.2.2.2.2.1, .int v2.2.2.2.2.2.1, .int v2.2.2.2.2.2.2]))]
abbrev O_PatternReader_readNumber : Type := Int32 × T_PatternReader × T_Shape
abbrev q_PatternReader_readNumber (D : va_G) (cC cI : ClassId) (a0_0 a1_0 a1_1 a2_0 : Nat) (v1 : T_Row) (out : O_PatternReader_readNumber) (A : Nat → Prop) : Array Value → State → Outcome → State → Prop := va_Qi (fun r (_ : Unit) => r = out.1) (fun _ t => va_P D classes (wd_PatternReader_readNumber cC cI a0_0 a1_0 a1_1 a2_0 out.2.1 v1 out.2.2) t.heap ∧ va_D A (wd_PatternReader_readNumber cC cI a0_0 a1_0 a1_1 a2_0 out.2.1 v1 out.2.2)) A
abbrev rm_PatternReader_readNumber : Room := { frames := 2, cells := 0, slots := 0, locals := 45 }
def J_PatternReader_readNumber_44 (p : Program) (l : Launch) (e : Env) (s : State) (m : MethodId) (args : Array Value) (below : List Frame) (meth : Method) (c : Code) (A : Nat → Prop) (D : va_G) (cC cI : ClassId) (a0_0 a1_0 a1_1 a2_0 : Nat) (v1 : T_Row) (out : O_PatternReader_readNumber) (k : T_PatternReader → T_Shape → Option O_PatternReader_readNumber) : Prop := ∀ (v0 : T_PatternReader) (v2 : T_Shape) (ls : Array Slot) (H : Heap) (locs : List Loc), k v0 v2 = some out → lv_has ls 3 [(0, .ref a0_0), (1, .ref a1_0), (2, .ref a2_0)] → va_P D classes (wd_PatternReader_readNumber cC cI a0_0 a1_0 a1_1 a2_0 v0 v1 v2) H → va_D A (wd_PatternReader_readNumber cC cI a0_0 a1_0 a1_1 a2_0 v0 v1 v2) → va_S A s.heap H locs → W p l e rm_PatternReader_readNumber s m args below meth c H locs 0 0 (MQ below (q_PatternReader_readNumber D cC cI a0_0 a1_0 a1_1 a2_0 v1 out A) args s 0 0 A) (F0 m 44 ls [])
def J_PatternReader_readNumber_81 (p : Program) (l : Launch) (e : Env) (s : State) (m : MethodId) (args : Array Value) (below : List Frame) (meth : Method) (c : Code) (A : Nat → Prop) (D : va_G) (cC cI : ClassId) (a0_0 a1_0 a1_1 a2_0 : Nat) (v1 : T_Row) (out : O_PatternReader_readNumber) (k : T_PatternReader → T_Shape → Option O_PatternReader_readNumber) : Prop := ∀ (v0 : T_PatternReader) (v2 : T_Shape) (ls : Array Slot) (H : Heap) (locs : List Loc), k v0 v2 = some out → lv_has ls 3 [] → va_P D classes (wd_PatternReader_readNumber cC cI a0_0 a1_0 a1_1 a2_0 v0 v1 v2) H → va_D A (wd_PatternReader_readNumber cC cI a0_0 a1_0 a1_1 a2_0 v0 v1 v2) → va_S A s.heap H locs → W p l e rm_PatternReader_readNumber s m args below meth c H locs 0 0 (MQ below (q_PatternReader_readNumber D cC cI a0_0 a1_0 a1_1 a2_0 v1 out A) args s 0 0 A) (F0 m 81 ls [])
def f_PatternReader_readNumber_81 (v1 : T_Row) (v0 : T_PatternReader) (v2 : T_Shape) : Option O_PatternReader_readNumber := some ((1 : Int32), v0, v2)
set_option maxHeartbeats 4000000 in
set_option maxRecDepth 100000 in
theorem w_PatternReader_readNumber_81 {p : Program} {l : Launch} {e : Env} {s : State} {m : MethodId} {args : Array Value} {below : List Frame} {meth : Method} {c : Code} {A : Nat → Prop} {D : va_G} {cC cI : ClassId} {a0_0 a1_0 a1_1 a2_0 : Nat} {v1 : T_Row} (X : xCX p s m args meth c A D cC cI b_PatternReader_readNumber 3 R_PatternReader (some .boolean)) {out : O_PatternReader_readNumber}   : J_PatternReader_readNumber_81 p l e s m args below meth c A D cC cI a0_0 a1_0 a1_1 a2_0 v1 out (f_PatternReader_readNumber_81 v1 ) := by
  obtain ⟨hx, hb, hml, hown, htB, ⟨hK, hN⟩, hZ, hA, hr, hlocks⟩ := id X
  intro v0 v2 ls H locs h hl hP hD hS
  refine lv_iconst (v := 1) hx hb d_PatternReader_readNumber_81 (by decide) ?_
  obtain rfl := Option.some.inj h
  exact W.zret (v := (1 : Int32)) (ty := .boolean) hx hb hr rfl (fun t ht hW => ⟨⟨(1 : Int32), (), rfl, rfl, by rw [ht]; exact hP, hD⟩, hS.F ht⟩) hS.2.2 d_PatternReader_readNumber_82 hlocks

def f_PatternReader_readNumber_44 (v1 : T_Row) (v0 : T_PatternReader) (v2 : T_Shape) : Option O_PatternReader_readNumber := (f_Row_at v1 v0).bind (fun o49 => (if o49 = (69 : Int32) then (f_Shape_allowsExponent v2).bind (fun o58 => (if o58 = 0 then f_PatternReader_readNumber_81 v1 v0 v2 else (f_PatternReader_readExponent (v0 + (1 : Int32)) v1 v2).bind (fun o77 => if (o77.1 = 0 ∨ o77.1 = 1) then some (o77.1, o77.2.1, o77.2.2) else none))) else f_PatternReader_readNumber_81 v1 v0 v2))
set_option maxHeartbeats 4000000 in
set_option maxRecDepth 100000 in
theorem w_PatternReader_readNumber_44 {p : Program} {l : Launch} {e : Env} {s : State} {m : MethodId} {args : Array Value} {below : List Frame} {meth : Method} {c : Code} {A : Nat → Prop} {D : va_G} {cC cI : ClassId} {a0_0 a1_0 a1_1 a2_0 : Nat} {v1 : T_Row} (X : xCX p s m args meth c A D cC cI b_PatternReader_readNumber 3 R_PatternReader (some .boolean)) {out : O_PatternReader_readNumber}   : J_PatternReader_readNumber_44 p l e s m args below meth c A D cC cI a0_0 a1_0 a1_1 a2_0 v1 out (f_PatternReader_readNumber_44 v1 ) := by
  obtain ⟨hx, hb, hml, hown, htB, ⟨hK, hN⟩, hZ, hA, hr, hlocks⟩ := id X
  intro v0 v2 ls H locs h hl hP hD hS
  refine lv_aload_n hx hb d_PatternReader_readNumber_44 rfl (lv_at hl 1 rfl) ?_
  refine lv_aload_n hx hb d_PatternReader_readNumber_45 rfl (lv_at hl 0 rfl) ?_
  refine va_get (D := D) (ci := 5) (v := .int v0) (C := R_PatternReader) (T := F_PatternReader) (N := 1) hx hb htB in_PatternReader hown hK hP 0 rfl rfl 0 (by decide) (htB _ b_54) (fun _ h9 => h9) rfl d_PatternReader_readNumber_46 ?_
  obtain ⟨o49, ho49, h⟩ := x_bnd h
  refine x_calli (r0 := o49) (ws2 := (wd_PatternReader_readNumber cC cI a0_0 a1_0 a1_1 a2_0 v0 v1 v2)) (x_runVN (As := [.int v0]) (rest := []) X (c_Row_at l D cC cI H.size a1_0 a1_1 v1 v0 o49 ho49) b_25 1 (hN _ n_12) (htB _ b_26) (htB _ b_27) (htB _ b_22) ⟨by decide, by decide, by decide +kernel⟩ ⟨(Nat.le_of_ble_eq_true rfl), (Nat.le_of_ble_eq_true rfl)⟩ 1 rfl rfl hP hD hS [1, 2] rfl (by decide) rfl rfl hl.1 rfl rfl (Nat.le_of_ble_eq_true rfl) d_PatternReader_readNumber_49) hP hD hS hA [1, 2] [0, 3] [0, 2, 3, 1] rfl rfl (by decide) (by decide) rfl (by decide) (fun H locs hP hD hS => ?_)
  refine lv_bipush (v := 69) hx hb d_PatternReader_readNumber_52 (by decide) ?_
  refine lv_icmp_ne (tgt := 81) hx hb d_PatternReader_readNumber_54 rfl (fun hc => ?_) (fun hc => ?_)
  · have h := (if_neg hc).symm.trans h
    exact w_PatternReader_readNumber_81 X v0 v2 ls H locs h (lv_sub hl [] rfl) hP hD hS
  have h := (if_pos hc).symm.trans h
  refine lv_aload_n hx hb d_PatternReader_readNumber_57 rfl (lv_at hl 2 rfl) ?_
  obtain ⟨o58, ho58, h⟩ := x_bnd h
  refine x_calli (r0 := o58) (ws2 := (wd_PatternReader_readNumber cC cI a0_0 a1_0 a1_1 a2_0 v0 v1 v2)) (x_runVN (As := []) (rest := []) X (c_Shape_allowsExponent l D cC cI H.size a2_0 v2 o58 ho58) b_76 0 (hN _ n_20) (htB _ b_77) (htB _ b_78) (htB _ b_59) ⟨by decide, by decide, by decide +kernel⟩ ⟨(Nat.le_of_ble_eq_true rfl), (Nat.le_of_ble_eq_true rfl)⟩ 3 rfl rfl hP hD hS [3] rfl (by decide) rfl rfl hl.1 rfl rfl (Nat.le_of_ble_eq_true rfl) d_PatternReader_readNumber_58) hP hD hS hA [3] [0, 1, 2] [0, 1, 2, 3] rfl rfl (by decide) (by decide) rfl (by decide) (fun H locs hP hD hS => ?_)
  refine lv_if_eq (tgt := 81) hx hb d_PatternReader_readNumber_61 rfl (fun hc => ?_) (fun hc => ?_)
  · have h := (if_pos hc).symm.trans h
    exact w_PatternReader_readNumber_81 X v0 v2 ls H locs h (lv_sub hl [] rfl) hP hD hS
  have h := (if_neg hc).symm.trans h
  refine lv_aload_n hx hb d_PatternReader_readNumber_64 rfl (lv_at hl 0 rfl) ?_
  refine lv_dup hx hb d_PatternReader_readNumber_65 rfl ?_
  refine va_get (D := D) (ci := 5) (v := .int v0) (C := R_PatternReader) (T := F_PatternReader) (N := 1) hx hb htB in_PatternReader hown hK hP 0 rfl rfl 0 (by decide) (htB _ b_54) (fun _ h9 => h9) rfl d_PatternReader_readNumber_66 ?_
  refine lv_iconst (v := 1) hx hb d_PatternReader_readNumber_69 (by decide) ?_
  refine lv_iadd hx hb d_PatternReader_readNumber_70 ?_
  refine va_put (D := D) (ci := 5) (v := .int (v0 + (1 : Int32))) (ty := .int) (C := R_PatternReader) (T := F_PatternReader) (N := 1) hx hb htB in_PatternReader t_PatternReader t_PatternReader_ok n_PatternReader hown hK hP hD hS 0 rfl rfl 0 (by decide) (htB _ b_54) (fun _ h9 => h9) rfl (by decide +kernel) rfl rfl (Nat.le_of_ble_eq_true rfl) d_PatternReader_readNumber_71 (fun H locs hP hD hS => ?_)
  have hP : va_P D classes (wd_PatternReader_readNumber cC cI a0_0 a1_0 a1_1 a2_0 (v0 + (1 : Int32)) v1 v2) H := hP
  have hD : va_D A (wd_PatternReader_readNumber cC cI a0_0 a1_0 a1_1 a2_0 (v0 + (1 : Int32)) v1 v2) := hD
  refine lv_aload_n hx hb d_PatternReader_readNumber_74 rfl (lv_at hl 0 rfl) ?_
  refine lv_aload_n hx hb d_PatternReader_readNumber_75 rfl (lv_at hl 1 rfl) ?_
  refine lv_aload_n hx hb d_PatternReader_readNumber_76 rfl (lv_at hl 2 rfl) ?_
  obtain ⟨o77, ho77, h⟩ := x_bnd h
  refine x_calli (r0 := o77.1) (ws2 := (wd_PatternReader_readNumber cC cI a0_0 a1_0 a1_1 a2_0 o77.2.1 v1 o77.2.2)) (x_runV (As := [.ref a1_0, .ref a2_0]) (rest := []) X (c_PatternReader_readExponent l D cC cI H.size a0_0 a1_0 a1_1 a2_0 (v0 + (1 : Int32)) v1 v2 o77 ho77) b_79 2 (htB _ b_82) (htB _ b_80) (htB _ b_81) (htB _ b_72) ⟨by decide, by decide, by decide +kernel⟩ ⟨(Nat.le_of_ble_eq_true rfl), (Nat.le_of_ble_eq_true rfl)⟩ 0 rfl rfl hP hD hS [0, 1, 2, 3] rfl (by decide) rfl rfl hl.1 rfl rfl (Nat.le_of_ble_eq_true rfl) d_PatternReader_readNumber_77) hP hD hS hA [0, 1, 2, 3] [] [0, 1, 2, 3] rfl rfl (by decide) (by decide) rfl (by decide) (fun H locs hP hD hS => ?_)
  obtain ⟨hc, h⟩ := x_chk h
  obtain rfl := Option.some.inj h
  exact W.zret (v := o77.1) (ty := .boolean) hx hb hr (x_zn hc) (fun t ht hW => ⟨⟨o77.1, (), rfl, rfl, by rw [ht]; exact hP, hD⟩, hS.F ht⟩) hS.2.2 d_PatternReader_readNumber_80 hlocks

def f_PatternReader_readNumber (v0 : T_PatternReader) (v1 : T_Row) (v2 : T_Shape) : Option O_PatternReader_readNumber := (f_Shape_clear v2).bind (fun o1 => (f_PatternReader_readInteger v0 v1 o1).bind (fun o7 => (if o7.1 = 0 then some ((0 : Int32), o7.2.1, o7.2.2) else (f_Row_at v1 o7.2.1).bind (fun o20 => (if o20 = (46 : Int32) then (f_PatternReader_readFraction (o7.2.1 + (1 : Int32)) v1 o7.2.2).bind (fun o41 => f_PatternReader_readNumber_44 v1 o41.1 o41.2) else f_PatternReader_readNumber_44 v1 o7.2.1 o7.2.2)))))
set_option maxHeartbeats 4000000 in
set_option maxRecDepth 100000 in
theorem w_PatternReader_readNumber {p : Program} {l : Launch} {e : Env} {s : State} {m : MethodId} {args : Array Value} {below : List Frame} {meth : Method} {c : Code} {A : Nat → Prop} {D : va_G} {cC cI : ClassId} {a0_0 a1_0 a1_1 a2_0 : Nat} {v1 : T_Row} (X : xCX p s m args meth c A D cC cI b_PatternReader_readNumber 3 R_PatternReader (some .boolean)) {out : O_PatternReader_readNumber} (v0 : T_PatternReader) (v2 : T_Shape) {ls : Array Slot} {H : Heap} {locs : List Loc} (h : f_PatternReader_readNumber v0 v1 v2 = some out) (hl : lv_has ls 3 [(0, .ref a0_0), (1, .ref a1_0), (2, .ref a2_0)]) (hP : va_P D classes (wd_PatternReader_readNumber cC cI a0_0 a1_0 a1_1 a2_0 v0 v1 v2) H) (hD : va_D A (wd_PatternReader_readNumber cC cI a0_0 a1_0 a1_1 a2_0 v0 v1 v2)) (hS : va_S A s.heap H locs) : W p l e rm_PatternReader_readNumber s m args below meth c H locs 0 0 (MQ below (q_PatternReader_readNumber D cC cI a0_0 a1_0 a1_1 a2_0 v1 out A) args s 0 0 A) (F0 m 0 ls []) := by
  obtain ⟨hx, hb, hml, hown, htB, ⟨hK, hN⟩, hZ, hA, hr, hlocks⟩ := id X
  refine lv_aload_n hx hb d_PatternReader_readNumber_0 rfl (lv_at hl 2 rfl) ?_
  obtain ⟨o1, ho1, h⟩ := x_bnd h
  refine x_callv (ws2 := (wd_PatternReader_readNumber cC cI a0_0 a1_0 a1_1 a2_0 v0 v1 o1)) (x_runVN (As := []) (rest := []) X (c_Shape_clear l D cC cI H.size a2_0 v2 o1 ho1) b_68 0 (hN _ n_19) (htB _ b_69) (htB _ b_70) (htB _ b_59) ⟨by decide, by decide, by decide +kernel⟩ ⟨(Nat.le_of_ble_eq_true rfl), (Nat.le_of_ble_eq_true rfl)⟩ 3 rfl rfl hP hD hS [3] rfl (by decide) rfl rfl hl.1 rfl rfl (Nat.le_of_ble_eq_true rfl) d_PatternReader_readNumber_1) hP hD hS hA [3] [0, 1, 2] [0, 1, 2, 3] rfl rfl (by decide) (by decide) rfl (by decide) (fun H locs hP hD hS => ?_)
  refine lv_aload_n hx hb d_PatternReader_readNumber_4 rfl (lv_at hl 0 rfl) ?_
  refine lv_aload_n hx hb d_PatternReader_readNumber_5 rfl (lv_at hl 1 rfl) ?_
  refine lv_aload_n hx hb d_PatternReader_readNumber_6 rfl (lv_at hl 2 rfl) ?_
  obtain ⟨o7, ho7, h⟩ := x_bnd h
  refine x_calli (r0 := o7.1) (ws2 := (wd_PatternReader_readNumber cC cI a0_0 a1_0 a1_1 a2_0 o7.2.1 v1 o7.2.2)) (x_runV (As := [.ref a1_0, .ref a2_0]) (rest := []) X (c_PatternReader_readInteger l D cC cI H.size a0_0 a1_0 a1_1 a2_0 v0 v1 o1 o7 ho7) b_71 2 (htB _ b_75) (htB _ b_73) (htB _ b_74) (htB _ b_72) ⟨by decide, by decide, by decide +kernel⟩ ⟨(Nat.le_of_ble_eq_true rfl), (Nat.le_of_ble_eq_true rfl)⟩ 0 rfl rfl hP hD hS [0, 1, 2, 3] rfl (by decide) rfl rfl hl.1 rfl rfl (Nat.le_of_ble_eq_true rfl) d_PatternReader_readNumber_7) hP hD hS hA [0, 1, 2, 3] [] [0, 1, 2, 3] rfl rfl (by decide) (by decide) rfl (by decide) (fun H locs hP hD hS => ?_)
  refine lv_if_ne (tgt := 15) hx hb d_PatternReader_readNumber_10 rfl (fun hc => ?_) (fun hc => ?_)
  · have h := (if_neg hc).symm.trans h
    refine lv_aload_n hx hb d_PatternReader_readNumber_15 rfl (lv_at hl 1 rfl) ?_
    refine lv_aload_n hx hb d_PatternReader_readNumber_16 rfl (lv_at hl 0 rfl) ?_
    refine va_get (D := D) (ci := 5) (v := .int o7.2.1) (C := R_PatternReader) (T := F_PatternReader) (N := 1) hx hb htB in_PatternReader hown hK hP 0 rfl rfl 0 (by decide) (htB _ b_54) (fun _ h9 => h9) rfl d_PatternReader_readNumber_17 ?_
    obtain ⟨o20, ho20, h⟩ := x_bnd h
    refine x_calli (r0 := o20) (ws2 := (wd_PatternReader_readNumber cC cI a0_0 a1_0 a1_1 a2_0 o7.2.1 v1 o7.2.2)) (x_runVN (As := [.int o7.2.1]) (rest := []) X (c_Row_at l D cC cI H.size a1_0 a1_1 v1 o7.2.1 o20 ho20) b_25 1 (hN _ n_12) (htB _ b_26) (htB _ b_27) (htB _ b_22) ⟨by decide, by decide, by decide +kernel⟩ ⟨(Nat.le_of_ble_eq_true rfl), (Nat.le_of_ble_eq_true rfl)⟩ 1 rfl rfl hP hD hS [1, 2] rfl (by decide) rfl rfl hl.1 rfl rfl (Nat.le_of_ble_eq_true rfl) d_PatternReader_readNumber_20) hP hD hS hA [1, 2] [0, 3] [0, 2, 3, 1] rfl rfl (by decide) (by decide) rfl (by decide) (fun H locs hP hD hS => ?_)
    refine lv_bipush (v := 46) hx hb d_PatternReader_readNumber_23 (by decide) ?_
    refine lv_icmp_ne (tgt := 44) hx hb d_PatternReader_readNumber_25 rfl (fun hc => ?_) (fun hc => ?_)
    · have h := (if_neg hc).symm.trans h
      exact w_PatternReader_readNumber_44 X o7.2.1 o7.2.2 ls H locs h (lv_sub hl [0, 1, 2] rfl) hP hD hS
    have h := (if_pos hc).symm.trans h
    refine lv_aload_n hx hb d_PatternReader_readNumber_28 rfl (lv_at hl 0 rfl) ?_
    refine lv_dup hx hb d_PatternReader_readNumber_29 rfl ?_
    refine va_get (D := D) (ci := 5) (v := .int o7.2.1) (C := R_PatternReader) (T := F_PatternReader) (N := 1) hx hb htB in_PatternReader hown hK hP 0 rfl rfl 0 (by decide) (htB _ b_54) (fun _ h9 => h9) rfl d_PatternReader_readNumber_30 ?_
    refine lv_iconst (v := 1) hx hb d_PatternReader_readNumber_33 (by decide) ?_
    refine lv_iadd hx hb d_PatternReader_readNumber_34 ?_
    refine va_put (D := D) (ci := 5) (v := .int (o7.2.1 + (1 : Int32))) (ty := .int) (C := R_PatternReader) (T := F_PatternReader) (N := 1) hx hb htB in_PatternReader t_PatternReader t_PatternReader_ok n_PatternReader hown hK hP hD hS 0 rfl rfl 0 (by decide) (htB _ b_54) (fun _ h9 => h9) rfl (by decide +kernel) rfl rfl (Nat.le_of_ble_eq_true rfl) d_PatternReader_readNumber_35 (fun H locs hP hD hS => ?_)
    have hP : va_P D classes (wd_PatternReader_readNumber cC cI a0_0 a1_0 a1_1 a2_0 (o7.2.1 + (1 : Int32)) v1 o7.2.2) H := hP
    have hD : va_D A (wd_PatternReader_readNumber cC cI a0_0 a1_0 a1_1 a2_0 (o7.2.1 + (1 : Int32)) v1 o7.2.2) := hD
    refine lv_aload_n hx hb d_PatternReader_readNumber_38 rfl (lv_at hl 0 rfl) ?_
    refine lv_aload_n hx hb d_PatternReader_readNumber_39 rfl (lv_at hl 1 rfl) ?_
    refine lv_aload_n hx hb d_PatternReader_readNumber_40 rfl (lv_at hl 2 rfl) ?_
    obtain ⟨o41, ho41, h⟩ := x_bnd h
    refine x_callv (ws2 := (wd_PatternReader_readNumber cC cI a0_0 a1_0 a1_1 a2_0 o41.1 v1 o41.2)) (x_runV (As := [.ref a1_0, .ref a2_0]) (rest := []) X (c_PatternReader_readFraction l D cC cI H.size a0_0 a1_0 a1_1 a2_0 (o7.2.1 + (1 : Int32)) v1 o7.2.2 o41 ho41) b_83 2 (htB _ b_86) (htB _ b_84) (htB _ b_85) (htB _ b_72) ⟨by decide, by decide, by decide +kernel⟩ ⟨(Nat.le_of_ble_eq_true rfl), (Nat.le_of_ble_eq_true rfl)⟩ 0 rfl rfl hP hD hS [0, 1, 2, 3] rfl (by decide) rfl rfl hl.1 rfl rfl (Nat.le_of_ble_eq_true rfl) d_PatternReader_readNumber_41) hP hD hS hA [0, 1, 2, 3] [] [0, 1, 2, 3] rfl rfl (by decide) (by decide) rfl (by decide) (fun H locs hP hD hS => ?_)
    exact w_PatternReader_readNumber_44 X o41.1 o41.2 ls H locs h (lv_sub hl [0, 1, 2] rfl) hP hD hS
  have h := (if_pos hc).symm.trans h
  refine lv_iconst (v := 0) hx hb d_PatternReader_readNumber_13 (by decide) ?_
  obtain rfl := Option.some.inj h
  exact W.zret (v := (0 : Int32)) (ty := .boolean) hx hb hr rfl (fun t ht hW => ⟨⟨(0 : Int32), (), rfl, rfl, by rw [ht]; exact hP, hD⟩, hS.F ht⟩) hS.2.2 d_PatternReader_readNumber_14 hlocks

set_option maxHeartbeats 4000000 in
set_option maxRecDepth 100000 in
theorem c_PatternReader_readNumber (l : Launch) (D : va_G) (cC cI : ClassId) (sz : Nat) (a0_0 a1_0 a1_1 a2_0 : Nat) (v0 : T_PatternReader) (v1 : T_Row) (v2 : T_Shape) (out : O_PatternReader_readNumber) (h : f_PatternReader_readNumber v0 v1 v2 = some out) : Met l y_PatternReader_readNumber (.code y_PatternReader_readNumber b_PatternReader_readNumber 3 (some .boolean) :: BIG) rm_PatternReader_readNumber (va_Pc [.ref a0_0, .ref a1_0, .ref a2_0] (xPre D cC cI (wd_PatternReader_readNumber cC cI a0_0 a1_0 a1_1 a2_0 v0 v1 v2) sz)) (q_PatternReader_readNumber D cC cI a0_0 a1_0 a1_1 a2_0 v1 out (va_A (wd_PatternReader_readNumber cC cI a0_0 a1_0 a1_1 a2_0 v0 v1 v2) sz)) 0 0 (va_A (wd_PatternReader_readNumber cC cI a0_0 a1_0 a1_1 a2_0 v0 v1 v2) sz) := by
  refine Met.ofW (cc := b_PatternReader_readNumber) (maxL := 3) (ret := (some .boolean)) (by decide) rfl ?_
  intro p e s m args below meth c s₁ B hml hv
  obtain ⟨rfl, rfl, hP, hD0, hG, hZ⟩ := hv
  have hl := lv_entry [.ref a0_0, .ref a1_0, .ref a2_0] (n := 3) (Nat.le_of_ble_eq_true rfl)
  rw [lg_entry_eq]
  exact w_PatternReader_readNumber (x_cx B hml hG hZ) v0 v2 h hl hP hD0.self va_S.rf

abbrev wd_PatternReader_readPart (cC cI : ClassId) (a0_0 a1_0 a1_1 a2_0 a2_1 a2_2 a2_3 a2_4 a2_5 : Nat) (v0 : T_PatternReader) (v1 : T_Row) (v2 : T_Part) : va_W := [(a0_0, .inr (5, [.int v0])), (a1_0, .inr (0, [.ref a1_1, .int v1.2])), (a1_1, .inl (cC, 120, .inl v1.1)), (a2_0, .inr (3, [.ref a2_1, .ref a2_3, .ref a2_4])), (a2_1, .inr (1, [.ref a2_2, .int v2.1.2])), (a2_2, .inl (cI, 120, .inl v2.1.1)), (a2_3, .inr (2, [.int v2.2.1.1, .int v2.2.1.2.1, .int v2.2.1.2.2.1, .int v2.2.1.2.2.2.1, .int v2.2.1.2.2.2.2.1, .int v2.2.1.2.2.2.2.2.1, .int v2.2.1.2.2.2.2.2.2])), (a2_4, .inr (1, [.ref a2_5, .int v2.2.2.2])), (a2_5, .inl (cI, 120, .inl v2.2.2.1))]
abbrev O_PatternReader_readPart : Type := Int32 × T_PatternReader × T_Part
abbrev q_PatternReader_readPart (D : va_G) (cC cI : ClassId) (a0_0 a1_0 a1_1 a2_0 a2_1 a2_2 a2_3 a2_4 a2_5 : Nat) (v1 : T_Row) (out : O_PatternReader_readPart) (A : Nat → Prop) : Array Value → State → Outcome → State → Prop := va_Qi (fun r (_ : Unit) => r = out.1) (fun _ t => va_P D classes (wd_PatternReader_readPart cC cI a0_0 a1_0 a1_1 a2_0 a2_1 a2_2 a2_3 a2_4 a2_5 out.2.1 v1 out.2.2) t.heap ∧ va_D A (wd_PatternReader_readPart cC cI a0_0 a1_0 a1_1 a2_0 a2_1 a2_2 a2_3 a2_4 a2_5 out.2.1 v1 out.2.2)) A
abbrev rm_PatternReader_readPart : Room := { frames := 3, cells := 0, slots := 0, locals := 67 }
def J_PatternReader_readPart_40 (p : Program) (l : Launch) (e : Env) (s : State) (m : MethodId) (args : Array Value) (below : List Frame) (meth : Method) (c : Code) (A : Nat → Prop) (D : va_G) (cC cI : ClassId) (a0_0 a1_0 a1_1 a2_0 a2_1 a2_2 a2_3 a2_4 a2_5 : Nat) (v1 : T_Row) (out : O_PatternReader_readPart) (k : T_PatternReader → T_Part → Option O_PatternReader_readPart) : Prop := ∀ (v0 : T_PatternReader) (v2 : T_Part) (ls : Array Slot) (H : Heap) (locs : List Loc), k v0 v2 = some out → lv_has ls 3 [] → va_P D classes (wd_PatternReader_readPart cC cI a0_0 a1_0 a1_1 a2_0 a2_1 a2_2 a2_3 a2_4 a2_5 v0 v1 v2) H → va_D A (wd_PatternReader_readPart cC cI a0_0 a1_0 a1_1 a2_0 a2_1 a2_2 a2_3 a2_4 a2_5 v0 v1 v2) → va_S A s.heap H locs → W p l e rm_PatternReader_readPart s m args below meth c H locs 0 0 (MQ below (q_PatternReader_readPart D cC cI a0_0 a1_0 a1_1 a2_0 a2_1 a2_2 a2_3 a2_4 a2_5 v1 out A) args s 0 0 A) (F0 m 40 ls [])
def J_PatternReader_readPart_41 (p : Program) (l : Launch) (e : Env) (s : State) (m : MethodId) (args : Array Value) (below : List Frame) (meth : Method) (c : Code) (A : Nat → Prop) (D : va_G) (cC cI : ClassId) (a0_0 a1_0 a1_1 a2_0 a2_1 a2_2 a2_3 a2_4 a2_5 : Nat) (v1 : T_Row) (out : O_PatternReader_readPart) (k : T_PatternReader → T_Part → Int32 → Option O_PatternReader_readPart) : Prop := ∀ (v0 : T_PatternReader) (v2 : T_Part) (s0 : Int32) (ls : Array Slot) (H : Heap) (locs : List Loc), k v0 v2 s0 = some out → lv_has ls 3 [] → va_P D classes (wd_PatternReader_readPart cC cI a0_0 a1_0 a1_1 a2_0 a2_1 a2_2 a2_3 a2_4 a2_5 v0 v1 v2) H → va_D A (wd_PatternReader_readPart cC cI a0_0 a1_0 a1_1 a2_0 a2_1 a2_2 a2_3 a2_4 a2_5 v0 v1 v2) → va_S A s.heap H locs → W p l e rm_PatternReader_readPart s m args below meth c H locs 0 0 (MQ below (q_PatternReader_readPart D cC cI a0_0 a1_0 a1_1 a2_0 a2_1 a2_2 a2_3 a2_4 a2_5 v1 out A) args s 0 0 A) (F0 m 41 ls [.int s0])
def f_PatternReader_readPart_41 (v1 : T_Row) (v0 : T_PatternReader) (v2 : T_Part) (s0 : Int32) : Option O_PatternReader_readPart := if (s0 = 0 ∨ s0 = 1) then some (s0, v0, v2) else none
set_option maxHeartbeats 4000000 in
set_option maxRecDepth 100000 in
theorem w_PatternReader_readPart_41 {p : Program} {l : Launch} {e : Env} {s : State} {m : MethodId} {args : Array Value} {below : List Frame} {meth : Method} {c : Code} {A : Nat → Prop} {D : va_G} {cC cI : ClassId} {a0_0 a1_0 a1_1 a2_0 a2_1 a2_2 a2_3 a2_4 a2_5 : Nat} {v1 : T_Row} (X : xCX p s m args meth c A D cC cI b_PatternReader_readPart 3 R_PatternReader (some .boolean)) {out : O_PatternReader_readPart}   : J_PatternReader_readPart_41 p l e s m args below meth c A D cC cI a0_0 a1_0 a1_1 a2_0 a2_1 a2_2 a2_3 a2_4 a2_5 v1 out (f_PatternReader_readPart_41 v1 ) := by
  obtain ⟨hx, hb, hml, hown, htB, ⟨hK, hN⟩, hZ, hA, hr, hlocks⟩ := id X
  intro v0 v2 s0 ls H locs h hl hP hD hS
  obtain ⟨hc, h⟩ := x_chk h
  obtain rfl := Option.some.inj h
  exact W.zret (v := s0) (ty := .boolean) hx hb hr (x_zn hc) (fun t ht hW => ⟨⟨s0, (), rfl, rfl, by rw [ht]; exact hP, hD⟩, hS.F ht⟩) hS.2.2 d_PatternReader_readPart_41 hlocks

def f_PatternReader_readPart_40 (v1 : T_Row) (v0 : T_PatternReader) (v2 : T_Part) : Option O_PatternReader_readPart := f_PatternReader_readPart_41 v1 v0 v2 (0 : Int32)
set_option maxHeartbeats 4000000 in
set_option maxRecDepth 100000 in
theorem w_PatternReader_readPart_40 {p : Program} {l : Launch} {e : Env} {s : State} {m : MethodId} {args : Array Value} {below : List Frame} {meth : Method} {c : Code} {A : Nat → Prop} {D : va_G} {cC cI : ClassId} {a0_0 a1_0 a1_1 a2_0 a2_1 a2_2 a2_3 a2_4 a2_5 : Nat} {v1 : T_Row} (X : xCX p s m args meth c A D cC cI b_PatternReader_readPart 3 R_PatternReader (some .boolean)) {out : O_PatternReader_readPart}   : J_PatternReader_readPart_40 p l e s m args below meth c A D cC cI a0_0 a1_0 a1_1 a2_0 a2_1 a2_2 a2_3 a2_4 a2_5 v1 out (f_PatternReader_readPart_40 v1 ) := by
  obtain ⟨hx, hb, hml, hown, htB, ⟨hK, hN⟩, hZ, hA, hr, hlocks⟩ := id X
  intro v0 v2 ls H locs h hl hP hD hS
  refine lv_iconst (v := 0) hx hb d_PatternReader_readPart_40 (by decide) ?_
  exact w_PatternReader_readPart_41 X v0 v2 (0 : Int32) ls H locs h (lv_sub hl [] rfl) hP hD hS

def f_PatternReader_readPart (v0 : T_PatternReader) (v1 : T_Row) (v2 : T_Part) : Option O_PatternReader_readPart := (f_PatternReader_readAffix v0 v1 v2.1).bind (fun o6 => (if o6.1 = 0 then f_PatternReader_readPart_40 v1 o6.2.1 (o6.2.2, v2.2.1, v2.2.2) else (f_PatternReader_readNumber o6.2.1 v1 v2.2.1).bind (fun o18 => (if o18.1 = 0 then f_PatternReader_readPart_40 v1 o18.2.1 (o6.2.2, o18.2.2, v2.2.2) else (f_PatternReader_readAffix o18.2.1 v1 v2.2.2).bind (fun o30 => (if o30.1 = 0 then f_PatternReader_readPart_40 v1 o30.2.1 (o6.2.2, o18.2.2, o30.2.2) else f_PatternReader_readPart_41 v1 o30.2.1 (o6.2.2, o18.2.2, o30.2.2) (1 : Int32)))))))
set_option maxHeartbeats 4000000 in
set_option maxRecDepth 100000 in
theorem w_PatternReader_readPart {p : Program} {l : Launch} {e : Env} {s : State} {m : MethodId} {args : Array Value} {below : List Frame} {meth : Method} {c : Code} {A : Nat → Prop} {D : va_G} {cC cI : ClassId} {a0_0 a1_0 a1_1 a2_0 a2_1 a2_2 a2_3 a2_4 a2_5 : Nat} {v1 : T_Row} (X : xCX p s m args meth c A D cC cI b_PatternReader_readPart 3 R_PatternReader (some .boolean)) {out : O_PatternReader_readPart} (v0 : T_PatternReader) (v2 : T_Part) {ls : Array Slot} {H : Heap} {locs : List Loc} (h : f_PatternReader_readPart v0 v1 v2 = some out) (hl : lv_has ls 3 [(0, .ref a0_0), (1, .ref a1_0), (2, .ref a2_0)]) (hP : va_P D classes (wd_PatternReader_readPart cC cI a0_0 a1_0 a1_1 a2_0 a2_1 a2_2 a2_3 a2_4 a2_5 v0 v1 v2) H) (hD : va_D A (wd_PatternReader_readPart cC cI a0_0 a1_0 a1_1 a2_0 a2_1 a2_2 a2_3 a2_4 a2_5 v0 v1 v2)) (hS : va_S A s.heap H locs) : W p l e rm_PatternReader_readPart s m args below meth c H locs 0 0 (MQ below (q_PatternReader_readPart D cC cI a0_0 a1_0 a1_1 a2_0 a2_1 a2_2 a2_3 a2_4 a2_5 v1 out A) args s 0 0 A) (F0 m 0 ls []) := by
  obtain ⟨hx, hb, hml, hown, htB, ⟨hK, hN⟩, hZ, hA, hr, hlocks⟩ := id X
  refine lv_aload_n hx hb d_PatternReader_readPart_0 rfl (lv_at hl 0 rfl) ?_
  refine lv_aload_n hx hb d_PatternReader_readPart_1 rfl (lv_at hl 1 rfl) ?_
  refine lv_aload_n hx hb d_PatternReader_readPart_2 rfl (lv_at hl 2 rfl) ?_
  refine va_getN (D := D) (ci := 3) (v := .ref a2_1) (C := R_Part) (T := F_Part) (N := 3) hx hb htB in_Part hown hK hP 3 rfl rfl 0 (by decide) (va_Nw.use rfl (hN _ n_21)) (fun _ h9 => h9) rfl d_PatternReader_readPart_3 ?_
  obtain ⟨o6, ho6, h⟩ := x_bnd h
  refine x_calli (r0 := o6.1) (ws2 := (wd_PatternReader_readPart cC cI a0_0 a1_0 a1_1 a2_0 a2_1 a2_2 a2_3 a2_4 a2_5 o6.2.1 v1 (o6.2.2, v2.2.1, v2.2.2))) (x_runV (As := [.ref a1_0, .ref a2_1]) (rest := []) X (c_PatternReader_readAffix l D cC cI H.size a0_0 a1_0 a1_1 a2_1 a2_2 v0 v1 v2.1 o6 ho6) b_87 2 (htB _ b_90) (htB _ b_88) (htB _ b_89) (htB _ b_72) ⟨by decide, by decide, by decide +kernel⟩ ⟨(Nat.le_of_ble_eq_true rfl), (Nat.le_of_ble_eq_true rfl)⟩ 0 rfl rfl hP hD hS [0, 1, 2, 4, 5] rfl (by decide) rfl rfl hl.1 rfl rfl (Nat.le_of_ble_eq_true rfl) d_PatternReader_readPart_6) hP hD hS hA [0, 1, 2, 4, 5] [3, 6, 7, 8] [4, 5, 6, 0, 7, 8, 1, 2, 3] rfl rfl (by decide) (by decide) rfl (by decide) (fun H locs hP hD hS => ?_)
  refine lv_if_eq (tgt := 40) hx hb d_PatternReader_readPart_9 rfl (fun hc => ?_) (fun hc => ?_)
  · have h := (if_pos hc).symm.trans h
    exact w_PatternReader_readPart_40 X o6.2.1 (o6.2.2, v2.2.1, v2.2.2) ls H locs h (lv_sub hl [] rfl) hP hD hS
  have h := (if_neg hc).symm.trans h
  refine lv_aload_n hx hb d_PatternReader_readPart_12 rfl (lv_at hl 0 rfl) ?_
  refine lv_aload_n hx hb d_PatternReader_readPart_13 rfl (lv_at hl 1 rfl) ?_
  refine lv_aload_n hx hb d_PatternReader_readPart_14 rfl (lv_at hl 2 rfl) ?_
  refine va_getN (D := D) (ci := 3) (v := .ref a2_3) (C := R_Part) (T := F_Part) (N := 3) hx hb htB in_Part hown hK hP 3 rfl rfl 1 (by decide) (va_Nw.use rfl (hN _ n_22)) (fun _ h9 => h9) rfl d_PatternReader_readPart_15 ?_
  obtain ⟨o18, ho18, h⟩ := x_bnd h
  refine x_calli (r0 := o18.1) (ws2 := (wd_PatternReader_readPart cC cI a0_0 a1_0 a1_1 a2_0 a2_1 a2_2 a2_3 a2_4 a2_5 o18.2.1 v1 (o6.2.2, o18.2.2, v2.2.2))) (x_runV (As := [.ref a1_0, .ref a2_3]) (rest := []) X (c_PatternReader_readNumber l D cC cI H.size a0_0 a1_0 a1_1 a2_3 o6.2.1 v1 v2.2.1 o18 ho18) b_91 2 (htB _ b_94) (htB _ b_92) (htB _ b_93) (htB _ b_72) ⟨by decide, by decide, by decide +kernel⟩ ⟨(Nat.le_of_ble_eq_true rfl), (Nat.le_of_ble_eq_true rfl)⟩ 0 rfl rfl hP hD hS [0, 1, 2, 6] rfl (by decide) rfl rfl hl.1 rfl rfl (Nat.le_of_ble_eq_true rfl) d_PatternReader_readPart_18) hP hD hS hA [0, 1, 2, 6] [3, 4, 5, 7, 8] [5, 6, 7, 0, 1, 2, 8, 3, 4] rfl rfl (by decide) (by decide) rfl (by decide) (fun H locs hP hD hS => ?_)
  refine lv_if_eq (tgt := 40) hx hb d_PatternReader_readPart_21 rfl (fun hc => ?_) (fun hc => ?_)
  · have h := (if_pos hc).symm.trans h
    exact w_PatternReader_readPart_40 X o18.2.1 (o6.2.2, o18.2.2, v2.2.2) ls H locs h (lv_sub hl [] rfl) hP hD hS
  have h := (if_neg hc).symm.trans h
  refine lv_aload_n hx hb d_PatternReader_readPart_24 rfl (lv_at hl 0 rfl) ?_
  refine lv_aload_n hx hb d_PatternReader_readPart_25 rfl (lv_at hl 1 rfl) ?_
  refine lv_aload_n hx hb d_PatternReader_readPart_26 rfl (lv_at hl 2 rfl) ?_
  refine va_getN (D := D) (ci := 3) (v := .ref a2_4) (C := R_Part) (T := F_Part) (N := 3) hx hb htB in_Part hown hK hP 3 rfl rfl 2 (by decide) (va_Nw.use rfl (hN _ n_23)) (fun _ h9 => h9) rfl d_PatternReader_readPart_27 ?_
  obtain ⟨o30, ho30, h⟩ := x_bnd h
  refine x_calli (r0 := o30.1) (ws2 := (wd_PatternReader_readPart cC cI a0_0 a1_0 a1_1 a2_0 a2_1 a2_2 a2_3 a2_4 a2_5 o30.2.1 v1 (o6.2.2, o18.2.2, o30.2.2))) (x_runV (As := [.ref a1_0, .ref a2_4]) (rest := []) X (c_PatternReader_readAffix l D cC cI H.size a0_0 a1_0 a1_1 a2_4 a2_5 o18.2.1 v1 v2.2.2 o30 ho30) b_87 2 (htB _ b_90) (htB _ b_88) (htB _ b_89) (htB _ b_72) ⟨by decide, by decide, by decide +kernel⟩ ⟨(Nat.le_of_ble_eq_true rfl), (Nat.le_of_ble_eq_true rfl)⟩ 0 rfl rfl hP hD hS [0, 1, 2, 7, 8] rfl (by decide) rfl rfl hl.1 rfl rfl (Nat.le_of_ble_eq_true rfl) d_PatternReader_readPart_30) hP hD hS hA [0, 1, 2, 7, 8] [3, 4, 5, 6] [4, 5, 6, 0, 1, 2, 3, 7, 8] rfl rfl (by decide) (by decide) rfl (by decide) (fun H locs hP hD hS => ?_)
  refine lv_if_eq (tgt := 40) hx hb d_PatternReader_readPart_33 rfl (fun hc => ?_) (fun hc => ?_)
  · have h := (if_pos hc).symm.trans h
    exact w_PatternReader_readPart_40 X o30.2.1 (o6.2.2, o18.2.2, o30.2.2) ls H locs h (lv_sub hl [] rfl) hP hD hS
  have h := (if_neg hc).symm.trans h
  refine lv_iconst (v := 1) hx hb d_PatternReader_readPart_36 (by decide) ?_
  refine lv_goto (tgt := 41) hx hb d_PatternReader_readPart_37 rfl ?_
  exact w_PatternReader_readPart_41 X o30.2.1 (o6.2.2, o18.2.2, o30.2.2) (1 : Int32) ls H locs h (lv_sub hl [] rfl) hP hD hS

set_option maxHeartbeats 4000000 in
set_option maxRecDepth 100000 in
theorem c_PatternReader_readPart (l : Launch) (D : va_G) (cC cI : ClassId) (sz : Nat) (a0_0 a1_0 a1_1 a2_0 a2_1 a2_2 a2_3 a2_4 a2_5 : Nat) (v0 : T_PatternReader) (v1 : T_Row) (v2 : T_Part) (out : O_PatternReader_readPart) (h : f_PatternReader_readPart v0 v1 v2 = some out) : Met l y_PatternReader_readPart (.code y_PatternReader_readPart b_PatternReader_readPart 3 (some .boolean) :: BIG) rm_PatternReader_readPart (va_Pc [.ref a0_0, .ref a1_0, .ref a2_0] (xPre D cC cI (wd_PatternReader_readPart cC cI a0_0 a1_0 a1_1 a2_0 a2_1 a2_2 a2_3 a2_4 a2_5 v0 v1 v2) sz)) (q_PatternReader_readPart D cC cI a0_0 a1_0 a1_1 a2_0 a2_1 a2_2 a2_3 a2_4 a2_5 v1 out (va_A (wd_PatternReader_readPart cC cI a0_0 a1_0 a1_1 a2_0 a2_1 a2_2 a2_3 a2_4 a2_5 v0 v1 v2) sz)) 0 0 (va_A (wd_PatternReader_readPart cC cI a0_0 a1_0 a1_1 a2_0 a2_1 a2_2 a2_3 a2_4 a2_5 v0 v1 v2) sz) := by
  refine Met.ofW (cc := b_PatternReader_readPart) (maxL := 3) (ret := (some .boolean)) (by decide) rfl ?_
  intro p e s m args below meth c s₁ B hml hv
  obtain ⟨rfl, rfl, hP, hD0, hG, hZ⟩ := hv
  have hl := lv_entry [.ref a0_0, .ref a1_0, .ref a2_0] (n := 3) (Nat.le_of_ble_eq_true rfl)
  rw [lg_entry_eq]
  exact w_PatternReader_readPart (x_cx B hml hG hZ) v0 v2 h hl hP hD0.self va_S.rf

abbrev wd_PatternReader_read (cC cI : ClassId) (a0_0 a1_0 a1_1 a2_0 a2_1 a2_2 a2_3 a2_4 a2_5 a2_6 a2_7 a2_8 a2_9 a2_10 a2_11 a2_12 : Nat) (v0 : T_PatternReader) (v1 : T_Row) (v2 : T_Pattern) : va_W := [(a0_0, .inr (5, [.int v0])), (a1_0, .inr (0, [.ref a1_1, .int v1.2])), (a1_1, .inl (cC, 120, .inl v1.1)), (a2_0, .inr (4, [.ref a2_1, .ref a2_7, .int v2.2.2.1, .int v2.2.2.2])), (a2_1, .inr (3, [.ref a2_2, .ref a2_4, .ref a2_5])), (a2_2, .inr (1, [.ref a2_3, .int v2.1.1.2])), (a2_3, .inl (cI, 120, .inl v2.1.1.1)), (a2_4, .inr (2, [.int v2.1.2.1.1, .int v2.1.2.1.2.1, .int v2.1.2.1.2.2.1, .int v2.1.2.1.2.2.2.1, .int v2.1.2.1.2.2.2.2.1, .int v2.1.2.1.2.2.2.2.2.1, .int v2.1.2.1.2.2.2.2.2.2])), (a2_5, .inr (1, [.ref a2_6, .int v2.1.2.2.2])), (a2_6, .inl (cI, 120, .inl v2.1.2.2.1)), (a2_7, .inr (3, [.ref a2_8, .ref a2_10, .ref a2_11])), (a2_8, .inr (1, [.ref a2_9, .int v2.2.1.1.2])), (a2_9, .inl (cI, 120, .inl v2.2.1.1.1)), (a2_10, .inr (2, [.int v2.2.1.2.1.1, .int v2.2.1.2.1.2.1, .int v2.2.1.2.1.2.2.1, .int v2.2.1.2.1.2.2.2.1, .int v2.2.1.2.1.2.2.2.2.1, .int v2.2.1.2.1.2.2.2.2.2.1, .int v2.2.1.2.1.2.2.2.2.2.2])), (a2_11, .inr (1, [.ref a2_12, .int v2.2.1.2.2.2])), (a2_12, .inl (cI, 120, .inl v2.2.1.2.2.1))]
abbrev O_PatternReader_read : Type := Int32 × T_PatternReader × T_Pattern
abbrev q_PatternReader_read (D : va_G) (cC cI : ClassId) (a0_0 a1_0 a1_1 a2_0 a2_1 a2_2 a2_3 a2_4 a2_5 a2_6 a2_7 a2_8 a2_9 a2_10 a2_11 a2_12 : Nat) (v1 : T_Row) (out : O_PatternReader_read) (A : Nat → Prop) : Array Value → State → Outcome → State → Prop := va_Qi (fun r (_ : Unit) => r = out.1) (fun _ t => va_P D classes (wd_PatternReader_read cC cI a0_0 a1_0 a1_1 a2_0 a2_1 a2_2 a2_3 a2_4 a2_5 a2_6 a2_7 a2_8 a2_9 a2_10 a2_11 a2_12 out.2.1 v1 out.2.2) t.heap ∧ va_D A (wd_PatternReader_read cC cI a0_0 a1_0 a1_1 a2_0 a2_1 a2_2 a2_3 a2_4 a2_5 a2_6 a2_7 a2_8 a2_9 a2_10 a2_11 a2_12 out.2.1 v1 out.2.2)) A
abbrev rm_PatternReader_read : Room := { frames := 4, cells := 0, slots := 0, locals := 89 }
def J_PatternReader_read_72 (p : Program) (l : Launch) (e : Env) (s : State) (m : MethodId) (args : Array Value) (below : List Frame) (meth : Method) (c : Code) (A : Nat → Prop) (D : va_G) (cC cI : ClassId) (a0_0 a1_0 a1_1 a2_0 a2_1 a2_2 a2_3 a2_4 a2_5 a2_6 a2_7 a2_8 a2_9 a2_10 a2_11 a2_12 : Nat) (v1 : T_Row) (out : O_PatternReader_read) (k : T_PatternReader → T_Pattern → Option O_PatternReader_read) : Prop := ∀ (v0 : T_PatternReader) (v2 : T_Pattern) (ls : Array Slot) (H : Heap) (locs : List Loc), k v0 v2 = some out → lv_has ls 3 [(0, .ref a0_0), (1, .ref a1_0)] → va_P D classes (wd_PatternReader_read cC cI a0_0 a1_0 a1_1 a2_0 a2_1 a2_2 a2_3 a2_4 a2_5 a2_6 a2_7 a2_8 a2_9 a2_10 a2_11 a2_12 v0 v1 v2) H → va_D A (wd_PatternReader_read cC cI a0_0 a1_0 a1_1 a2_0 a2_1 a2_2 a2_3 a2_4 a2_5 a2_6 a2_7 a2_8 a2_9 a2_10 a2_11 a2_12 v0 v1 v2) → va_S A s.heap H locs → W p l e rm_PatternReader_read s m args below meth c H locs 0 0 (MQ below (q_PatternReader_read D cC cI a0_0 a1_0 a1_1 a2_0 a2_1 a2_2 a2_3 a2_4 a2_5 a2_6 a2_7 a2_8 a2_9 a2_10 a2_11 a2_12 v1 out A) args s 0 0 A) (F0 m 72 ls [])
def J_PatternReader_read_91 (p : Program) (l : Launch) (e : Env) (s : State) (m : MethodId) (args : Array Value) (below : List Frame) (meth : Method) (c : Code) (A : Nat → Prop) (D : va_G) (cC cI : ClassId) (a0_0 a1_0 a1_1 a2_0 a2_1 a2_2 a2_3 a2_4 a2_5 a2_6 a2_7 a2_8 a2_9 a2_10 a2_11 a2_12 : Nat) (v1 : T_Row) (out : O_PatternReader_read) (k : T_PatternReader → T_Pattern → Int32 → Option O_PatternReader_read) : Prop := ∀ (v0 : T_PatternReader) (v2 : T_Pattern) (s0 : Int32) (ls : Array Slot) (H : Heap) (locs : List Loc), k v0 v2 s0 = some out → lv_has ls 3 [] → va_P D classes (wd_PatternReader_read cC cI a0_0 a1_0 a1_1 a2_0 a2_1 a2_2 a2_3 a2_4 a2_5 a2_6 a2_7 a2_8 a2_9 a2_10 a2_11 a2_12 v0 v1 v2) H → va_D A (wd_PatternReader_read cC cI a0_0 a1_0 a1_1 a2_0 a2_1 a2_2 a2_3 a2_4 a2_5 a2_6 a2_7 a2_8 a2_9 a2_10 a2_11 a2_12 v0 v1 v2) → va_S A s.heap H locs → W p l e rm_PatternReader_read s m args below meth c H locs 0 0 (MQ below (q_PatternReader_read D cC cI a0_0 a1_0 a1_1 a2_0 a2_1 a2_2 a2_3 a2_4 a2_5 a2_6 a2_7 a2_8 a2_9 a2_10 a2_11 a2_12 v1 out A) args s 0 0 A) (F0 m 91 ls [.int s0])
def f_PatternReader_read_91 (v1 : T_Row) (v0 : T_PatternReader) (v2 : T_Pattern) (s0 : Int32) : Option O_PatternReader_read := some (s0, v0, v2)
set_option maxHeartbeats 4000000 in
set_option maxRecDepth 100000 in
theorem w_PatternReader_read_91 {p : Program} {l : Launch} {e : Env} {s : State} {m : MethodId} {args : Array Value} {below : List Frame} {meth : Method} {c : Code} {A : Nat → Prop} {D : va_G} {cC cI : ClassId} {a0_0 a1_0 a1_1 a2_0 a2_1 a2_2 a2_3 a2_4 a2_5 a2_6 a2_7 a2_8 a2_9 a2_10 a2_11 a2_12 : Nat} {v1 : T_Row} (X : xCX p s m args meth c A D cC cI b_PatternReader_read 3 R_PatternReader (some .int)) {out : O_PatternReader_read}   : J_PatternReader_read_91 p l e s m args below meth c A D cC cI a0_0 a1_0 a1_1 a2_0 a2_1 a2_2 a2_3 a2_4 a2_5 a2_6 a2_7 a2_8 a2_9 a2_10 a2_11 a2_12 v1 out (f_PatternReader_read_91 v1 ) := by
  obtain ⟨hx, hb, hml, hown, htB, ⟨hK, hN⟩, hZ, hA, hr, hlocks⟩ := id X
  intro v0 v2 s0 ls H locs h hl hP hD hS
  obtain rfl := Option.some.inj h
  exact W.iret (v := s0) hx hb hr (fun t ht hW => ⟨⟨s0, (), rfl, rfl, by rw [ht]; exact hP, hD⟩, hS.F ht⟩) hS.2.2 d_PatternReader_read_91 hlocks

def f_PatternReader_read_72 (v1 : T_Row) (v0 : T_PatternReader) (v2 : T_Pattern) : Option O_PatternReader_read := (f_Row_size v1).bind (fun o77 => (if o77 ≤ v0 then f_PatternReader_read_91 v1 v0 v2 (-1 : Int32) else f_PatternReader_read_91 v1 v0 v2 v0))
set_option maxHeartbeats 4000000 in
set_option maxRecDepth 100000 in
theorem w_PatternReader_read_72 {p : Program} {l : Launch} {e : Env} {s : State} {m : MethodId} {args : Array Value} {below : List Frame} {meth : Method} {c : Code} {A : Nat → Prop} {D : va_G} {cC cI : ClassId} {a0_0 a1_0 a1_1 a2_0 a2_1 a2_2 a2_3 a2_4 a2_5 a2_6 a2_7 a2_8 a2_9 a2_10 a2_11 a2_12 : Nat} {v1 : T_Row} (X : xCX p s m args meth c A D cC cI b_PatternReader_read 3 R_PatternReader (some .int)) {out : O_PatternReader_read}   : J_PatternReader_read_72 p l e s m args below meth c A D cC cI a0_0 a1_0 a1_1 a2_0 a2_1 a2_2 a2_3 a2_4 a2_5 a2_6 a2_7 a2_8 a2_9 a2_10 a2_11 a2_12 v1 out (f_PatternReader_read_72 v1 ) := by
  obtain ⟨hx, hb, hml, hown, htB, ⟨hK, hN⟩, hZ, hA, hr, hlocks⟩ := id X
  intro v0 v2 ls H locs h hl hP hD hS
  refine lv_aload_n hx hb d_PatternReader_read_72 rfl (lv_at hl 0 rfl) ?_
  refine va_get (D := D) (ci := 5) (v := .int v0) (C := R_PatternReader) (T := F_PatternReader) (N := 1) hx hb htB in_PatternReader hown hK hP 0 rfl rfl 0 (by decide) (htB _ b_54) (fun _ h9 => h9) rfl d_PatternReader_read_73 ?_
  refine lv_aload_n hx hb d_PatternReader_read_76 rfl (lv_at hl 1 rfl) ?_
  obtain ⟨o77, ho77, h⟩ := x_bnd h
  refine x_calli (r0 := o77) (ws2 := (wd_PatternReader_read cC cI a0_0 a1_0 a1_1 a2_0 a2_1 a2_2 a2_3 a2_4 a2_5 a2_6 a2_7 a2_8 a2_9 a2_10 a2_11 a2_12 v0 v1 v2)) (x_runVN (As := []) (rest := [.int v0]) X (c_Row_size l D cC cI H.size a1_0 a1_1 v1 o77 ho77) b_51 0 (hN _ n_11) (htB _ b_52) (htB _ b_53) (htB _ b_22) ⟨by decide, by decide, by decide +kernel⟩ ⟨(Nat.le_of_ble_eq_true rfl), (Nat.le_of_ble_eq_true rfl)⟩ 1 rfl rfl hP hD hS [1, 2] rfl (by decide) rfl rfl hl.1 rfl rfl (Nat.le_of_ble_eq_true rfl) d_PatternReader_read_77) hP hD hS hA [1, 2] [0, 3, 4, 5, 6, 7, 8, 9, 10, 11, 12, 13, 14, 15] [0, 14, 15, 1, 2, 3, 4, 5, 6, 7, 8, 9, 10, 11, 12, 13] rfl rfl (by decide) (by decide) rfl (by decide) (fun H locs hP hD hS => ?_)
  refine lv_icmp_ge (tgt := 90) hx hb d_PatternReader_read_80 rfl (fun hc => ?_) (fun hc => ?_)
  · have h := (if_pos hc).symm.trans h
    refine lv_iconst (v := -1) hx hb d_PatternReader_read_90 (by decide) ?_
    exact w_PatternReader_read_91 X v0 v2 (-1 : Int32) ls H locs h (lv_sub hl [] rfl) hP hD hS
  have h := (if_neg hc).symm.trans h
  refine lv_aload_n hx hb d_PatternReader_read_83 rfl (lv_at hl 0 rfl) ?_
  refine va_get (D := D) (ci := 5) (v := .int v0) (C := R_PatternReader) (T := F_PatternReader) (N := 1) hx hb htB in_PatternReader hown hK hP 0 rfl rfl 0 (by decide) (htB _ b_54) (fun _ h9 => h9) rfl d_PatternReader_read_84 ?_
  refine lv_goto (tgt := 91) hx hb d_PatternReader_read_87 rfl ?_
  exact w_PatternReader_read_91 X v0 v2 v0 ls H locs h (lv_sub hl [] rfl) hP hD hS

def f_PatternReader_read (v0 : T_PatternReader) (v1 : T_Row) (v2 : T_Pattern) : Option O_PatternReader_read := (f_PatternReader_readPart (0 : Int32) v1 v2.1).bind (fun o16 => (if o16.1 = 0 then some (o16.2.1, o16.2.1, (o16.2.2, v2.2.1, (0 : Int32), v2.2.2.2)) else (f_Row_at v1 o16.2.1).bind (fun o32 => (if o32 = (59 : Int32) then (f_PatternReader_readPart (o16.2.1 + (1 : Int32)) v1 v2.2.1).bind (fun o61 => (if o61.1 = 0 then some (o61.2.1, o61.2.1, (o16.2.2, o61.2.2, (1 : Int32), v2.2.2.2)) else f_PatternReader_read_72 v1 o61.2.1 (o16.2.2, o61.2.2, (1 : Int32), v2.2.2.2))) else f_PatternReader_read_72 v1 o16.2.1 (o16.2.2, v2.2.1, (0 : Int32), v2.2.2.2)))))
set_option maxHeartbeats 4000000 in
set_option maxRecDepth 100000 in
theorem w_PatternReader_read {p : Program} {l : Launch} {e : Env} {s : State} {m : MethodId} {args : Array Value} {below : List Frame} {meth : Method} {c : Code} {A : Nat → Prop} {D : va_G} {cC cI : ClassId} {a0_0 a1_0 a1_1 a2_0 a2_1 a2_2 a2_3 a2_4 a2_5 a2_6 a2_7 a2_8 a2_9 a2_10 a2_11 a2_12 : Nat} {v1 : T_Row} (X : xCX p s m args meth c A D cC cI b_PatternReader_read 3 R_PatternReader (some .int)) {out : O_PatternReader_read} (v0 : T_PatternReader) (v2 : T_Pattern) {ls : Array Slot} {H : Heap} {locs : List Loc} (h : f_PatternReader_read v0 v1 v2 = some out) (hl : lv_has ls 3 [(0, .ref a0_0), (1, .ref a1_0), (2, .ref a2_0)]) (hP : va_P D classes (wd_PatternReader_read cC cI a0_0 a1_0 a1_1 a2_0 a2_1 a2_2 a2_3 a2_4 a2_5 a2_6 a2_7 a2_8 a2_9 a2_10 a2_11 a2_12 v0 v1 v2) H) (hD : va_D A (wd_PatternReader_read cC cI a0_0 a1_0 a1_1 a2_0 a2_1 a2_2 a2_3 a2_4 a2_5 a2_6 a2_7 a2_8 a2_9 a2_10 a2_11 a2_12 v0 v1 v2)) (hS : va_S A s.heap H locs) : W p l e rm_PatternReader_read s m args below meth c H locs 0 0 (MQ below (q_PatternReader_read D cC cI a0_0 a1_0 a1_1 a2_0 a2_1 a2_2 a2_3 a2_4 a2_5 a2_6 a2_7 a2_8 a2_9 a2_10 a2_11 a2_12 v1 out A) args s 0 0 A) (F0 m 0 ls []) := by
  obtain ⟨hx, hb, hml, hown, htB, ⟨hK, hN⟩, hZ, hA, hr, hlocks⟩ := id X
  refine lv_aload_n hx hb d_PatternReader_read_0 rfl (lv_at hl 0 rfl) ?_
  refine lv_iconst (v := 0) hx hb d_PatternReader_read_1 (by decide) ?_
  refine va_put (D := D) (ci := 5) (v := .int (0 : Int32)) (ty := .int) (C := R_PatternReader) (T := F_PatternReader) (N := 1) hx hb htB in_PatternReader t_PatternReader t_PatternReader_ok n_PatternReader hown hK hP hD hS 0 rfl rfl 0 (by decide) (htB _ b_54) (fun _ h9 => h9) rfl (by decide +kernel) rfl rfl (Nat.le_of_ble_eq_true rfl) d_PatternReader_read_2 (fun H locs hP hD hS => ?_)
  have hP : va_P D classes (wd_PatternReader_read cC cI a0_0 a1_0 a1_1 a2_0 a2_1 a2_2 a2_3 a2_4 a2_5 a2_6 a2_7 a2_8 a2_9 a2_10 a2_11 a2_12 (0 : Int32) v1 v2) H := hP
  have hD : va_D A (wd_PatternReader_read cC cI a0_0 a1_0 a1_1 a2_0 a2_1 a2_2 a2_3 a2_4 a2_5 a2_6 a2_7 a2_8 a2_9 a2_10 a2_11 a2_12 (0 : Int32) v1 v2) := hD
  refine lv_aload_n hx hb d_PatternReader_read_5 rfl (lv_at hl 2 rfl) ?_
  refine lv_iconst (v := 0) hx hb d_PatternReader_read_6 (by decide) ?_
  refine va_putN (D := D) (ci := 4) (v := .int (0 : Int32)) (ty := .boolean) (C := R_Pattern) (T := F_Pattern) (N := 4) hx hb htB in_Pattern t_Pattern t_Pattern_ok n_Pattern hown hK hP hD hS 3 rfl rfl 2 (by decide) (va_Nw.use rfl (hN _ n_24)) (fun _ h9 => h9) rfl (by decide +kernel) rfl rfl (Nat.le_of_ble_eq_true rfl) d_PatternReader_read_7 (fun H locs hP hD hS => ?_)
  have hP : va_P D classes (wd_PatternReader_read cC cI a0_0 a1_0 a1_1 a2_0 a2_1 a2_2 a2_3 a2_4 a2_5 a2_6 a2_7 a2_8 a2_9 a2_10 a2_11 a2_12 (0 : Int32) v1 (v2.1, v2.2.1, (0 : Int32), v2.2.2.2)) H := hP
  have hD : va_D A (wd_PatternReader_read cC cI a0_0 a1_0 a1_1 a2_0 a2_1 a2_2 a2_3 a2_4 a2_5 a2_6 a2_7 a2_8 a2_9 a2_10 a2_11 a2_12 (0 : Int32) v1 (v2.1, v2.2.1, (0 : Int32), v2.2.2.2)) := hD
  refine lv_aload_n hx hb d_PatternReader_read_10 rfl (lv_at hl 0 rfl) ?_
  refine lv_aload_n hx hb d_PatternReader_read_11 rfl (lv_at hl 1 rfl) ?_
  refine lv_aload_n hx hb d_PatternReader_read_12 rfl (lv_at hl 2 rfl) ?_
  refine va_getN (D := D) (ci := 4) (v := .ref a2_1) (C := R_Pattern) (T := F_Pattern) (N := 4) hx hb htB in_Pattern hown hK hP 3 rfl rfl 0 (by decide) (va_Nw.use rfl (hN _ n_25)) (fun _ h9 => h9) rfl d_PatternReader_read_13 ?_
  obtain ⟨o16, ho16, h⟩ := x_bnd h
  refine x_calli (r0 := o16.1) (ws2 := (wd_PatternReader_read cC cI a0_0 a1_0 a1_1 a2_0 a2_1 a2_2 a2_3 a2_4 a2_5 a2_6 a2_7 a2_8 a2_9 a2_10 a2_11 a2_12 o16.2.1 v1 (o16.2.2, v2.2.1, (0 : Int32), v2.2.2.2))) (x_runV (As := [.ref a1_0, .ref a2_1]) (rest := []) X (c_PatternReader_readPart l D cC cI H.size a0_0 a1_0 a1_1 a2_1 a2_2 a2_3 a2_4 a2_5 a2_6 (0 : Int32) v1 v2.1 o16 ho16) b_95 2 (htB _ b_98) (htB _ b_96) (htB _ b_97) (htB _ b_72) ⟨by decide, by decide, by decide +kernel⟩ ⟨(Nat.le_of_ble_eq_true rfl), (Nat.le_of_ble_eq_true rfl)⟩ 0 rfl rfl hP hD hS [0, 1, 2, 4, 5, 6, 7, 8, 9] rfl (by decide) rfl rfl hl.1 rfl rfl (Nat.le_of_ble_eq_true rfl) d_PatternReader_read_16) hP hD hS hA [0, 1, 2, 4, 5, 6, 7, 8, 9] [3, 10, 11, 12, 13, 14, 15] [7, 8, 9, 0, 10, 11, 12, 13, 14, 15, 1, 2, 3, 4, 5, 6] rfl rfl (by decide) (by decide) rfl (by decide) (fun H locs hP hD hS => ?_)
  refine lv_if_ne (tgt := 27) hx hb d_PatternReader_read_19 rfl (fun hc => ?_) (fun hc => ?_)
  · have h := (if_neg hc).symm.trans h
    refine lv_aload_n hx hb d_PatternReader_read_27 rfl (lv_at hl 1 rfl) ?_
    refine lv_aload_n hx hb d_PatternReader_read_28 rfl (lv_at hl 0 rfl) ?_
    refine va_get (D := D) (ci := 5) (v := .int o16.2.1) (C := R_PatternReader) (T := F_PatternReader) (N := 1) hx hb htB in_PatternReader hown hK hP 0 rfl rfl 0 (by decide) (htB _ b_54) (fun _ h9 => h9) rfl d_PatternReader_read_29 ?_
    obtain ⟨o32, ho32, h⟩ := x_bnd h
    refine x_calli (r0 := o32) (ws2 := (wd_PatternReader_read cC cI a0_0 a1_0 a1_1 a2_0 a2_1 a2_2 a2_3 a2_4 a2_5 a2_6 a2_7 a2_8 a2_9 a2_10 a2_11 a2_12 o16.2.1 v1 (o16.2.2, v2.2.1, (0 : Int32), v2.2.2.2))) (x_runVN (As := [.int o16.2.1]) (rest := []) X (c_Row_at l D cC cI H.size a1_0 a1_1 v1 o16.2.1 o32 ho32) b_25 1 (hN _ n_12) (htB _ b_26) (htB _ b_27) (htB _ b_22) ⟨by decide, by decide, by decide +kernel⟩ ⟨(Nat.le_of_ble_eq_true rfl), (Nat.le_of_ble_eq_true rfl)⟩ 1 rfl rfl hP hD hS [1, 2] rfl (by decide) rfl rfl hl.1 rfl rfl (Nat.le_of_ble_eq_true rfl) d_PatternReader_read_32) hP hD hS hA [1, 2] [0, 3, 4, 5, 6, 7, 8, 9, 10, 11, 12, 13, 14, 15] [0, 14, 15, 1, 2, 3, 4, 5, 6, 7, 8, 9, 10, 11, 12, 13] rfl rfl (by decide) (by decide) rfl (by decide) (fun H locs hP hD hS => ?_)
    refine lv_bipush (v := 59) hx hb d_PatternReader_read_35 (by decide) ?_
    refine lv_icmp_ne (tgt := 72) hx hb d_PatternReader_read_37 rfl (fun hc => ?_) (fun hc => ?_)
    · have h := (if_neg hc).symm.trans h
      exact w_PatternReader_read_72 X o16.2.1 (o16.2.2, v2.2.1, (0 : Int32), v2.2.2.2) ls H locs h (lv_sub hl [0, 1] rfl) hP hD hS
    have h := (if_pos hc).symm.trans h
    refine lv_aload_n hx hb d_PatternReader_read_40 rfl (lv_at hl 0 rfl) ?_
    refine lv_dup hx hb d_PatternReader_read_41 rfl ?_
    refine va_get (D := D) (ci := 5) (v := .int o16.2.1) (C := R_PatternReader) (T := F_PatternReader) (N := 1) hx hb htB in_PatternReader hown hK hP 0 rfl rfl 0 (by decide) (htB _ b_54) (fun _ h9 => h9) rfl d_PatternReader_read_42 ?_
    refine lv_iconst (v := 1) hx hb d_PatternReader_read_45 (by decide) ?_
    refine lv_iadd hx hb d_PatternReader_read_46 ?_
    refine va_put (D := D) (ci := 5) (v := .int (o16.2.1 + (1 : Int32))) (ty := .int) (C := R_PatternReader) (T := F_PatternReader) (N := 1) hx hb htB in_PatternReader t_PatternReader t_PatternReader_ok n_PatternReader hown hK hP hD hS 0 rfl rfl 0 (by decide) (htB _ b_54) (fun _ h9 => h9) rfl (by decide +kernel) rfl rfl (Nat.le_of_ble_eq_true rfl) d_PatternReader_read_47 (fun H locs hP hD hS => ?_)
    have hP : va_P D classes (wd_PatternReader_read cC cI a0_0 a1_0 a1_1 a2_0 a2_1 a2_2 a2_3 a2_4 a2_5 a2_6 a2_7 a2_8 a2_9 a2_10 a2_11 a2_12 (o16.2.1 + (1 : Int32)) v1 (o16.2.2, v2.2.1, (0 : Int32), v2.2.2.2)) H := hP
    have hD : va_D A (wd_PatternReader_read cC cI a0_0 a1_0 a1_1 a2_0 a2_1 a2_2 a2_3 a2_4 a2_5 a2_6 a2_7 a2_8 a2_9 a2_10 a2_11 a2_12 (o16.2.1 + (1 : Int32)) v1 (o16.2.2, v2.2.1, (0 : Int32), v2.2.2.2)) := hD
    refine lv_aload_n hx hb d_PatternReader_read_50 rfl (lv_at hl 2 rfl) ?_
    refine lv_iconst (v := 1) hx hb d_PatternReader_read_51 (by decide) ?_
    refine va_putN (D := D) (ci := 4) (v := .int (1 : Int32)) (ty := .boolean) (C := R_Pattern) (T := F_Pattern) (N := 4) hx hb htB in_Pattern t_Pattern t_Pattern_ok n_Pattern hown hK hP hD hS 3 rfl rfl 2 (by decide) (va_Nw.use rfl (hN _ n_24)) (fun _ h9 => h9) rfl (by decide +kernel) rfl rfl (Nat.le_of_ble_eq_true rfl) d_PatternReader_read_52 (fun H locs hP hD hS => ?_)
    have hP : va_P D classes (wd_PatternReader_read cC cI a0_0 a1_0 a1_1 a2_0 a2_1 a2_2 a2_3 a2_4 a2_5 a2_6 a2_7 a2_8 a2_9 a2_10 a2_11 a2_12 (o16.2.1 + (1 : Int32)) v1 (o16.2.2, v2.2.1, (1 : Int32), v2.2.2.2)) H := hP
    have hD : va_D A (wd_PatternReader_read cC cI a0_0 a1_0 a1_1 a2_0 a2_1 a2_2 a2_3 a2_4 a2_5 a2_6 a2_7 a2_8 a2_9 a2_10 a2_11 a2_12 (o16.2.1 + (1 : Int32)) v1 (o16.2.2, v2.2.1, (1 : Int32), v2.2.2.2)) := hD
    refine lv_aload_n hx hb d_PatternReader_read_55 rfl (lv_at hl 0 rfl) ?_
    refine lv_aload_n hx hb d_PatternReader_read_56 rfl (lv_at hl 1 rfl) ?_
    refine lv_aload_n hx hb d_PatternReader_read_57 rfl (lv_at hl 2 rfl) ?_
    refine va_getN (D := D) (ci := 4) (v := .ref a2_7) (C := R_Pattern) (T := F_Pattern) (N := 4) hx hb htB in_Pattern hown hK hP 3 rfl rfl 1 (by decide) (va_Nw.use rfl (hN _ n_26)) (fun _ h9 => h9) rfl d_PatternReader_read_58 ?_
    obtain ⟨o61, ho61, h⟩ := x_bnd h
    refine x_calli (r0 := o61.1) (ws2 := (wd_PatternReader_read cC cI a0_0 a1_0 a1_1 a2_0 a2_1 a2_2 a2_3 a2_4 a2_5 a2_6 a2_7 a2_8 a2_9 a2_10 a2_11 a2_12 o61.2.1 v1 (o16.2.2, o61.2.2, (1 : Int32), v2.2.2.2))) (x_runV (As := [.ref a1_0, .ref a2_7]) (rest := []) X (c_PatternReader_readPart l D cC cI H.size a0_0 a1_0 a1_1 a2_7 a2_8 a2_9 a2_10 a2_11 a2_12 (o16.2.1 + (1 : Int32)) v1 v2.2.1 o61 ho61) b_95 2 (htB _ b_98) (htB _ b_96) (htB _ b_97) (htB _ b_72) ⟨by decide, by decide, by decide +kernel⟩ ⟨(Nat.le_of_ble_eq_true rfl), (Nat.le_of_ble_eq_true rfl)⟩ 0 rfl rfl hP hD hS [0, 1, 2, 10, 11, 12, 13, 14, 15] rfl (by decide) rfl rfl hl.1 rfl rfl (Nat.le_of_ble_eq_true rfl) d_PatternReader_read_61) hP hD hS hA [0, 1, 2, 10, 11, 12, 13, 14, 15] [3, 4, 5, 6, 7, 8, 9] [7, 8, 9, 0, 1, 2, 3, 4, 5, 6, 10, 11, 12, 13, 14, 15] rfl rfl (by decide) (by decide) rfl (by decide) (fun H locs hP hD hS => ?_)
    refine lv_if_ne (tgt := 72) hx hb d_PatternReader_read_64 rfl (fun hc => ?_) (fun hc => ?_)
    · have h := (if_neg hc).symm.trans h
      exact w_PatternReader_read_72 X o61.2.1 (o16.2.2, o61.2.2, (1 : Int32), v2.2.2.2) ls H locs h (lv_sub hl [0, 1] rfl) hP hD hS
    have h := (if_pos hc).symm.trans h
    refine lv_aload_n hx hb d_PatternReader_read_67 rfl (lv_at hl 0 rfl) ?_
    refine va_get (D := D) (ci := 5) (v := .int o61.2.1) (C := R_PatternReader) (T := F_PatternReader) (N := 1) hx hb htB in_PatternReader hown hK hP 0 rfl rfl 0 (by decide) (htB _ b_54) (fun _ h9 => h9) rfl d_PatternReader_read_68 ?_
    obtain rfl := Option.some.inj h
    exact W.iret (v := o61.2.1) hx hb hr (fun t ht hW => ⟨⟨o61.2.1, (), rfl, rfl, by rw [ht]; exact hP, hD⟩, hS.F ht⟩) hS.2.2 d_PatternReader_read_71 hlocks
  have h := (if_pos hc).symm.trans h
  refine lv_aload_n hx hb d_PatternReader_read_22 rfl (lv_at hl 0 rfl) ?_
  refine va_get (D := D) (ci := 5) (v := .int o16.2.1) (C := R_PatternReader) (T := F_PatternReader) (N := 1) hx hb htB in_PatternReader hown hK hP 0 rfl rfl 0 (by decide) (htB _ b_54) (fun _ h9 => h9) rfl d_PatternReader_read_23 ?_
  obtain rfl := Option.some.inj h
  exact W.iret (v := o16.2.1) hx hb hr (fun t ht hW => ⟨⟨o16.2.1, (), rfl, rfl, by rw [ht]; exact hP, hD⟩, hS.F ht⟩) hS.2.2 d_PatternReader_read_26 hlocks

set_option maxHeartbeats 4000000 in
set_option maxRecDepth 100000 in
theorem c_PatternReader_read (l : Launch) (D : va_G) (cC cI : ClassId) (sz : Nat) (a0_0 a1_0 a1_1 a2_0 a2_1 a2_2 a2_3 a2_4 a2_5 a2_6 a2_7 a2_8 a2_9 a2_10 a2_11 a2_12 : Nat) (v0 : T_PatternReader) (v1 : T_Row) (v2 : T_Pattern) (out : O_PatternReader_read) (h : f_PatternReader_read v0 v1 v2 = some out) : Met l y_PatternReader_read (.code y_PatternReader_read b_PatternReader_read 3 (some .int) :: BIG) rm_PatternReader_read (va_Pc [.ref a0_0, .ref a1_0, .ref a2_0] (xPre D cC cI (wd_PatternReader_read cC cI a0_0 a1_0 a1_1 a2_0 a2_1 a2_2 a2_3 a2_4 a2_5 a2_6 a2_7 a2_8 a2_9 a2_10 a2_11 a2_12 v0 v1 v2) sz)) (q_PatternReader_read D cC cI a0_0 a1_0 a1_1 a2_0 a2_1 a2_2 a2_3 a2_4 a2_5 a2_6 a2_7 a2_8 a2_9 a2_10 a2_11 a2_12 v1 out (va_A (wd_PatternReader_read cC cI a0_0 a1_0 a1_1 a2_0 a2_1 a2_2 a2_3 a2_4 a2_5 a2_6 a2_7 a2_8 a2_9 a2_10 a2_11 a2_12 v0 v1 v2) sz)) 0 0 (va_A (wd_PatternReader_read cC cI a0_0 a1_0 a1_1 a2_0 a2_1 a2_2 a2_3 a2_4 a2_5 a2_6 a2_7 a2_8 a2_9 a2_10 a2_11 a2_12 v0 v1 v2) sz) := by
  refine Met.ofW (cc := b_PatternReader_read) (maxL := 3) (ret := (some .int)) (by decide) rfl ?_
  intro p e s m args below meth c s₁ B hml hv
  obtain ⟨rfl, rfl, hP, hD0, hG, hZ⟩ := hv
  have hl := lv_entry [.ref a0_0, .ref a1_0, .ref a2_0] (n := 3) (Nat.le_of_ble_eq_true rfl)
  rw [lg_entry_eq]
  exact w_PatternReader_read (x_cx B hml hG hZ) v0 v2 h hl hP hD0.self va_S.rf

