abbrev wd_PatternWriter_needsQuotes (cC cI : ClassId)  : va_W := []
abbrev O_PatternWriter_needsQuotes : Type := Int32
abbrev q_PatternWriter_needsQuotes (D : va_G) (cC cI : ClassId)  (out : O_PatternWriter_needsQuotes) (A : Nat → Prop) : Array Value → State → Outcome → State → Prop := va_Qi (fun r (_ : Unit) => r = out) (fun _ t => va_P D classes (wd_PatternWriter_needsQuotes cC cI ) t.heap ∧ va_D A (wd_PatternWriter_needsQuotes cC cI )) A
abbrev rm_PatternWriter_needsQuotes : Room := { frames := 1, cells := 0, slots := 0, locals := 20 }
def J_PatternWriter_needsQuotes_13 (p : Program) (l : Launch) (e : Env) (s : State) (m : MethodId) (args : Array Value) (below : List Frame) (meth : Method) (c : Code) (A : Nat → Prop) (D : va_G) (cC cI : ClassId) (out : O_PatternWriter_needsQuotes) (k : Option O_PatternWriter_needsQuotes) : Prop := ∀  (ls : Array Slot) (H : Heap) (locs : List Loc), k  = some out → lv_has ls 1 [] → va_P D classes (wd_PatternWriter_needsQuotes cC cI) H → va_D A (wd_PatternWriter_needsQuotes cC cI) → va_S A s.heap H locs → W p l e rm_PatternWriter_needsQuotes s m args below meth c H locs 0 0 (MQ below (q_PatternWriter_needsQuotes D cC cI  out A) args s 0 0 A) (F0 m 13 ls [])
def J_PatternWriter_needsQuotes_18 (p : Program) (l : Launch) (e : Env) (s : State) (m : MethodId) (args : Array Value) (below : List Frame) (meth : Method) (c : Code) (A : Nat → Prop) (D : va_G) (cC cI : ClassId) (out : O_PatternWriter_needsQuotes) (k : Int32 → Option O_PatternWriter_needsQuotes) : Prop := ∀ (s0 : Int32) (ls : Array Slot) (H : Heap) (locs : List Loc), k s0 = some out → lv_has ls 1 [] → va_P D classes (wd_PatternWriter_needsQuotes cC cI) H → va_D A (wd_PatternWriter_needsQuotes cC cI) → va_S A s.heap H locs → W p l e rm_PatternWriter_needsQuotes s m args below meth c H locs 0 0 (MQ below (q_PatternWriter_needsQuotes D cC cI  out A) args s 0 0 A) (F0 m 18 ls [.int s0])
def f_PatternWriter_needsQuotes_18 (s0 : Int32) : Option O_PatternWriter_needsQuotes := if (s0 = 0 ∨ s0 = 1) then some s0 else none
set_option maxHeartbeats 4000000 in
set_option maxRecDepth 100000 in
theorem w_PatternWriter_needsQuotes_18 {p : Program} {l : Launch} {e : Env} {s : State} {m : MethodId} {args : Array Value} {below : List Frame} {meth : Method} {c : Code} {A : Nat → Prop} {D : va_G} {cC cI : ClassId} (X : xCX p s m args meth c A D cC cI b_PatternWriter_needsQuotes 1 R_PatternWriter (some .boolean)) {out : O_PatternWriter_needsQuotes}   : J_PatternWriter_needsQuotes_18 p l e s m args below meth c A D cC cI  out (f_PatternWriter_needsQuotes_18  ) := by
  obtain ⟨hx, hb, hml, hown, htB, ⟨hK, hN⟩, hZ, hA, hr, hlocks⟩ := id X
  intro s0 ls H locs h hl hP hD hS
  obtain ⟨hc, h⟩ := x_chk h
  obtain rfl := Option.some.inj h
  exact W.zret (v := s0) (ty := .boolean) hx hb hr (x_zn hc) (fun t ht hW => ⟨⟨s0, (), rfl, rfl, by rw [ht]; exact hP, hD⟩, hS.F ht⟩) hS.2.2 d_PatternWriter_needsQuotes_18 hlocks

def f_PatternWriter_needsQuotes_13 : Option O_PatternWriter_needsQuotes := f_PatternWriter_needsQuotes_18 (1 : Int32)
set_option maxHeartbeats 4000000 in
set_option maxRecDepth 100000 in
theorem w_PatternWriter_needsQuotes_13 {p : Program} {l : Launch} {e : Env} {s : State} {m : MethodId} {args : Array Value} {below : List Frame} {meth : Method} {c : Code} {A : Nat → Prop} {D : va_G} {cC cI : ClassId} (X : xCX p s m args meth c A D cC cI b_PatternWriter_needsQuotes 1 R_PatternWriter (some .boolean)) {out : O_PatternWriter_needsQuotes}   : J_PatternWriter_needsQuotes_13 p l e s m args below meth c A D cC cI  out (f_PatternWriter_needsQuotes_13  ) := by
  obtain ⟨hx, hb, hml, hown, htB, ⟨hK, hN⟩, hZ, hA, hr, hlocks⟩ := id X
  intro  ls H locs h hl hP hD hS
  refine lv_iconst (v := 1) hx hb d_PatternWriter_needsQuotes_13 (by decide) ?_
  refine lv_goto (tgt := 18) hx hb d_PatternWriter_needsQuotes_14 rfl ?_
  exact w_PatternWriter_needsQuotes_18 X (1 : Int32) ls H locs h (lv_sub hl [] rfl) hP hD hS

def f_PatternWriter_needsQuotes (v0 : Int32) : Option O_PatternWriter_needsQuotes := (if v0 = (37 : Int32) then f_PatternWriter_needsQuotes_13 else (f_Deci_isSpecial v0).bind (fun o7 => (if o7 = 0 then f_PatternWriter_needsQuotes_18 (0 : Int32) else f_PatternWriter_needsQuotes_13)))
set_option maxHeartbeats 4000000 in
set_option maxRecDepth 100000 in
theorem w_PatternWriter_needsQuotes {p : Program} {l : Launch} {e : Env} {s : State} {m : MethodId} {args : Array Value} {below : List Frame} {meth : Method} {c : Code} {A : Nat → Prop} {D : va_G} {cC cI : ClassId} (X : xCX p s m args meth c A D cC cI b_PatternWriter_needsQuotes 1 R_PatternWriter (some .boolean)) {out : O_PatternWriter_needsQuotes} (v0 : Int32) {ls : Array Slot} {H : Heap} {locs : List Loc} (h : f_PatternWriter_needsQuotes v0 = some out) (hl : lv_has ls 1 [(0, .int v0)]) (hP : va_P D classes (wd_PatternWriter_needsQuotes cC cI) H) (hD : va_D A (wd_PatternWriter_needsQuotes cC cI)) (hS : va_S A s.heap H locs) : W p l e rm_PatternWriter_needsQuotes s m args below meth c H locs 0 0 (MQ below (q_PatternWriter_needsQuotes D cC cI  out A) args s 0 0 A) (F0 m 0 ls []) := by
  obtain ⟨hx, hb, hml, hown, htB, ⟨hK, hN⟩, hZ, hA, hr, hlocks⟩ := id X
  refine lv_iload_n hx hb d_PatternWriter_needsQuotes_0 rfl (lv_at hl 0 rfl) ?_
  refine lv_bipush (v := 37) hx hb d_PatternWriter_needsQuotes_1 (by decide) ?_
  refine lv_icmp_eq (tgt := 13) hx hb d_PatternWriter_needsQuotes_3 rfl (fun hc => ?_) (fun hc => ?_)
  · have h := (if_pos hc).symm.trans h
    exact w_PatternWriter_needsQuotes_13 X ls H locs h (lv_sub hl [] rfl) hP hD hS
  have h := (if_neg hc).symm.trans h
  refine lv_iload_n hx hb d_PatternWriter_needsQuotes_6 rfl (lv_at hl 0 rfl) ?_
  obtain ⟨o7, ho7, h⟩ := x_bnd h
  refine x_calli (r0 := o7) (ws2 := (wd_PatternWriter_needsQuotes cC cI)) (x_runSN (As := [.int v0]) (rest := []) X (c_Deci_isSpecial l D cC cI H.size v0 o7 ho7) b_55 1 (hN _ n_27) (htB _ b_57) (htB _ b_56) ⟨by decide, by decide, by decide +kernel⟩ ⟨(Nat.le_of_ble_eq_true rfl), (Nat.le_of_ble_eq_true rfl)⟩ hP hD hS [] rfl (by decide) rfl rfl hl.1 rfl rfl (Nat.le_of_ble_eq_true rfl) d_PatternWriter_needsQuotes_7) hP hD hS hA [] [] [] rfl rfl (by decide) (by decide) rfl (by decide) (fun H locs hP hD hS => ?_)
  refine lv_if_eq (tgt := 17) hx hb d_PatternWriter_needsQuotes_10 rfl (fun hc => ?_) (fun hc => ?_)
  · have h := (if_pos hc).symm.trans h
    refine lv_iconst (v := 0) hx hb d_PatternWriter_needsQuotes_17 (by decide) ?_
    exact w_PatternWriter_needsQuotes_18 X (0 : Int32) ls H locs h (lv_sub hl [] rfl) hP hD hS
  have h := (if_neg hc).symm.trans h
  exact w_PatternWriter_needsQuotes_13 X ls H locs h (lv_sub hl [] rfl) hP hD hS

set_option maxHeartbeats 4000000 in
set_option maxRecDepth 100000 in
theorem c_PatternWriter_needsQuotes (l : Launch) (D : va_G) (cC cI : ClassId) (sz : Nat) (v0 : Int32) (out : O_PatternWriter_needsQuotes) (h : f_PatternWriter_needsQuotes v0 = some out) : Met l y_PatternWriter_needsQuotes (.code y_PatternWriter_needsQuotes b_PatternWriter_needsQuotes 1 (some .boolean) :: BIG) rm_PatternWriter_needsQuotes (va_Pc [.int v0] (xPre D cC cI (wd_PatternWriter_needsQuotes cC cI) sz)) (q_PatternWriter_needsQuotes D cC cI  out (va_A (wd_PatternWriter_needsQuotes cC cI) sz)) 0 0 (va_A (wd_PatternWriter_needsQuotes cC cI) sz) := by
  refine Met.ofW (cc := b_PatternWriter_needsQuotes) (maxL := 1) (ret := (some .boolean)) (by decide) rfl ?_
  intro p e s m args below meth c s₁ B hml hv
  obtain ⟨rfl, rfl, hP, hD0, hG, hZ⟩ := hv
  have hl := lv_entry [.int v0] (n := 1) (Nat.le_of_ble_eq_true rfl)
  rw [lg_entry_eq]
  exact w_PatternWriter_needsQuotes (x_cx B hml hG hZ) v0 h hl hP hD0.self va_S.rf

abbrev wd_PatternWriter_writeAffix (cC cI : ClassId) (a0_0 a1_0 a1_1 a2_0 a2_1 : Nat) (v0 : T_PatternWriter) (v1 : T_Affix) (v2 : T_Row) : va_W := [(a0_0, .inr (6, [])), (a1_0, .inr (1, [.ref a1_1, .int v1.2])), (a1_1, .inl (cI, 120, .inl v1.1)), (a2_0, .inr (0, [.ref a2_1, .int v2.2])), (a2_1, .inl (cC, 120, .inl v2.1))]
abbrev O_PatternWriter_writeAffix : Type := T_Row
abbrev q_PatternWriter_writeAffix (D : va_G) (cC cI : ClassId) (a0_0 a1_0 a1_1 a2_0 a2_1 : Nat) (v0 : T_PatternWriter) (v1 : T_Affix) (out : O_PatternWriter_writeAffix) (A : Nat → Prop) : Array Value → State → Outcome → State → Prop := va_Qv (fun _ : Unit => True) (fun _ t => va_P D classes (wd_PatternWriter_writeAffix cC cI a0_0 a1_0 a1_1 a2_0 a2_1 v0 v1 out) t.heap ∧ va_D A (wd_PatternWriter_writeAffix cC cI a0_0 a1_0 a1_1 a2_0 a2_1 v0 v1 out)) A
abbrev rm_PatternWriter_writeAffix : Room := { frames := 2, cells := 0, slots := 0, locals := 43 }
def J_PatternWriter_writeAffix_5 (p : Program) (l : Launch) (e : Env) (s : State) (m : MethodId) (args : Array Value) (below : List Frame) (meth : Method) (c : Code) (A : Nat → Prop) (D : va_G) (cC cI : ClassId) (a0_0 a1_0 a1_1 a2_0 a2_1 : Nat) (v0 : T_PatternWriter) (v1 : T_Affix) (out : O_PatternWriter_writeAffix) (k : T_Row → Int32 → Int32 → Option O_PatternWriter_writeAffix) : Prop := ∀ (v2 : T_Row) (x3 : Int32) (x4 : Int32) (ls : Array Slot) (H : Heap) (locs : List Loc), k v2 x3 x4 = some out → lv_has ls 6 [(1, .ref a1_0), (2, .ref a2_0), (3, .int x3), (4, .int x4)] → va_P D classes (wd_PatternWriter_writeAffix cC cI a0_0 a1_0 a1_1 a2_0 a2_1 v0 v1 v2) H → va_D A (wd_PatternWriter_writeAffix cC cI a0_0 a1_0 a1_1 a2_0 a2_1 v0 v1 v2) → va_S A s.heap H locs → W p l e rm_PatternWriter_writeAffix s m args below meth c H locs 0 0 (MQ below (q_PatternWriter_writeAffix D cC cI a0_0 a1_0 a1_1 a2_0 a2_1 v0 v1 out A) args s 0 0 A) (F0 m 5 ls [])
def J_PatternWriter_writeAffix_105 (p : Program) (l : Launch) (e : Env) (s : State) (m : MethodId) (args : Array Value) (below : List Frame) (meth : Method) (c : Code) (A : Nat → Prop) (D : va_G) (cC cI : ClassId) (a0_0 a1_0 a1_1 a2_0 a2_1 : Nat) (v0 : T_PatternWriter) (v1 : T_Affix) (out : O_PatternWriter_writeAffix) (k : T_Row → Option O_PatternWriter_writeAffix) : Prop := ∀ (v2 : T_Row) (ls : Array Slot) (H : Heap) (locs : List Loc), k v2 = some out → lv_has ls 6 [] → va_P D classes (wd_PatternWriter_writeAffix cC cI a0_0 a1_0 a1_1 a2_0 a2_1 v0 v1 v2) H → va_D A (wd_PatternWriter_writeAffix cC cI a0_0 a1_0 a1_1 a2_0 a2_1 v0 v1 v2) → va_S A s.heap H locs → W p l e rm_PatternWriter_writeAffix s m args below meth c H locs 0 0 (MQ below (q_PatternWriter_writeAffix D cC cI a0_0 a1_0 a1_1 a2_0 a2_1 v0 v1 out A) args s 0 0 A) (F0 m 105 ls [])
def f_PatternWriter_writeAffix_105 (v0 : T_PatternWriter) (v1 : T_Affix) (v2 : T_Row) : Option O_PatternWriter_writeAffix := some v2
set_option maxHeartbeats 4000000 in
set_option maxRecDepth 100000 in
theorem w_PatternWriter_writeAffix_105 {p : Program} {l : Launch} {e : Env} {s : State} {m : MethodId} {args : Array Value} {below : List Frame} {meth : Method} {c : Code} {A : Nat → Prop} {D : va_G} {cC cI : ClassId} {a0_0 a1_0 a1_1 a2_0 a2_1 : Nat} {v0 : T_PatternWriter} {v1 : T_Affix} (X : xCX p s m args meth c A D cC cI b_PatternWriter_writeAffix 6 R_PatternWriter none) {out : O_PatternWriter_writeAffix}   : J_PatternWriter_writeAffix_105 p l e s m args below meth c A D cC cI a0_0 a1_0 a1_1 a2_0 a2_1 v0 v1 out (f_PatternWriter_writeAffix_105 v0 v1 ) := by
  obtain ⟨hx, hb, hml, hown, htB, ⟨hK, hN⟩, hZ, hA, hr, hlocks⟩ := id X
  intro v2 ls H locs h hl hP hD hS
  obtain rfl := Option.some.inj h
  exact W.vret hx hb hr (fun t ht hW => ⟨⟨(), rfl, trivial, by rw [ht]; exact hP, hD⟩, hS.F ht⟩) hS.2.2 d_PatternWriter_writeAffix_105 hlocks

def J_PatternWriter_writeAffix_62 (p : Program) (l : Launch) (e : Env) (s : State) (m : MethodId) (args : Array Value) (below : List Frame) (meth : Method) (c : Code) (A : Nat → Prop) (D : va_G) (cC cI : ClassId) (a0_0 a1_0 a1_1 a2_0 a2_1 : Nat) (v0 : T_PatternWriter) (v1 : T_Affix) (out : O_PatternWriter_writeAffix) (k : T_Row → Int32 → Int32 → Int32 → Option O_PatternWriter_writeAffix) : Prop := ∀ (v2 : T_Row) (x3 : Int32) (x4 : Int32) (x5 : Int32) (ls : Array Slot) (H : Heap) (locs : List Loc), k v2 x3 x4 x5 = some out → lv_has ls 6 [(1, .ref a1_0), (2, .ref a2_0), (3, .int x3), (4, .int x4), (5, .int x5)] → va_P D classes (wd_PatternWriter_writeAffix cC cI a0_0 a1_0 a1_1 a2_0 a2_1 v0 v1 v2) H → va_D A (wd_PatternWriter_writeAffix cC cI a0_0 a1_0 a1_1 a2_0 a2_1 v0 v1 v2) → va_S A s.heap H locs → W p l e rm_PatternWriter_writeAffix s m args below meth c H locs 0 0 (MQ below (q_PatternWriter_writeAffix D cC cI a0_0 a1_0 a1_1 a2_0 a2_1 v0 v1 out A) args s 0 0 A) (F0 m 62 ls [])
def J_PatternWriter_writeAffix_76 (p : Program) (l : Launch) (e : Env) (s : State) (m : MethodId) (args : Array Value) (below : List Frame) (meth : Method) (c : Code) (A : Nat → Prop) (D : va_G) (cC cI : ClassId) (a0_0 a1_0 a1_1 a2_0 a2_1 : Nat) (v0 : T_PatternWriter) (v1 : T_Affix) (out : O_PatternWriter_writeAffix) (k : T_Row → Int32 → Int32 → Option O_PatternWriter_writeAffix) : Prop := ∀ (v2 : T_Row) (x3 : Int32) (x4 : Int32) (ls : Array Slot) (H : Heap) (locs : List Loc), k v2 x3 x4 = some out → lv_has ls 6 [(1, .ref a1_0), (2, .ref a2_0), (3, .int x3), (4, .int x4)] → va_P D classes (wd_PatternWriter_writeAffix cC cI a0_0 a1_0 a1_1 a2_0 a2_1 v0 v1 v2) H → va_D A (wd_PatternWriter_writeAffix cC cI a0_0 a1_0 a1_1 a2_0 a2_1 v0 v1 v2) → va_S A s.heap H locs → W p l e rm_PatternWriter_writeAffix s m args below meth c H locs 0 0 (MQ below (q_PatternWriter_writeAffix D cC cI a0_0 a1_0 a1_1 a2_0 a2_1 v0 v1 out A) args s 0 0 A) (F0 m 76 ls [])
def f_PatternWriter_writeAffix_76 (v0 : T_PatternWriter) (v1 : T_Affix) (k5 : T_Row → Int32 → Int32 → Option O_PatternWriter_writeAffix) (v2 : T_Row) (x3 : Int32) (x4 : Int32) : Option O_PatternWriter_writeAffix := (f_Affix_shownAt v1 x4).bind (fun o80 => (f_Row_add v2 (i2c o80)).bind (fun o84 => k5 o84.2 x3 (x4 + (1 : Int32))))
set_option maxHeartbeats 4000000 in
set_option maxRecDepth 100000 in
theorem w_PatternWriter_writeAffix_76 {p : Program} {l : Launch} {e : Env} {s : State} {m : MethodId} {args : Array Value} {below : List Frame} {meth : Method} {c : Code} {A : Nat → Prop} {D : va_G} {cC cI : ClassId} {a0_0 a1_0 a1_1 a2_0 a2_1 : Nat} {v0 : T_PatternWriter} {v1 : T_Affix} (X : xCX p s m args meth c A D cC cI b_PatternWriter_writeAffix 6 R_PatternWriter none) {out : O_PatternWriter_writeAffix} {k5 : T_Row → Int32 → Int32 → Option O_PatternWriter_writeAffix} (hk5 : J_PatternWriter_writeAffix_5 p l e s m args below meth c A D cC cI a0_0 a1_0 a1_1 a2_0 a2_1 v0 v1 out k5) : J_PatternWriter_writeAffix_76 p l e s m args below meth c A D cC cI a0_0 a1_0 a1_1 a2_0 a2_1 v0 v1 out (f_PatternWriter_writeAffix_76 v0 v1 k5) := by
  obtain ⟨hx, hb, hml, hown, htB, ⟨hK, hN⟩, hZ, hA, hr, hlocks⟩ := id X
  intro v2 x3 x4 ls H locs h hl hP hD hS
  refine lv_aload_n hx hb d_PatternWriter_writeAffix_76 rfl (lv_at hl 1 rfl) ?_
  refine lv_aload_n hx hb d_PatternWriter_writeAffix_77 rfl (lv_at hl 0 rfl) ?_
  refine lv_iload hx hb d_PatternWriter_writeAffix_78 (lv_at hl 3 rfl) ?_
  obtain ⟨o80, ho80, h⟩ := x_bnd h
  refine x_calli (r0 := o80) (ws2 := (wd_PatternWriter_writeAffix cC cI a0_0 a1_0 a1_1 a2_0 a2_1 v0 v1 v2)) (x_runVN (As := [.int x4]) (rest := [.ref a2_0]) X (c_Affix_shownAt l D cC cI H.size a1_0 a1_1 v1 x4 o80 ho80) b_17 1 (hN _ n_31) (htB _ b_18) (htB _ b_19) (htB _ b_9) ⟨by decide, by decide, by decide +kernel⟩ ⟨(Nat.le_of_ble_eq_true rfl), (Nat.le_of_ble_eq_true rfl)⟩ 1 rfl rfl hP hD hS [1, 2] rfl (by decide) rfl rfl hl.1 rfl rfl (Nat.le_of_ble_eq_true rfl) d_PatternWriter_writeAffix_80) hP hD hS hA [1, 2] [0, 3, 4] [0, 3, 4, 1, 2] rfl rfl (by decide) (by decide) rfl (by decide) (fun H locs hP hD hS => ?_)
  refine lv_i2c (v := i2c o80) hx hb d_PatternWriter_writeAffix_83 rfl ?_
  obtain ⟨o84, ho84, h⟩ := x_bnd h
  refine x_calli (r0 := o84.1) (ws2 := (wd_PatternWriter_writeAffix cC cI a0_0 a1_0 a1_1 a2_0 a2_1 v0 v1 o84.2)) (x_runVN (As := [.int (i2c o80)]) (rest := []) X (c_Row_add l D cC cI H.size a2_0 a2_1 v2 (i2c o80) o84 ho84) b_21 1 (hN _ n_29) (htB _ b_23) (htB _ b_24) (htB _ b_22) ⟨by decide, by decide, by decide +kernel⟩ ⟨(Nat.le_of_ble_eq_true rfl), (Nat.le_of_ble_eq_true rfl)⟩ 3 rfl rfl hP hD hS [3, 4] rfl (by decide) rfl rfl hl.1 rfl rfl (Nat.le_of_ble_eq_true rfl) d_PatternWriter_writeAffix_84) hP hD hS hA [3, 4] [0, 1, 2] [0, 1, 2, 3, 4] rfl rfl (by decide) (by decide) rfl (by decide) (fun H locs hP hD hS => ?_)
  refine lv_pop hx hb d_PatternWriter_writeAffix_87 rfl ?_
  refine lv_iinc (k := 3) (v := (x4 + (1 : Int32))) (lv' := [(4, .int (x4 + (1 : Int32))), (1, .ref a1_0), (2, .ref a2_0), (3, .int x3)]) hx hb d_PatternWriter_writeAffix_88 hl rfl (congrArg (fun z => x4 + z) (by decide : Int32.ofInt 1 = (1 : Int32))) (by decide) rfl (fun ls hl => ?_)
  refine lv_goto (tgt := 5) hx hb d_PatternWriter_writeAffix_91 rfl ?_
  exact hk5 o84.2 x3 (x4 + (1 : Int32)) ls H locs h (lv_sub hl [1, 2, 3, 0] rfl) hP hD hS

def f_PatternWriter_writeAffix_62 (v0 : T_PatternWriter) (v1 : T_Affix) (k5 : T_Row → Int32 → Int32 → Option O_PatternWriter_writeAffix) (v2 : T_Row) (x3 : Int32) (x4 : Int32) (x5 : Int32) : Option O_PatternWriter_writeAffix := (if x5 = (39 : Int32) then (f_Row_add v2 (39 : Int32)).bind (fun o72 => f_PatternWriter_writeAffix_76 v0 v1 k5 o72.2 x3 x4) else f_PatternWriter_writeAffix_76 v0 v1 k5 v2 x3 x4)
set_option maxHeartbeats 4000000 in
set_option maxRecDepth 100000 in
theorem w_PatternWriter_writeAffix_62 {p : Program} {l : Launch} {e : Env} {s : State} {m : MethodId} {args : Array Value} {below : List Frame} {meth : Method} {c : Code} {A : Nat → Prop} {D : va_G} {cC cI : ClassId} {a0_0 a1_0 a1_1 a2_0 a2_1 : Nat} {v0 : T_PatternWriter} {v1 : T_Affix} (X : xCX p s m args meth c A D cC cI b_PatternWriter_writeAffix 6 R_PatternWriter none) {out : O_PatternWriter_writeAffix} {k5 : T_Row → Int32 → Int32 → Option O_PatternWriter_writeAffix} (hk5 : J_PatternWriter_writeAffix_5 p l e s m args below meth c A D cC cI a0_0 a1_0 a1_1 a2_0 a2_1 v0 v1 out k5) : J_PatternWriter_writeAffix_62 p l e s m args below meth c A D cC cI a0_0 a1_0 a1_1 a2_0 a2_1 v0 v1 out (f_PatternWriter_writeAffix_62 v0 v1 k5) := by
  obtain ⟨hx, hb, hml, hown, htB, ⟨hK, hN⟩, hZ, hA, hr, hlocks⟩ := id X
  intro v2 x3 x4 x5 ls H locs h hl hP hD hS
  refine lv_iload hx hb d_PatternWriter_writeAffix_62 (lv_at hl 4 rfl) ?_
  refine lv_bipush (v := 39) hx hb d_PatternWriter_writeAffix_64 (by decide) ?_
  refine lv_icmp_ne (tgt := 76) hx hb d_PatternWriter_writeAffix_66 rfl (fun hc => ?_) (fun hc => ?_)
  · have h := (if_neg hc).symm.trans h
    exact w_PatternWriter_writeAffix_76 X hk5 v2 x3 x4 ls H locs h (lv_sub hl [0, 1, 2, 3] rfl) hP hD hS
  have h := (if_pos hc).symm.trans h
  refine lv_aload_n hx hb d_PatternWriter_writeAffix_69 rfl (lv_at hl 1 rfl) ?_
  refine lv_bipush (v := 39) hx hb d_PatternWriter_writeAffix_70 (by decide) ?_
  obtain ⟨o72, ho72, h⟩ := x_bnd h
  refine x_calli (r0 := o72.1) (ws2 := (wd_PatternWriter_writeAffix cC cI a0_0 a1_0 a1_1 a2_0 a2_1 v0 v1 o72.2)) (x_runVN (As := [.int (39 : Int32)]) (rest := []) X (c_Row_add l D cC cI H.size a2_0 a2_1 v2 (39 : Int32) o72 ho72) b_21 1 (hN _ n_29) (htB _ b_23) (htB _ b_24) (htB _ b_22) ⟨by decide, by decide, by decide +kernel⟩ ⟨(Nat.le_of_ble_eq_true rfl), (Nat.le_of_ble_eq_true rfl)⟩ 3 rfl rfl hP hD hS [3, 4] rfl (by decide) rfl rfl hl.1 rfl rfl (Nat.le_of_ble_eq_true rfl) d_PatternWriter_writeAffix_72) hP hD hS hA [3, 4] [0, 1, 2] [0, 1, 2, 3, 4] rfl rfl (by decide) (by decide) rfl (by decide) (fun H locs hP hD hS => ?_)
  refine lv_pop hx hb d_PatternWriter_writeAffix_75 rfl ?_
  exact w_PatternWriter_writeAffix_76 X hk5 o72.2 x3 x4 ls H locs h (lv_sub hl [0, 1, 2, 3] rfl) hP hD hS

def J_PatternWriter_writeAffix_45 (p : Program) (l : Launch) (e : Env) (s : State) (m : MethodId) (args : Array Value) (below : List Frame) (meth : Method) (c : Code) (A : Nat → Prop) (D : va_G) (cC cI : ClassId) (a0_0 a1_0 a1_1 a2_0 a2_1 : Nat) (v0 : T_PatternWriter) (v1 : T_Affix) (out : O_PatternWriter_writeAffix) (k : T_Row → Int32 → Int32 → Int32 → Option O_PatternWriter_writeAffix) : Prop := ∀ (v2 : T_Row) (x3 : Int32) (x4 : Int32) (x5 : Int32) (ls : Array Slot) (H : Heap) (locs : List Loc), k v2 x3 x4 x5 = some out → lv_has ls 6 [(1, .ref a1_0), (2, .ref a2_0), (3, .int x3), (4, .int x4), (5, .int x5)] → va_P D classes (wd_PatternWriter_writeAffix cC cI a0_0 a1_0 a1_1 a2_0 a2_1 v0 v1 v2) H → va_D A (wd_PatternWriter_writeAffix cC cI a0_0 a1_0 a1_1 a2_0 a2_1 v0 v1 v2) → va_S A s.heap H locs → W p l e rm_PatternWriter_writeAffix s m args below meth c H locs 0 0 (MQ below (q_PatternWriter_writeAffix D cC cI a0_0 a1_0 a1_1 a2_0 a2_1 v0 v1 out A) args s 0 0 A) (F0 m 45 ls [])
def J_PatternWriter_writeAffix_61 (p : Program) (l : Launch) (e : Env) (s : State) (m : MethodId) (args : Array Value) (below : List Frame) (meth : Method) (c : Code) (A : Nat → Prop) (D : va_G) (cC cI : ClassId) (a0_0 a1_0 a1_1 a2_0 a2_1 : Nat) (v0 : T_PatternWriter) (v1 : T_Affix) (out : O_PatternWriter_writeAffix) (k : T_Row → Int32 → Int32 → Int32 → Option O_PatternWriter_writeAffix) : Prop := ∀ (v2 : T_Row) (x4 : Int32) (x5 : Int32) (s0 : Int32) (ls : Array Slot) (H : Heap) (locs : List Loc), k v2 x4 x5 s0 = some out → lv_has ls 6 [(1, .ref a1_0), (2, .ref a2_0), (4, .int x4), (5, .int x5)] → va_P D classes (wd_PatternWriter_writeAffix cC cI a0_0 a1_0 a1_1 a2_0 a2_1 v0 v1 v2) H → va_D A (wd_PatternWriter_writeAffix cC cI a0_0 a1_0 a1_1 a2_0 a2_1 v0 v1 v2) → va_S A s.heap H locs → W p l e rm_PatternWriter_writeAffix s m args below meth c H locs 0 0 (MQ below (q_PatternWriter_writeAffix D cC cI a0_0 a1_0 a1_1 a2_0 a2_1 v0 v1 out A) args s 0 0 A) (F0 m 61 ls [.int s0])
def f_PatternWriter_writeAffix_61 (v0 : T_PatternWriter) (v1 : T_Affix) (k5 : T_Row → Int32 → Int32 → Option O_PatternWriter_writeAffix) (v2 : T_Row) (x4 : Int32) (x5 : Int32) (s0 : Int32) : Option O_PatternWriter_writeAffix := f_PatternWriter_writeAffix_62 v0 v1 k5 v2 s0 x4 x5
set_option maxHeartbeats 4000000 in
set_option maxRecDepth 100000 in
theorem w_PatternWriter_writeAffix_61 {p : Program} {l : Launch} {e : Env} {s : State} {m : MethodId} {args : Array Value} {below : List Frame} {meth : Method} {c : Code} {A : Nat → Prop} {D : va_G} {cC cI : ClassId} {a0_0 a1_0 a1_1 a2_0 a2_1 : Nat} {v0 : T_PatternWriter} {v1 : T_Affix} (X : xCX p s m args meth c A D cC cI b_PatternWriter_writeAffix 6 R_PatternWriter none) {out : O_PatternWriter_writeAffix} {k5 : T_Row → Int32 → Int32 → Option O_PatternWriter_writeAffix} (hk5 : J_PatternWriter_writeAffix_5 p l e s m args below meth c A D cC cI a0_0 a1_0 a1_1 a2_0 a2_1 v0 v1 out k5) : J_PatternWriter_writeAffix_61 p l e s m args below meth c A D cC cI a0_0 a1_0 a1_1 a2_0 a2_1 v0 v1 out (f_PatternWriter_writeAffix_61 v0 v1 k5) := by
  obtain ⟨hx, hb, hml, hown, htB, ⟨hK, hN⟩, hZ, hA, hr, hlocks⟩ := id X
  intro v2 x4 x5 s0 ls H locs h hl hP hD hS
  refine lv_istore_n (lv' := [(3, .int s0), (1, .ref a1_0), (2, .ref a2_0), (4, .int x4), (5, .int x5)]) hx hb d_PatternWriter_writeAffix_61 rfl hl (by decide) rfl (fun ls hl => ?_)
  exact w_PatternWriter_writeAffix_62 X hk5 v2 s0 x4 x5 ls H locs h (lv_sub hl [1, 2, 0, 3, 4] rfl) hP hD hS

def f_PatternWriter_writeAffix_45 (v0 : T_PatternWriter) (v1 : T_Affix) (k5 : T_Row → Int32 → Int32 → Option O_PatternWriter_writeAffix) (v2 : T_Row) (x3 : Int32) (x4 : Int32) (x5 : Int32) : Option O_PatternWriter_writeAffix := (f_Row_add v2 (39 : Int32)).bind (fun o48 => (if x3 = 0 then f_PatternWriter_writeAffix_61 v0 v1 k5 o48.2 x4 x5 (1 : Int32) else f_PatternWriter_writeAffix_61 v0 v1 k5 o48.2 x4 x5 (0 : Int32)))
set_option maxHeartbeats 4000000 in
set_option maxRecDepth 100000 in
theorem w_PatternWriter_writeAffix_45 {p : Program} {l : Launch} {e : Env} {s : State} {m : MethodId} {args : Array Value} {below : List Frame} {meth : Method} {c : Code} {A : Nat → Prop} {D : va_G} {cC cI : ClassId} {a0_0 a1_0 a1_1 a2_0 a2_1 : Nat} {v0 : T_PatternWriter} {v1 : T_Affix} (X : xCX p s m args meth c A D cC cI b_PatternWriter_writeAffix 6 R_PatternWriter none) {out : O_PatternWriter_writeAffix} {k5 : T_Row → Int32 → Int32 → Option O_PatternWriter_writeAffix} (hk5 : J_PatternWriter_writeAffix_5 p l e s m args below meth c A D cC cI a0_0 a1_0 a1_1 a2_0 a2_1 v0 v1 out k5) : J_PatternWriter_writeAffix_45 p l e s m args below meth c A D cC cI a0_0 a1_0 a1_1 a2_0 a2_1 v0 v1 out (f_PatternWriter_writeAffix_45 v0 v1 k5) := by
  obtain ⟨hx, hb, hml, hown, htB, ⟨hK, hN⟩, hZ, hA, hr, hlocks⟩ := id X
  intro v2 x3 x4 x5 ls H locs h hl hP hD hS
  refine lv_aload_n hx hb d_PatternWriter_writeAffix_45 rfl (lv_at hl 1 rfl) ?_
  refine lv_bipush (v := 39) hx hb d_PatternWriter_writeAffix_46 (by decide) ?_
  obtain ⟨o48, ho48, h⟩ := x_bnd h
  refine x_calli (r0 := o48.1) (ws2 := (wd_PatternWriter_writeAffix cC cI a0_0 a1_0 a1_1 a2_0 a2_1 v0 v1 o48.2)) (x_runVN (As := [.int (39 : Int32)]) (rest := []) X (c_Row_add l D cC cI H.size a2_0 a2_1 v2 (39 : Int32) o48 ho48) b_21 1 (hN _ n_29) (htB _ b_23) (htB _ b_24) (htB _ b_22) ⟨by decide, by decide, by decide +kernel⟩ ⟨(Nat.le_of_ble_eq_true rfl), (Nat.le_of_ble_eq_true rfl)⟩ 3 rfl rfl hP hD hS [3, 4] rfl (by decide) rfl rfl hl.1 rfl rfl (Nat.le_of_ble_eq_true rfl) d_PatternWriter_writeAffix_48) hP hD hS hA [3, 4] [0, 1, 2] [0, 1, 2, 3, 4] rfl rfl (by decide) (by decide) rfl (by decide) (fun H locs hP hD hS => ?_)
  refine lv_pop hx hb d_PatternWriter_writeAffix_51 rfl ?_
  refine lv_iload_n hx hb d_PatternWriter_writeAffix_52 rfl (lv_at hl 2 rfl) ?_
  refine lv_if_ne (tgt := 60) hx hb d_PatternWriter_writeAffix_53 rfl (fun hc => ?_) (fun hc => ?_)
  · have h := (if_neg hc).symm.trans h
    refine lv_iconst (v := 0) hx hb d_PatternWriter_writeAffix_60 (by decide) ?_
    exact w_PatternWriter_writeAffix_61 X hk5 o48.2 x4 x5 (0 : Int32) ls H locs h (lv_sub hl [0, 1, 3, 4] rfl) hP hD hS
  have h := (if_pos hc).symm.trans h
  refine lv_iconst (v := 1) hx hb d_PatternWriter_writeAffix_56 (by decide) ?_
  refine lv_goto (tgt := 61) hx hb d_PatternWriter_writeAffix_57 rfl ?_
  exact w_PatternWriter_writeAffix_61 X hk5 o48.2 x4 x5 (1 : Int32) ls H locs h (lv_sub hl [0, 1, 3, 4] rfl) hP hD hS

def f_PatternWriter_writeAffix_5 (v0 : T_PatternWriter) (v1 : T_Affix)  : Nat → T_Row → Int32 → Int32 → Option O_PatternWriter_writeAffix
  | 0, _, _, _ => none
  | n + 1, v2, x3, x4 => (f_Affix_size v1).bind (fun o8 => (if o8 ≤ x4 then (if x3 = 0 then f_PatternWriter_writeAffix_105 v0 v1 v2 else (f_Row_add v2 (39 : Int32)).bind (fun o101 => f_PatternWriter_writeAffix_105 v0 v1 o101.2)) else (f_Affix_at v1 x4).bind (fun o17 => (if x3 = 0 then (f_PatternWriter_needsQuotes o17).bind (fun o39 => (if o39 = 0 then f_PatternWriter_writeAffix_62 v0 v1 (f_PatternWriter_writeAffix_5 v0 v1 n) v2 x3 x4 o17 else f_PatternWriter_writeAffix_45 v0 v1 (f_PatternWriter_writeAffix_5 v0 v1 n) v2 x3 x4 o17)) else (if o17 = (256 : Int32) then f_PatternWriter_writeAffix_45 v0 v1 (f_PatternWriter_writeAffix_5 v0 v1 n) v2 x3 x4 o17 else f_PatternWriter_writeAffix_62 v0 v1 (f_PatternWriter_writeAffix_5 v0 v1 n) v2 x3 x4 o17)))))
set_option maxHeartbeats 4000000 in
set_option maxRecDepth 100000 in
theorem w_PatternWriter_writeAffix_5 {p : Program} {l : Launch} {e : Env} {s : State} {m : MethodId} {args : Array Value} {below : List Frame} {meth : Method} {c : Code} {A : Nat → Prop} {D : va_G} {cC cI : ClassId} {a0_0 a1_0 a1_1 a2_0 a2_1 : Nat} {v0 : T_PatternWriter} {v1 : T_Affix} (X : xCX p s m args meth c A D cC cI b_PatternWriter_writeAffix 6 R_PatternWriter none) {out : O_PatternWriter_writeAffix}   : ∀ n : Nat, J_PatternWriter_writeAffix_5 p l e s m args below meth c A D cC cI a0_0 a1_0 a1_1 a2_0 a2_1 v0 v1 out (f_PatternWriter_writeAffix_5 v0 v1  n) := by
  obtain ⟨hx, hb, hml, hown, htB, ⟨hK, hN⟩, hZ, hA, hr, hlocks⟩ := id X
  intro n
  induction n with
  | zero =>
    intro v2 x3 x4 ls H locs h hl hP hD hS
    cases h
  | succ n ih =>
    intro v2 x3 x4 ls H locs h hl hP hD hS
    refine lv_iload hx hb d_PatternWriter_writeAffix_5 (lv_at hl 3 rfl) ?_
    refine lv_aload_n hx hb d_PatternWriter_writeAffix_7 rfl (lv_at hl 0 rfl) ?_
    obtain ⟨o8, ho8, h⟩ := x_bnd h
    refine x_calli (r0 := o8) (ws2 := (wd_PatternWriter_writeAffix cC cI a0_0 a1_0 a1_1 a2_0 a2_1 v0 v1 v2)) (x_runVN (As := []) (rest := [.int x4]) X (c_Affix_size l D cC cI H.size a1_0 a1_1 v1 o8 ho8) b_99 0 (hN _ n_28) (htB _ b_100) (htB _ b_101) (htB _ b_9) ⟨by decide, by decide, by decide +kernel⟩ ⟨(Nat.le_of_ble_eq_true rfl), (Nat.le_of_ble_eq_true rfl)⟩ 1 rfl rfl hP hD hS [1, 2] rfl (by decide) rfl rfl hl.1 rfl rfl (Nat.le_of_ble_eq_true rfl) d_PatternWriter_writeAffix_8) hP hD hS hA [1, 2] [0, 3, 4] [0, 3, 4, 1, 2] rfl rfl (by decide) (by decide) rfl (by decide) (fun H locs hP hD hS => ?_)
    refine lv_icmp_ge (tgt := 94) hx hb d_PatternWriter_writeAffix_11 rfl (fun hc => ?_) (fun hc => ?_)
    · have h := (if_pos hc).symm.trans h
      refine lv_iload_n hx hb d_PatternWriter_writeAffix_94 rfl (lv_at hl 2 rfl) ?_
      refine lv_if_eq (tgt := 105) hx hb d_PatternWriter_writeAffix_95 rfl (fun hc => ?_) (fun hc => ?_)
      · have h := (if_pos hc).symm.trans h
        exact w_PatternWriter_writeAffix_105 X v2 ls H locs h (lv_sub hl [] rfl) hP hD hS
      have h := (if_neg hc).symm.trans h
      refine lv_aload_n hx hb d_PatternWriter_writeAffix_98 rfl (lv_at hl 1 rfl) ?_
      refine lv_bipush (v := 39) hx hb d_PatternWriter_writeAffix_99 (by decide) ?_
      obtain ⟨o101, ho101, h⟩ := x_bnd h
      refine x_calli (r0 := o101.1) (ws2 := (wd_PatternWriter_writeAffix cC cI a0_0 a1_0 a1_1 a2_0 a2_1 v0 v1 o101.2)) (x_runVN (As := [.int (39 : Int32)]) (rest := []) X (c_Row_add l D cC cI H.size a2_0 a2_1 v2 (39 : Int32) o101 ho101) b_21 1 (hN _ n_29) (htB _ b_23) (htB _ b_24) (htB _ b_22) ⟨by decide, by decide, by decide +kernel⟩ ⟨(Nat.le_of_ble_eq_true rfl), (Nat.le_of_ble_eq_true rfl)⟩ 3 rfl rfl hP hD hS [3, 4] rfl (by decide) rfl rfl hl.1 rfl rfl (Nat.le_of_ble_eq_true rfl) d_PatternWriter_writeAffix_101) hP hD hS hA [3, 4] [0, 1, 2] [0, 1, 2, 3, 4] rfl rfl (by decide) (by decide) rfl (by decide) (fun H locs hP hD hS => ?_)
      refine lv_pop hx hb d_PatternWriter_writeAffix_104 rfl ?_
      exact w_PatternWriter_writeAffix_105 X o101.2 ls H locs h (lv_sub hl [] rfl) hP hD hS
    have h := (if_neg hc).symm.trans h
    refine lv_aload_n hx hb d_PatternWriter_writeAffix_14 rfl (lv_at hl 0 rfl) ?_
    refine lv_iload hx hb d_PatternWriter_writeAffix_15 (lv_at hl 3 rfl) ?_
    obtain ⟨o17, ho17, h⟩ := x_bnd h
    refine x_calli (r0 := o17) (ws2 := (wd_PatternWriter_writeAffix cC cI a0_0 a1_0 a1_1 a2_0 a2_1 v0 v1 v2)) (x_runVN (As := [.int x4]) (rest := []) X (c_Affix_at l D cC cI H.size a1_0 a1_1 v1 x4 o17 ho17) b_8 1 (hN _ n_30) (htB _ b_10) (htB _ b_11) (htB _ b_9) ⟨by decide, by decide, by decide +kernel⟩ ⟨(Nat.le_of_ble_eq_true rfl), (Nat.le_of_ble_eq_true rfl)⟩ 1 rfl rfl hP hD hS [1, 2] rfl (by decide) rfl rfl hl.1 rfl rfl (Nat.le_of_ble_eq_true rfl) d_PatternWriter_writeAffix_17) hP hD hS hA [1, 2] [0, 3, 4] [0, 3, 4, 1, 2] rfl rfl (by decide) (by decide) rfl (by decide) (fun H locs hP hD hS => ?_)
    refine lv_istore (lv' := [(5, .int o17), (1, .ref a1_0), (2, .ref a2_0), (3, .int x3), (4, .int x4)]) hx hb d_PatternWriter_writeAffix_20 hl (by decide) rfl (fun ls hl => ?_)
    refine lv_iload_n hx hb d_PatternWriter_writeAffix_22 rfl (lv_at hl 3 rfl) ?_
    refine lv_if_eq (tgt := 37) hx hb d_PatternWriter_writeAffix_23 rfl (fun hc => ?_) (fun hc => ?_)
    · have h := (if_pos hc).symm.trans h
      refine lv_iload hx hb d_PatternWriter_writeAffix_37 (lv_at hl 0 rfl) ?_
      obtain ⟨o39, ho39, h⟩ := x_bnd h
      refine x_calli (r0 := o39) (ws2 := (wd_PatternWriter_writeAffix cC cI a0_0 a1_0 a1_1 a2_0 a2_1 v0 v1 v2)) (x_runS (As := [.int o17]) (rest := []) X (c_PatternWriter_needsQuotes l D cC cI H.size o17 o39 ho39) b_102 1 (htB _ b_105) (htB _ b_104) (htB _ b_103) ⟨by decide, by decide, by decide +kernel⟩ ⟨(Nat.le_of_ble_eq_true rfl), (Nat.le_of_ble_eq_true rfl)⟩ hP hD hS [] rfl (by decide) rfl rfl hl.1 rfl rfl (Nat.le_of_ble_eq_true rfl) d_PatternWriter_writeAffix_39) hP hD hS hA [] [0, 1, 2, 3, 4] [0, 1, 2, 3, 4] rfl rfl (by decide) (by decide) rfl (by decide) (fun H locs hP hD hS => ?_)
      refine lv_if_eq (tgt := 62) hx hb d_PatternWriter_writeAffix_42 rfl (fun hc => ?_) (fun hc => ?_)
      · have h := (if_pos hc).symm.trans h
        exact w_PatternWriter_writeAffix_62 X ih v2 x3 x4 o17 ls H locs h (lv_sub hl [1, 2, 3, 4, 0] rfl) hP hD hS
      have h := (if_neg hc).symm.trans h
      exact w_PatternWriter_writeAffix_45 X ih v2 x3 x4 o17 ls H locs h (lv_sub hl [1, 2, 3, 4, 0] rfl) hP hD hS
    have h := (if_neg hc).symm.trans h
    refine lv_iload hx hb d_PatternWriter_writeAffix_26 (lv_at hl 0 rfl) ?_
    refine lv_sipush (v := 256) hx hb d_PatternWriter_writeAffix_28 (by decide) ?_
    refine lv_icmp_ne (tgt := 62) hx hb d_PatternWriter_writeAffix_31 rfl (fun hc => ?_) (fun hc => ?_)
    · have h := (if_neg hc).symm.trans h
      exact w_PatternWriter_writeAffix_62 X ih v2 x3 x4 o17 ls H locs h (lv_sub hl [1, 2, 3, 4, 0] rfl) hP hD hS
    have h := (if_pos hc).symm.trans h
    refine lv_goto (tgt := 45) hx hb d_PatternWriter_writeAffix_34 rfl ?_
    exact w_PatternWriter_writeAffix_45 X ih v2 x3 x4 o17 ls H locs h (lv_sub hl [1, 2, 3, 4, 0] rfl) hP hD hS

def f_PatternWriter_writeAffix (v0 : T_PatternWriter) (v1 : T_Affix) (v2 : T_Row) : Option O_PatternWriter_writeAffix := f_PatternWriter_writeAffix_5 v0 v1 FU v2 (0 : Int32) (0 : Int32)
set_option maxHeartbeats 4000000 in
set_option maxRecDepth 100000 in
theorem w_PatternWriter_writeAffix {p : Program} {l : Launch} {e : Env} {s : State} {m : MethodId} {args : Array Value} {below : List Frame} {meth : Method} {c : Code} {A : Nat → Prop} {D : va_G} {cC cI : ClassId} {a0_0 a1_0 a1_1 a2_0 a2_1 : Nat} {v0 : T_PatternWriter} {v1 : T_Affix} (X : xCX p s m args meth c A D cC cI b_PatternWriter_writeAffix 6 R_PatternWriter none) {out : O_PatternWriter_writeAffix} (v2 : T_Row) {ls : Array Slot} {H : Heap} {locs : List Loc} (h : f_PatternWriter_writeAffix v0 v1 v2 = some out) (hl : lv_has ls 6 [(0, .ref a0_0), (1, .ref a1_0), (2, .ref a2_0)]) (hP : va_P D classes (wd_PatternWriter_writeAffix cC cI a0_0 a1_0 a1_1 a2_0 a2_1 v0 v1 v2) H) (hD : va_D A (wd_PatternWriter_writeAffix cC cI a0_0 a1_0 a1_1 a2_0 a2_1 v0 v1 v2)) (hS : va_S A s.heap H locs) : W p l e rm_PatternWriter_writeAffix s m args below meth c H locs 0 0 (MQ below (q_PatternWriter_writeAffix D cC cI a0_0 a1_0 a1_1 a2_0 a2_1 v0 v1 out A) args s 0 0 A) (F0 m 0 ls []) := by
  obtain ⟨hx, hb, hml, hown, htB, ⟨hK, hN⟩, hZ, hA, hr, hlocks⟩ := id X
  refine lv_iconst (v := 0) hx hb d_PatternWriter_writeAffix_0 (by decide) ?_
  refine lv_istore_n (lv' := [(3, .int (0 : Int32)), (0, .ref a0_0), (1, .ref a1_0), (2, .ref a2_0)]) hx hb d_PatternWriter_writeAffix_1 rfl hl (by decide) rfl (fun ls hl => ?_)
  refine lv_iconst (v := 0) hx hb d_PatternWriter_writeAffix_2 (by decide) ?_
  refine lv_istore (lv' := [(4, .int (0 : Int32)), (3, .int (0 : Int32)), (0, .ref a0_0), (1, .ref a1_0), (2, .ref a2_0)]) hx hb d_PatternWriter_writeAffix_3 hl (by decide) rfl (fun ls hl => ?_)
  exact w_PatternWriter_writeAffix_5 X FU v2 (0 : Int32) (0 : Int32) ls H locs h (lv_sub hl [3, 4, 1, 0] rfl) hP hD hS

set_option maxHeartbeats 4000000 in
set_option maxRecDepth 100000 in
theorem c_PatternWriter_writeAffix (l : Launch) (D : va_G) (cC cI : ClassId) (sz : Nat) (a0_0 a1_0 a1_1 a2_0 a2_1 : Nat) (v0 : T_PatternWriter) (v1 : T_Affix) (v2 : T_Row) (out : O_PatternWriter_writeAffix) (h : f_PatternWriter_writeAffix v0 v1 v2 = some out) : Met l y_PatternWriter_writeAffix (.code y_PatternWriter_writeAffix b_PatternWriter_writeAffix 6 none :: BIG) rm_PatternWriter_writeAffix (va_Pc [.ref a0_0, .ref a1_0, .ref a2_0] (xPre D cC cI (wd_PatternWriter_writeAffix cC cI a0_0 a1_0 a1_1 a2_0 a2_1 v0 v1 v2) sz)) (q_PatternWriter_writeAffix D cC cI a0_0 a1_0 a1_1 a2_0 a2_1 v0 v1 out (va_A (wd_PatternWriter_writeAffix cC cI a0_0 a1_0 a1_1 a2_0 a2_1 v0 v1 v2) sz)) 0 0 (va_A (wd_PatternWriter_writeAffix cC cI a0_0 a1_0 a1_1 a2_0 a2_1 v0 v1 v2) sz) := by
  refine Met.ofW (cc := b_PatternWriter_writeAffix) (maxL := 6) (ret := none) (by decide) rfl ?_
  intro p e s m args below meth c s₁ B hml hv
  obtain ⟨rfl, rfl, hP, hD0, hG, hZ⟩ := hv
  have hl := lv_entry [.ref a0_0, .ref a1_0, .ref a2_0] (n := 6) (Nat.le_of_ble_eq_true rfl)
  rw [lg_entry_eq]
  exact w_PatternWriter_writeAffix (x_cx B hml hG hZ) v2 h hl hP hD0.self va_S.rf

abbrev wd_PatternWriter_writeInteger (cC cI : ClassId) (a0_0 a1_0 a2_0 a2_1 : Nat) (v0 : T_PatternWriter) (v1 : T_Shape) (v2 : T_Row) : va_W := [(a0_0, .inr (6, [])), (a1_0, .inr (2, [.int v1.1, .int v1.2.1, .int v1.2.2.1, .int v1.2.2.2.1, .int v1.2.2.2.2.1, .int v1.2.2.2.2.2.1, .int v1.2.2.2.2.2.2])), (a2_0, .inr (0, [.ref a2_1, .int v2.2])), (a2_1, .inl (cC, 120, .inl v2.1))]
abbrev O_PatternWriter_writeInteger : Type := T_Row
abbrev q_PatternWriter_writeInteger (D : va_G) (cC cI : ClassId) (a0_0 a1_0 a2_0 a2_1 : Nat) (v0 : T_PatternWriter) (v1 : T_Shape) (out : O_PatternWriter_writeInteger) (A : Nat → Prop) : Array Value → State → Outcome → State → Prop := va_Qv (fun _ : Unit => True) (fun _ t => va_P D classes (wd_PatternWriter_writeInteger cC cI a0_0 a1_0 a2_0 a2_1 v0 v1 out) t.heap ∧ va_D A (wd_PatternWriter_writeInteger cC cI a0_0 a1_0 a2_0 a2_1 v0 v1 out)) A
abbrev rm_PatternWriter_writeInteger : Room := { frames := 1, cells := 0, slots := 0, locals := 21 }
def J_PatternWriter_writeInteger_27 (p : Program) (l : Launch) (e : Env) (s : State) (m : MethodId) (args : Array Value) (below : List Frame) (meth : Method) (c : Code) (A : Nat → Prop) (D : va_G) (cC cI : ClassId) (a0_0 a1_0 a2_0 a2_1 : Nat) (v0 : T_PatternWriter) (v1 : T_Shape) (out : O_PatternWriter_writeInteger) (k : T_Row → Int32 → Int32 → Int32 → Option O_PatternWriter_writeInteger) : Prop := ∀ (v2 : T_Row) (x3 : Int32) (x4 : Int32) (x5 : Int32) (ls : Array Slot) (H : Heap) (locs : List Loc), k v2 x3 x4 x5 = some out → lv_has ls 6 [(1, .ref a1_0), (2, .ref a2_0), (3, .int x3), (4, .int x4), (5, .int x5)] → va_P D classes (wd_PatternWriter_writeInteger cC cI a0_0 a1_0 a2_0 a2_1 v0 v1 v2) H → va_D A (wd_PatternWriter_writeInteger cC cI a0_0 a1_0 a2_0 a2_1 v0 v1 v2) → va_S A s.heap H locs → W p l e rm_PatternWriter_writeInteger s m args below meth c H locs 0 0 (MQ below (q_PatternWriter_writeInteger D cC cI a0_0 a1_0 a2_0 a2_1 v0 v1 out A) args s 0 0 A) (F0 m 27 ls [])
def J_PatternWriter_writeInteger_60 (p : Program) (l : Launch) (e : Env) (s : State) (m : MethodId) (args : Array Value) (below : List Frame) (meth : Method) (c : Code) (A : Nat → Prop) (D : va_G) (cC cI : ClassId) (a0_0 a1_0 a2_0 a2_1 : Nat) (v0 : T_PatternWriter) (v1 : T_Shape) (out : O_PatternWriter_writeInteger) (k : T_Row → Int32 → Int32 → Int32 → Option O_PatternWriter_writeInteger) : Prop := ∀ (v2 : T_Row) (x3 : Int32) (x4 : Int32) (x5 : Int32) (ls : Array Slot) (H : Heap) (locs : List Loc), k v2 x3 x4 x5 = some out → lv_has ls 6 [(1, .ref a1_0), (2, .ref a2_0), (3, .int x3), (4, .int x4), (5, .int x5)] → va_P D classes (wd_PatternWriter_writeInteger cC cI a0_0 a1_0 a2_0 a2_1 v0 v1 v2) H → va_D A (wd_PatternWriter_writeInteger cC cI a0_0 a1_0 a2_0 a2_1 v0 v1 v2) → va_S A s.heap H locs → W p l e rm_PatternWriter_writeInteger s m args below meth c H locs 0 0 (MQ below (q_PatternWriter_writeInteger D cC cI a0_0 a1_0 a2_0 a2_1 v0 v1 out A) args s 0 0 A) (F0 m 60 ls [])
def J_PatternWriter_writeInteger_74 (p : Program) (l : Launch) (e : Env) (s : State) (m : MethodId) (args : Array Value) (below : List Frame) (meth : Method) (c : Code) (A : Nat → Prop) (D : va_G) (cC cI : ClassId) (a0_0 a1_0 a2_0 a2_1 : Nat) (v0 : T_PatternWriter) (v1 : T_Shape) (out : O_PatternWriter_writeInteger) (k : T_Row → Int32 → Int32 → Int32 → Int32 → Option O_PatternWriter_writeInteger) : Prop := ∀ (v2 : T_Row) (x3 : Int32) (x4 : Int32) (x5 : Int32) (s1 : Int32) (ls : Array Slot) (H : Heap) (locs : List Loc), k v2 x3 x4 x5 s1 = some out → lv_has ls 6 [(1, .ref a1_0), (2, .ref a2_0), (3, .int x3), (4, .int x4), (5, .int x5)] → va_P D classes (wd_PatternWriter_writeInteger cC cI a0_0 a1_0 a2_0 a2_1 v0 v1 v2) H → va_D A (wd_PatternWriter_writeInteger cC cI a0_0 a1_0 a2_0 a2_1 v0 v1 v2) → va_S A s.heap H locs → W p l e rm_PatternWriter_writeInteger s m args below meth c H locs 0 0 (MQ below (q_PatternWriter_writeInteger D cC cI a0_0 a1_0 a2_0 a2_1 v0 v1 out A) args s 0 0 A) (F0 m 74 ls [.int s1, .ref a2_0])
def f_PatternWriter_writeInteger_74 (v0 : T_PatternWriter) (v1 : T_Shape) (k27 : T_Row → Int32 → Int32 → Int32 → Option O_PatternWriter_writeInteger) (v2 : T_Row) (x3 : Int32) (x4 : Int32) (x5 : Int32) (s1 : Int32) : Option O_PatternWriter_writeInteger := (f_Row_add v2 s1).bind (fun o74 => k27 o74.2 x3 x4 (x5 + (1 : Int32)))
set_option maxHeartbeats 4000000 in
set_option maxRecDepth 100000 in
theorem w_PatternWriter_writeInteger_74 {p : Program} {l : Launch} {e : Env} {s : State} {m : MethodId} {args : Array Value} {below : List Frame} {meth : Method} {c : Code} {A : Nat → Prop} {D : va_G} {cC cI : ClassId} {a0_0 a1_0 a2_0 a2_1 : Nat} {v0 : T_PatternWriter} {v1 : T_Shape} (X : xCX p s m args meth c A D cC cI b_PatternWriter_writeInteger 6 R_PatternWriter none) {out : O_PatternWriter_writeInteger} {k27 : T_Row → Int32 → Int32 → Int32 → Option O_PatternWriter_writeInteger} (hk27 : J_PatternWriter_writeInteger_27 p l e s m args below meth c A D cC cI a0_0 a1_0 a2_0 a2_1 v0 v1 out k27) : J_PatternWriter_writeInteger_74 p l e s m args below meth c A D cC cI a0_0 a1_0 a2_0 a2_1 v0 v1 out (f_PatternWriter_writeInteger_74 v0 v1 k27) := by
  obtain ⟨hx, hb, hml, hown, htB, ⟨hK, hN⟩, hZ, hA, hr, hlocks⟩ := id X
  intro v2 x3 x4 x5 s1 ls H locs h hl hP hD hS
  obtain ⟨o74, ho74, h⟩ := x_bnd h
  refine x_calli (r0 := o74.1) (ws2 := (wd_PatternWriter_writeInteger cC cI a0_0 a1_0 a2_0 a2_1 v0 v1 o74.2)) (x_runVN (As := [.int s1]) (rest := []) X (c_Row_add l D cC cI H.size a2_0 a2_1 v2 s1 o74 ho74) b_21 1 (hN _ n_29) (htB _ b_23) (htB _ b_24) (htB _ b_22) ⟨by decide, by decide, by decide +kernel⟩ ⟨(Nat.le_of_ble_eq_true rfl), (Nat.le_of_ble_eq_true rfl)⟩ 2 rfl rfl hP hD hS [2, 3] rfl (by decide) rfl rfl hl.1 rfl rfl (Nat.le_of_ble_eq_true rfl) d_PatternWriter_writeInteger_74) hP hD hS hA [2, 3] [0, 1] [0, 1, 2, 3] rfl rfl (by decide) (by decide) rfl (by decide) (fun H locs hP hD hS => ?_)
  refine lv_pop hx hb d_PatternWriter_writeInteger_77 rfl ?_
  refine lv_iinc (k := 4) (v := (x5 + (1 : Int32))) (lv' := [(5, .int (x5 + (1 : Int32))), (1, .ref a1_0), (2, .ref a2_0), (3, .int x3), (4, .int x4)]) hx hb d_PatternWriter_writeInteger_78 hl rfl (congrArg (fun z => x5 + z) (by decide : Int32.ofInt 1 = (1 : Int32))) (by decide) rfl (fun ls hl => ?_)
  refine lv_goto (tgt := 27) hx hb d_PatternWriter_writeInteger_81 rfl ?_
  exact hk27 o74.2 x3 x4 (x5 + (1 : Int32)) ls H locs h (lv_sub hl [1, 2, 3, 4, 0] rfl) hP hD hS

def f_PatternWriter_writeInteger_60 (v0 : T_PatternWriter) (v1 : T_Shape) (k27 : T_Row → Int32 → Int32 → Int32 → Option O_PatternWriter_writeInteger) (v2 : T_Row) (x3 : Int32) (x4 : Int32) (x5 : Int32) : Option O_PatternWriter_writeInteger := (if x3 ≤ x5 then f_PatternWriter_writeInteger_74 v0 v1 k27 v2 x3 x4 x5 (48 : Int32) else f_PatternWriter_writeInteger_74 v0 v1 k27 v2 x3 x4 x5 (35 : Int32))
set_option maxHeartbeats 4000000 in
set_option maxRecDepth 100000 in
theorem w_PatternWriter_writeInteger_60 {p : Program} {l : Launch} {e : Env} {s : State} {m : MethodId} {args : Array Value} {below : List Frame} {meth : Method} {c : Code} {A : Nat → Prop} {D : va_G} {cC cI : ClassId} {a0_0 a1_0 a2_0 a2_1 : Nat} {v0 : T_PatternWriter} {v1 : T_Shape} (X : xCX p s m args meth c A D cC cI b_PatternWriter_writeInteger 6 R_PatternWriter none) {out : O_PatternWriter_writeInteger} {k27 : T_Row → Int32 → Int32 → Int32 → Option O_PatternWriter_writeInteger} (hk27 : J_PatternWriter_writeInteger_27 p l e s m args below meth c A D cC cI a0_0 a1_0 a2_0 a2_1 v0 v1 out k27) : J_PatternWriter_writeInteger_60 p l e s m args below meth c A D cC cI a0_0 a1_0 a2_0 a2_1 v0 v1 out (f_PatternWriter_writeInteger_60 v0 v1 k27) := by
  obtain ⟨hx, hb, hml, hown, htB, ⟨hK, hN⟩, hZ, hA, hr, hlocks⟩ := id X
  intro v2 x3 x4 x5 ls H locs h hl hP hD hS
  refine lv_aload_n hx hb d_PatternWriter_writeInteger_60 rfl (lv_at hl 1 rfl) ?_
  refine lv_iload hx hb d_PatternWriter_writeInteger_61 (lv_at hl 4 rfl) ?_
  refine lv_iload_n hx hb d_PatternWriter_writeInteger_63 rfl (lv_at hl 2 rfl) ?_
  refine lv_icmp_ge (tgt := 72) hx hb d_PatternWriter_writeInteger_64 rfl (fun hc => ?_) (fun hc => ?_)
  · have h := (if_pos hc).symm.trans h
    refine lv_bipush (v := 48) hx hb d_PatternWriter_writeInteger_72 (by decide) ?_
    exact w_PatternWriter_writeInteger_74 X hk27 v2 x3 x4 x5 (48 : Int32) ls H locs h (lv_sub hl [0, 1, 2, 3, 4] rfl) hP hD hS
  have h := (if_neg hc).symm.trans h
  refine lv_bipush (v := 35) hx hb d_PatternWriter_writeInteger_67 (by decide) ?_
  refine lv_goto (tgt := 74) hx hb d_PatternWriter_writeInteger_69 rfl ?_
  exact w_PatternWriter_writeInteger_74 X hk27 v2 x3 x4 x5 (35 : Int32) ls H locs h (lv_sub hl [0, 1, 2, 3, 4] rfl) hP hD hS

def f_PatternWriter_writeInteger_27 (v0 : T_PatternWriter) (v1 : T_Shape)  : Nat → T_Row → Int32 → Int32 → Int32 → Option O_PatternWriter_writeInteger
  | 0, _, _, _, _ => none
  | n + 1, v2, x3, x4, x5 => (if x4 ≤ x5 then some v2 else (if v1.2.2.2.2.2.1 ≤ 0 then f_PatternWriter_writeInteger_60 v0 v1 (f_PatternWriter_writeInteger_27 v0 v1 n) v2 x3 x4 x5 else (if (x4 - x5) = v1.2.2.2.2.2.1 then (f_Row_add v2 (44 : Int32)).bind (fun o56 => f_PatternWriter_writeInteger_60 v0 v1 (f_PatternWriter_writeInteger_27 v0 v1 n) o56.2 x3 x4 x5) else f_PatternWriter_writeInteger_60 v0 v1 (f_PatternWriter_writeInteger_27 v0 v1 n) v2 x3 x4 x5)))
set_option maxHeartbeats 4000000 in
set_option maxRecDepth 100000 in
theorem w_PatternWriter_writeInteger_27 {p : Program} {l : Launch} {e : Env} {s : State} {m : MethodId} {args : Array Value} {below : List Frame} {meth : Method} {c : Code} {A : Nat → Prop} {D : va_G} {cC cI : ClassId} {a0_0 a1_0 a2_0 a2_1 : Nat} {v0 : T_PatternWriter} {v1 : T_Shape} (X : xCX p s m args meth c A D cC cI b_PatternWriter_writeInteger 6 R_PatternWriter none) {out : O_PatternWriter_writeInteger}   : ∀ n : Nat, J_PatternWriter_writeInteger_27 p l e s m args below meth c A D cC cI a0_0 a1_0 a2_0 a2_1 v0 v1 out (f_PatternWriter_writeInteger_27 v0 v1  n) := by
  obtain ⟨hx, hb, hml, hown, htB, ⟨hK, hN⟩, hZ, hA, hr, hlocks⟩ := id X
  intro n
  induction n with
  | zero =>
    intro v2 x3 x4 x5 ls H locs h hl hP hD hS
    cases h
  | succ n ih =>
    intro v2 x3 x4 x5 ls H locs h hl hP hD hS
    refine lv_iload hx hb d_PatternWriter_writeInteger_27 (lv_at hl 4 rfl) ?_
    refine lv_iload hx hb d_PatternWriter_writeInteger_29 (lv_at hl 3 rfl) ?_
    refine lv_icmp_ge (tgt := 84) hx hb d_PatternWriter_writeInteger_31 rfl (fun hc => ?_) (fun hc => ?_)
    · have h := (if_pos hc).symm.trans h
      obtain rfl := Option.some.inj h
      exact W.vret hx hb hr (fun t ht hW => ⟨⟨(), rfl, trivial, by rw [ht]; exact hP, hD⟩, hS.F ht⟩) hS.2.2 d_PatternWriter_writeInteger_84 hlocks
    have h := (if_neg hc).symm.trans h
    refine lv_aload_n hx hb d_PatternWriter_writeInteger_34 rfl (lv_at hl 0 rfl) ?_
    refine va_getN (D := D) (ci := 2) (v := .int v1.2.2.2.2.2.1) (C := R_Shape) (T := F_Shape) (N := 7) hx hb htB in_Shape hown hK hP 1 rfl rfl 5 (by decide) (va_Nw.use rfl (hN _ n_32)) (fun _ h9 => h9) rfl d_PatternWriter_writeInteger_35 ?_
    refine lv_if_le (tgt := 60) hx hb d_PatternWriter_writeInteger_38 rfl (fun hc => ?_) (fun hc => ?_)
    · have h := (if_pos hc).symm.trans h
      exact w_PatternWriter_writeInteger_60 X ih v2 x3 x4 x5 ls H locs h (lv_sub hl [0, 1, 2, 3, 4] rfl) hP hD hS
    have h := (if_neg hc).symm.trans h
    refine lv_iload hx hb d_PatternWriter_writeInteger_41 (lv_at hl 3 rfl) ?_
    refine lv_iload hx hb d_PatternWriter_writeInteger_43 (lv_at hl 4 rfl) ?_
    refine lv_isub hx hb d_PatternWriter_writeInteger_45 ?_
    refine lv_aload_n hx hb d_PatternWriter_writeInteger_46 rfl (lv_at hl 0 rfl) ?_
    refine va_getN (D := D) (ci := 2) (v := .int v1.2.2.2.2.2.1) (C := R_Shape) (T := F_Shape) (N := 7) hx hb htB in_Shape hown hK hP 1 rfl rfl 5 (by decide) (va_Nw.use rfl (hN _ n_32)) (fun _ h9 => h9) rfl d_PatternWriter_writeInteger_47 ?_
    refine lv_icmp_ne (tgt := 60) hx hb d_PatternWriter_writeInteger_50 rfl (fun hc => ?_) (fun hc => ?_)
    · have h := (if_neg hc).symm.trans h
      exact w_PatternWriter_writeInteger_60 X ih v2 x3 x4 x5 ls H locs h (lv_sub hl [0, 1, 2, 3, 4] rfl) hP hD hS
    have h := (if_pos hc).symm.trans h
    refine lv_aload_n hx hb d_PatternWriter_writeInteger_53 rfl (lv_at hl 1 rfl) ?_
    refine lv_bipush (v := 44) hx hb d_PatternWriter_writeInteger_54 (by decide) ?_
    obtain ⟨o56, ho56, h⟩ := x_bnd h
    refine x_calli (r0 := o56.1) (ws2 := (wd_PatternWriter_writeInteger cC cI a0_0 a1_0 a2_0 a2_1 v0 v1 o56.2)) (x_runVN (As := [.int (44 : Int32)]) (rest := []) X (c_Row_add l D cC cI H.size a2_0 a2_1 v2 (44 : Int32) o56 ho56) b_21 1 (hN _ n_29) (htB _ b_23) (htB _ b_24) (htB _ b_22) ⟨by decide, by decide, by decide +kernel⟩ ⟨(Nat.le_of_ble_eq_true rfl), (Nat.le_of_ble_eq_true rfl)⟩ 2 rfl rfl hP hD hS [2, 3] rfl (by decide) rfl rfl hl.1 rfl rfl (Nat.le_of_ble_eq_true rfl) d_PatternWriter_writeInteger_56) hP hD hS hA [2, 3] [0, 1] [0, 1, 2, 3] rfl rfl (by decide) (by decide) rfl (by decide) (fun H locs hP hD hS => ?_)
    refine lv_pop hx hb d_PatternWriter_writeInteger_59 rfl ?_
    exact w_PatternWriter_writeInteger_60 X ih o56.2 x3 x4 x5 ls H locs h (lv_sub hl [0, 1, 2, 3, 4] rfl) hP hD hS

def f_PatternWriter_writeInteger (v0 : T_PatternWriter) (v1 : T_Shape) (v2 : T_Row) : Option O_PatternWriter_writeInteger := f_PatternWriter_writeInteger_27 v0 v1 FU v2 (if (0 : Int32) < ((v1.2.2.2.2.2.1 + (1 : Int32)) - v1.2.1) then ((v1.2.2.2.2.2.1 + (1 : Int32)) - v1.2.1) else (0 : Int32)) ((if (0 : Int32) < ((v1.2.2.2.2.2.1 + (1 : Int32)) - v1.2.1) then ((v1.2.2.2.2.2.1 + (1 : Int32)) - v1.2.1) else (0 : Int32)) + v1.2.1) (0 : Int32)
set_option maxHeartbeats 4000000 in
set_option maxRecDepth 100000 in
theorem w_PatternWriter_writeInteger {p : Program} {l : Launch} {e : Env} {s : State} {m : MethodId} {args : Array Value} {below : List Frame} {meth : Method} {c : Code} {A : Nat → Prop} {D : va_G} {cC cI : ClassId} {a0_0 a1_0 a2_0 a2_1 : Nat} {v0 : T_PatternWriter} {v1 : T_Shape} (X : xCX p s m args meth c A D cC cI b_PatternWriter_writeInteger 6 R_PatternWriter none) {out : O_PatternWriter_writeInteger} (v2 : T_Row) {ls : Array Slot} {H : Heap} {locs : List Loc} (h : f_PatternWriter_writeInteger v0 v1 v2 = some out) (hl : lv_has ls 6 [(0, .ref a0_0), (1, .ref a1_0), (2, .ref a2_0)]) (hP : va_P D classes (wd_PatternWriter_writeInteger cC cI a0_0 a1_0 a2_0 a2_1 v0 v1 v2) H) (hD : va_D A (wd_PatternWriter_writeInteger cC cI a0_0 a1_0 a2_0 a2_1 v0 v1 v2)) (hS : va_S A s.heap H locs) : W p l e rm_PatternWriter_writeInteger s m args below meth c H locs 0 0 (MQ below (q_PatternWriter_writeInteger D cC cI a0_0 a1_0 a2_0 a2_1 v0 v1 out A) args s 0 0 A) (F0 m 0 ls []) := by
  obtain ⟨hx, hb, hml, hown, htB, ⟨hK, hN⟩, hZ, hA, hr, hlocks⟩ := id X
  refine lv_iconst (v := 0) hx hb d_PatternWriter_writeInteger_0 (by decide) ?_
  refine lv_aload_n hx hb d_PatternWriter_writeInteger_1 rfl (lv_at hl 1 rfl) ?_
  refine va_getN (D := D) (ci := 2) (v := .int v1.2.2.2.2.2.1) (C := R_Shape) (T := F_Shape) (N := 7) hx hb htB in_Shape hown hK hP 1 rfl rfl 5 (by decide) (va_Nw.use rfl (hN _ n_32)) (fun _ h9 => h9) rfl d_PatternWriter_writeInteger_2 ?_
  refine lv_iconst (v := 1) hx hb d_PatternWriter_writeInteger_5 (by decide) ?_
  refine lv_iadd hx hb d_PatternWriter_writeInteger_6 ?_
  refine lv_aload_n hx hb d_PatternWriter_writeInteger_7 rfl (lv_at hl 1 rfl) ?_
  refine va_getN (D := D) (ci := 2) (v := .int v1.2.1) (C := R_Shape) (T := F_Shape) (N := 7) hx hb htB in_Shape hown hK hP 1 rfl rfl 1 (by decide) (va_Nw.use rfl (hN _ n_33)) (fun _ h9 => h9) rfl d_PatternWriter_writeInteger_8 ?_
  refine lv_isub hx hb d_PatternWriter_writeInteger_11 ?_
  refine va_mmax hx hb (hml.trans hl.1.symm) hown (htB _ b_106) (htB _ b_107) (htB _ b_108) (htB _ b_109) (Nat.le_of_ble_eq_true rfl) (Nat.le_of_ble_eq_true rfl) (Nat.le_of_ble_eq_true rfl) (Nat.le_of_ble_eq_true rfl) d_PatternWriter_writeInteger_12 ?_
  refine lv_istore_n (lv' := [(3, .int (if (0 : Int32) < ((v1.2.2.2.2.2.1 + (1 : Int32)) - v1.2.1) then ((v1.2.2.2.2.2.1 + (1 : Int32)) - v1.2.1) else (0 : Int32))), (0, .ref a0_0), (1, .ref a1_0), (2, .ref a2_0)]) hx hb d_PatternWriter_writeInteger_15 rfl hl (by decide) rfl (fun ls hl => ?_)
  refine lv_iload_n hx hb d_PatternWriter_writeInteger_16 rfl (lv_at hl 0 rfl) ?_
  refine lv_aload_n hx hb d_PatternWriter_writeInteger_17 rfl (lv_at hl 2 rfl) ?_
  refine va_getN (D := D) (ci := 2) (v := .int v1.2.1) (C := R_Shape) (T := F_Shape) (N := 7) hx hb htB in_Shape hown hK hP 1 rfl rfl 1 (by decide) (va_Nw.use rfl (hN _ n_33)) (fun _ h9 => h9) rfl d_PatternWriter_writeInteger_18 ?_
  refine lv_iadd hx hb d_PatternWriter_writeInteger_21 ?_
  refine lv_istore (lv' := [(4, .int ((if (0 : Int32) < ((v1.2.2.2.2.2.1 + (1 : Int32)) - v1.2.1) then ((v1.2.2.2.2.2.1 + (1 : Int32)) - v1.2.1) else (0 : Int32)) + v1.2.1)), (3, .int (if (0 : Int32) < ((v1.2.2.2.2.2.1 + (1 : Int32)) - v1.2.1) then ((v1.2.2.2.2.2.1 + (1 : Int32)) - v1.2.1) else (0 : Int32))), (0, .ref a0_0), (1, .ref a1_0), (2, .ref a2_0)]) hx hb d_PatternWriter_writeInteger_22 hl (by decide) rfl (fun ls hl => ?_)
  refine lv_iconst (v := 0) hx hb d_PatternWriter_writeInteger_24 (by decide) ?_
  refine lv_istore (lv' := [(5, .int (0 : Int32)), (4, .int ((if (0 : Int32) < ((v1.2.2.2.2.2.1 + (1 : Int32)) - v1.2.1) then ((v1.2.2.2.2.2.1 + (1 : Int32)) - v1.2.1) else (0 : Int32)) + v1.2.1)), (3, .int (if (0 : Int32) < ((v1.2.2.2.2.2.1 + (1 : Int32)) - v1.2.1) then ((v1.2.2.2.2.2.1 + (1 : Int32)) - v1.2.1) else (0 : Int32))), (0, .ref a0_0), (1, .ref a1_0), (2, .ref a2_0)]) hx hb d_PatternWriter_writeInteger_25 hl (by decide) rfl (fun ls hl => ?_)
  exact w_PatternWriter_writeInteger_27 X FU v2 (if (0 : Int32) < ((v1.2.2.2.2.2.1 + (1 : Int32)) - v1.2.1) then ((v1.2.2.2.2.2.1 + (1 : Int32)) - v1.2.1) else (0 : Int32)) ((if (0 : Int32) < ((v1.2.2.2.2.2.1 + (1 : Int32)) - v1.2.1) then ((v1.2.2.2.2.2.1 + (1 : Int32)) - v1.2.1) else (0 : Int32)) + v1.2.1) (0 : Int32) ls H locs h (lv_sub hl [4, 5, 2, 1, 0] rfl) hP hD hS

set_option maxHeartbeats 4000000 in
set_option maxRecDepth 100000 in
theorem c_PatternWriter_writeInteger (l : Launch) (D : va_G) (cC cI : ClassId) (sz : Nat) (a0_0 a1_0 a2_0 a2_1 : Nat) (v0 : T_PatternWriter) (v1 : T_Shape) (v2 : T_Row) (out : O_PatternWriter_writeInteger) (h : f_PatternWriter_writeInteger v0 v1 v2 = some out) : Met l y_PatternWriter_writeInteger (.code y_PatternWriter_writeInteger b_PatternWriter_writeInteger 6 none :: BIG) rm_PatternWriter_writeInteger (va_Pc [.ref a0_0, .ref a1_0, .ref a2_0] (xPre D cC cI (wd_PatternWriter_writeInteger cC cI a0_0 a1_0 a2_0 a2_1 v0 v1 v2) sz)) (q_PatternWriter_writeInteger D cC cI a0_0 a1_0 a2_0 a2_1 v0 v1 out (va_A (wd_PatternWriter_writeInteger cC cI a0_0 a1_0 a2_0 a2_1 v0 v1 v2) sz)) 0 0 (va_A (wd_PatternWriter_writeInteger cC cI a0_0 a1_0 a2_0 a2_1 v0 v1 v2) sz) := by
  refine Met.ofW (cc := b_PatternWriter_writeInteger) (maxL := 6) (ret := none) (by decide) rfl ?_
  intro p e s m args below meth c s₁ B hml hv
  obtain ⟨rfl, rfl, hP, hD0, hG, hZ⟩ := hv
  have hl := lv_entry [.ref a0_0, .ref a1_0, .ref a2_0] (n := 6) (Nat.le_of_ble_eq_true rfl)
  rw [lg_entry_eq]
  exact w_PatternWriter_writeInteger (x_cx B hml hG hZ) v2 h hl hP hD0.self va_S.rf

abbrev wd_PatternWriter_writeMany (cC cI : ClassId) (a2_0 a2_1 : Nat) (v2 : T_Row) : va_W := [(a2_0, .inr (0, [.ref a2_1, .int v2.2])), (a2_1, .inl (cC, 120, .inl v2.1))]
abbrev O_PatternWriter_writeMany : Type := T_Row
abbrev q_PatternWriter_writeMany (D : va_G) (cC cI : ClassId) (a2_0 a2_1 : Nat)  (out : O_PatternWriter_writeMany) (A : Nat → Prop) : Array Value → State → Outcome → State → Prop := va_Qv (fun _ : Unit => True) (fun _ t => va_P D classes (wd_PatternWriter_writeMany cC cI a2_0 a2_1 out) t.heap ∧ va_D A (wd_PatternWriter_writeMany cC cI a2_0 a2_1 out)) A
abbrev rm_PatternWriter_writeMany : Room := { frames := 1, cells := 0, slots := 0, locals := 21 }
def J_PatternWriter_writeMany_2 (p : Program) (l : Launch) (e : Env) (s : State) (m : MethodId) (args : Array Value) (below : List Frame) (meth : Method) (c : Code) (A : Nat → Prop) (D : va_G) (cC cI : ClassId) (a2_0 a2_1 : Nat) (out : O_PatternWriter_writeMany) (k : T_Row → Int32 → Int32 → Int32 → Option O_PatternWriter_writeMany) : Prop := ∀ (v2 : T_Row) (x0 : Int32) (x1 : Int32) (x3 : Int32) (ls : Array Slot) (H : Heap) (locs : List Loc), k v2 x0 x1 x3 = some out → lv_has ls 4 [(0, .int x0), (1, .int x1), (2, .ref a2_0), (3, .int x3)] → va_P D classes (wd_PatternWriter_writeMany cC cI a2_0 a2_1 v2) H → va_D A (wd_PatternWriter_writeMany cC cI a2_0 a2_1 v2) → va_S A s.heap H locs → W p l e rm_PatternWriter_writeMany s m args below meth c H locs 0 0 (MQ below (q_PatternWriter_writeMany D cC cI a2_0 a2_1 out A) args s 0 0 A) (F0 m 2 ls [])
def f_PatternWriter_writeMany_2   : Nat → T_Row → Int32 → Int32 → Int32 → Option O_PatternWriter_writeMany
  | 0, _, _, _, _ => none
  | n + 1, v2, x0, x1, x3 => (if x1 ≤ x3 then some v2 else (f_Row_add v2 x0).bind (fun o9 => (f_PatternWriter_writeMany_2  n) o9.2 x0 x1 (x3 + (1 : Int32))))
set_option maxHeartbeats 4000000 in
set_option maxRecDepth 100000 in
theorem w_PatternWriter_writeMany_2 {p : Program} {l : Launch} {e : Env} {s : State} {m : MethodId} {args : Array Value} {below : List Frame} {meth : Method} {c : Code} {A : Nat → Prop} {D : va_G} {cC cI : ClassId} {a2_0 a2_1 : Nat} (X : xCX p s m args meth c A D cC cI b_PatternWriter_writeMany 4 R_PatternWriter none) {out : O_PatternWriter_writeMany}   : ∀ n : Nat, J_PatternWriter_writeMany_2 p l e s m args below meth c A D cC cI a2_0 a2_1 out (f_PatternWriter_writeMany_2   n) := by
  obtain ⟨hx, hb, hml, hown, htB, ⟨hK, hN⟩, hZ, hA, hr, hlocks⟩ := id X
  intro n
  induction n with
  | zero =>
    intro v2 x0 x1 x3 ls H locs h hl hP hD hS
    cases h
  | succ n ih =>
    intro v2 x0 x1 x3 ls H locs h hl hP hD hS
    refine lv_iload_n hx hb d_PatternWriter_writeMany_2 rfl (lv_at hl 3 rfl) ?_
    refine lv_iload_n hx hb d_PatternWriter_writeMany_3 rfl (lv_at hl 1 rfl) ?_
    refine lv_icmp_ge (tgt := 19) hx hb d_PatternWriter_writeMany_4 rfl (fun hc => ?_) (fun hc => ?_)
    · have h := (if_pos hc).symm.trans h
      obtain rfl := Option.some.inj h
      exact W.vret hx hb hr (fun t ht hW => ⟨⟨(), rfl, trivial, by rw [ht]; exact hP, hD⟩, hS.F ht⟩) hS.2.2 d_PatternWriter_writeMany_19 hlocks
    have h := (if_neg hc).symm.trans h
    refine lv_aload_n hx hb d_PatternWriter_writeMany_7 rfl (lv_at hl 2 rfl) ?_
    refine lv_iload_n hx hb d_PatternWriter_writeMany_8 rfl (lv_at hl 0 rfl) ?_
    obtain ⟨o9, ho9, h⟩ := x_bnd h
    refine x_calli (r0 := o9.1) (ws2 := (wd_PatternWriter_writeMany cC cI a2_0 a2_1 o9.2)) (x_runVN (As := [.int x0]) (rest := []) X (c_Row_add l D cC cI H.size a2_0 a2_1 v2 x0 o9 ho9) b_21 1 (hN _ n_29) (htB _ b_23) (htB _ b_24) (htB _ b_22) ⟨by decide, by decide, by decide +kernel⟩ ⟨(Nat.le_of_ble_eq_true rfl), (Nat.le_of_ble_eq_true rfl)⟩ 0 rfl rfl hP hD hS [0, 1] rfl (by decide) rfl rfl hl.1 rfl rfl (Nat.le_of_ble_eq_true rfl) d_PatternWriter_writeMany_9) hP hD hS hA [0, 1] [] [0, 1] rfl rfl (by decide) (by decide) rfl (by decide) (fun H locs hP hD hS => ?_)
    refine lv_pop hx hb d_PatternWriter_writeMany_12 rfl ?_
    refine lv_iinc (k := 3) (v := (x3 + (1 : Int32))) (lv' := [(3, .int (x3 + (1 : Int32))), (0, .int x0), (1, .int x1), (2, .ref a2_0)]) hx hb d_PatternWriter_writeMany_13 hl rfl (congrArg (fun z => x3 + z) (by decide : Int32.ofInt 1 = (1 : Int32))) (by decide) rfl (fun ls hl => ?_)
    refine lv_goto (tgt := 2) hx hb d_PatternWriter_writeMany_16 rfl ?_
    exact ih o9.2 x0 x1 (x3 + (1 : Int32)) ls H locs h (lv_sub hl [1, 2, 3, 0] rfl) hP hD hS

def f_PatternWriter_writeMany (v0 : Int32) (v1 : Int32) (v2 : T_Row) : Option O_PatternWriter_writeMany := f_PatternWriter_writeMany_2 FU v2 v0 v1 (0 : Int32)
set_option maxHeartbeats 4000000 in
set_option maxRecDepth 100000 in
theorem w_PatternWriter_writeMany {p : Program} {l : Launch} {e : Env} {s : State} {m : MethodId} {args : Array Value} {below : List Frame} {meth : Method} {c : Code} {A : Nat → Prop} {D : va_G} {cC cI : ClassId} {a2_0 a2_1 : Nat} (X : xCX p s m args meth c A D cC cI b_PatternWriter_writeMany 4 R_PatternWriter none) {out : O_PatternWriter_writeMany} (v0 : Int32) (v1 : Int32) (v2 : T_Row) {ls : Array Slot} {H : Heap} {locs : List Loc} (h : f_PatternWriter_writeMany v0 v1 v2 = some out) (hl : lv_has ls 4 [(0, .int v0), (1, .int v1), (2, .ref a2_0)]) (hP : va_P D classes (wd_PatternWriter_writeMany cC cI a2_0 a2_1 v2) H) (hD : va_D A (wd_PatternWriter_writeMany cC cI a2_0 a2_1 v2)) (hS : va_S A s.heap H locs) : W p l e rm_PatternWriter_writeMany s m args below meth c H locs 0 0 (MQ below (q_PatternWriter_writeMany D cC cI a2_0 a2_1 out A) args s 0 0 A) (F0 m 0 ls []) := by
  obtain ⟨hx, hb, hml, hown, htB, ⟨hK, hN⟩, hZ, hA, hr, hlocks⟩ := id X
  refine lv_iconst (v := 0) hx hb d_PatternWriter_writeMany_0 (by decide) ?_
  refine lv_istore_n (lv' := [(3, .int (0 : Int32)), (0, .int v0), (1, .int v1), (2, .ref a2_0)]) hx hb d_PatternWriter_writeMany_1 rfl hl (by decide) rfl (fun ls hl => ?_)
  exact w_PatternWriter_writeMany_2 X FU v2 v0 v1 (0 : Int32) ls H locs h (lv_sub hl [1, 2, 3, 0] rfl) hP hD hS

set_option maxHeartbeats 4000000 in
set_option maxRecDepth 100000 in
theorem c_PatternWriter_writeMany (l : Launch) (D : va_G) (cC cI : ClassId) (sz : Nat) (a2_0 a2_1 : Nat) (v0 : Int32) (v1 : Int32) (v2 : T_Row) (out : O_PatternWriter_writeMany) (h : f_PatternWriter_writeMany v0 v1 v2 = some out) : Met l y_PatternWriter_writeMany (.code y_PatternWriter_writeMany b_PatternWriter_writeMany 4 none :: BIG) rm_PatternWriter_writeMany (va_Pc [.int v0, .int v1, .ref a2_0] (xPre D cC cI (wd_PatternWriter_writeMany cC cI a2_0 a2_1 v2) sz)) (q_PatternWriter_writeMany D cC cI a2_0 a2_1 out (va_A (wd_PatternWriter_writeMany cC cI a2_0 a2_1 v2) sz)) 0 0 (va_A (wd_PatternWriter_writeMany cC cI a2_0 a2_1 v2) sz) := by
  refine Met.ofW (cc := b_PatternWriter_writeMany) (maxL := 4) (ret := none) (by decide) rfl ?_
  intro p e s m args below meth c s₁ B hml hv
  obtain ⟨rfl, rfl, hP, hD0, hG, hZ⟩ := hv
  have hl := lv_entry [.int v0, .int v1, .ref a2_0] (n := 4) (Nat.le_of_ble_eq_true rfl)
  rw [lg_entry_eq]
  exact w_PatternWriter_writeMany (x_cx B hml hG hZ) v0 v1 v2 h hl hP hD0.self va_S.rf

abbrev wd_PatternWriter_writeShape (cC cI : ClassId) (a0_0 a1_0 a2_0 a2_1 : Nat) (v0 : T_PatternWriter) (v1 : T_Shape) (v2 : T_Row) : va_W := [(a0_0, .inr (6, [])), (a1_0, .inr (2, [.int v1.1, .int v1.2.1, .int v1.2.2.1, .int v1.2.2.2.1, .int v1.2.2.2.2.1, .int v1.2.2.2.2.2.1, .int v1.2.2.2.2.2.2])), (a2_0, .inr (0, [.ref a2_1, .int v2.2])), (a2_1, .inl (cC, 120, .inl v2.1))]
abbrev O_PatternWriter_writeShape : Type := T_Row
abbrev q_PatternWriter_writeShape (D : va_G) (cC cI : ClassId) (a0_0 a1_0 a2_0 a2_1 : Nat) (v0 : T_PatternWriter) (v1 : T_Shape) (out : O_PatternWriter_writeShape) (A : Nat → Prop) : Array Value → State → Outcome → State → Prop := va_Qv (fun _ : Unit => True) (fun _ t => va_P D classes (wd_PatternWriter_writeShape cC cI a0_0 a1_0 a2_0 a2_1 v0 v1 out) t.heap ∧ va_D A (wd_PatternWriter_writeShape cC cI a0_0 a1_0 a2_0 a2_1 v0 v1 out)) A
abbrev rm_PatternWriter_writeShape : Room := { frames := 2, cells := 0, slots := 0, locals := 46 }
def J_PatternWriter_writeShape_45 (p : Program) (l : Launch) (e : Env) (s : State) (m : MethodId) (args : Array Value) (below : List Frame) (meth : Method) (c : Code) (A : Nat → Prop) (D : va_G) (cC cI : ClassId) (a0_0 a1_0 a2_0 a2_1 : Nat) (v0 : T_PatternWriter) (v1 : T_Shape) (out : O_PatternWriter_writeShape) (k : T_Row → Option O_PatternWriter_writeShape) : Prop := ∀ (v2 : T_Row) (ls : Array Slot) (H : Heap) (locs : List Loc), k v2 = some out → lv_has ls 3 [(1, .ref a1_0), (2, .ref a2_0)] → va_P D classes (wd_PatternWriter_writeShape cC cI a0_0 a1_0 a2_0 a2_1 v0 v1 v2) H → va_D A (wd_PatternWriter_writeShape cC cI a0_0 a1_0 a2_0 a2_1 v0 v1 v2) → va_S A s.heap H locs → W p l e rm_PatternWriter_writeShape s m args below meth c H locs 0 0 (MQ below (q_PatternWriter_writeShape D cC cI a0_0 a1_0 a2_0 a2_1 v0 v1 out A) args s 0 0 A) (F0 m 45 ls [])
def J_PatternWriter_writeShape_69 (p : Program) (l : Launch) (e : Env) (s : State) (m : MethodId) (args : Array Value) (below : List Frame) (meth : Method) (c : Code) (A : Nat → Prop) (D : va_G) (cC cI : ClassId) (a0_0 a1_0 a2_0 a2_1 : Nat) (v0 : T_PatternWriter) (v1 : T_Shape) (out : O_PatternWriter_writeShape) (k : T_Row → Option O_PatternWriter_writeShape) : Prop := ∀ (v2 : T_Row) (ls : Array Slot) (H : Heap) (locs : List Loc), k v2 = some out → lv_has ls 3 [] → va_P D classes (wd_PatternWriter_writeShape cC cI a0_0 a1_0 a2_0 a2_1 v0 v1 v2) H → va_D A (wd_PatternWriter_writeShape cC cI a0_0 a1_0 a2_0 a2_1 v0 v1 v2) → va_S A s.heap H locs → W p l e rm_PatternWriter_writeShape s m args below meth c H locs 0 0 (MQ below (q_PatternWriter_writeShape D cC cI a0_0 a1_0 a2_0 a2_1 v0 v1 out A) args s 0 0 A) (F0 m 69 ls [])
def f_PatternWriter_writeShape_69 (v0 : T_PatternWriter) (v1 : T_Shape) (v2 : T_Row) : Option O_PatternWriter_writeShape := some v2
set_option maxHeartbeats 4000000 in
set_option maxRecDepth 100000 in
theorem w_PatternWriter_writeShape_69 {p : Program} {l : Launch} {e : Env} {s : State} {m : MethodId} {args : Array Value} {below : List Frame} {meth : Method} {c : Code} {A : Nat → Prop} {D : va_G} {cC cI : ClassId} {a0_0 a1_0 a2_0 a2_1 : Nat} {v0 : T_PatternWriter} {v1 : T_Shape} (X : xCX p s m args meth c A D cC cI b_PatternWriter_writeShape 3 R_PatternWriter none) {out : O_PatternWriter_writeShape}   : J_PatternWriter_writeShape_69 p l e s m args below meth c A D cC cI a0_0 a1_0 a2_0 a2_1 v0 v1 out (f_PatternWriter_writeShape_69 v0 v1 ) := by
  obtain ⟨hx, hb, hml, hown, htB, ⟨hK, hN⟩, hZ, hA, hr, hlocks⟩ := id X
  intro v2 ls H locs h hl hP hD hS
  obtain rfl := Option.some.inj h
  exact W.vret hx hb hr (fun t ht hW => ⟨⟨(), rfl, trivial, by rw [ht]; exact hP, hD⟩, hS.F ht⟩) hS.2.2 d_PatternWriter_writeShape_69 hlocks

def f_PatternWriter_writeShape_45 (v0 : T_PatternWriter) (v1 : T_Shape) (v2 : T_Row) : Option O_PatternWriter_writeShape := (if v1.2.2.2.2.2.2 ≤ 0 then f_PatternWriter_writeShape_69 v0 v1 v2 else (f_Row_add v2 (69 : Int32)).bind (fun o55 => (f_PatternWriter_writeMany (48 : Int32) v1.2.2.2.2.2.2 o55.2).bind (fun o66 => f_PatternWriter_writeShape_69 v0 v1 o66)))
set_option maxHeartbeats 4000000 in
set_option maxRecDepth 100000 in
theorem w_PatternWriter_writeShape_45 {p : Program} {l : Launch} {e : Env} {s : State} {m : MethodId} {args : Array Value} {below : List Frame} {meth : Method} {c : Code} {A : Nat → Prop} {D : va_G} {cC cI : ClassId} {a0_0 a1_0 a2_0 a2_1 : Nat} {v0 : T_PatternWriter} {v1 : T_Shape} (X : xCX p s m args meth c A D cC cI b_PatternWriter_writeShape 3 R_PatternWriter none) {out : O_PatternWriter_writeShape}   : J_PatternWriter_writeShape_45 p l e s m args below meth c A D cC cI a0_0 a1_0 a2_0 a2_1 v0 v1 out (f_PatternWriter_writeShape_45 v0 v1 ) := by
  obtain ⟨hx, hb, hml, hown, htB, ⟨hK, hN⟩, hZ, hA, hr, hlocks⟩ := id X
  intro v2 ls H locs h hl hP hD hS
  refine lv_aload_n hx hb d_PatternWriter_writeShape_45 rfl (lv_at hl 0 rfl) ?_
  refine va_getN (D := D) (ci := 2) (v := .int v1.2.2.2.2.2.2) (C := R_Shape) (T := F_Shape) (N := 7) hx hb htB in_Shape hown hK hP 1 rfl rfl 6 (by decide) (va_Nw.use rfl (hN _ n_35)) (fun _ h9 => h9) rfl d_PatternWriter_writeShape_46 ?_
  refine lv_if_le (tgt := 69) hx hb d_PatternWriter_writeShape_49 rfl (fun hc => ?_) (fun hc => ?_)
  · have h := (if_pos hc).symm.trans h
    exact w_PatternWriter_writeShape_69 X v2 ls H locs h (lv_sub hl [] rfl) hP hD hS
  have h := (if_neg hc).symm.trans h
  refine lv_aload_n hx hb d_PatternWriter_writeShape_52 rfl (lv_at hl 1 rfl) ?_
  refine lv_bipush (v := 69) hx hb d_PatternWriter_writeShape_53 (by decide) ?_
  obtain ⟨o55, ho55, h⟩ := x_bnd h
  refine x_calli (r0 := o55.1) (ws2 := (wd_PatternWriter_writeShape cC cI a0_0 a1_0 a2_0 a2_1 v0 v1 o55.2)) (x_runVN (As := [.int (69 : Int32)]) (rest := []) X (c_Row_add l D cC cI H.size a2_0 a2_1 v2 (69 : Int32) o55 ho55) b_21 1 (hN _ n_29) (htB _ b_23) (htB _ b_24) (htB _ b_22) ⟨by decide, by decide, by decide +kernel⟩ ⟨(Nat.le_of_ble_eq_true rfl), (Nat.le_of_ble_eq_true rfl)⟩ 2 rfl rfl hP hD hS [2, 3] rfl (by decide) rfl rfl hl.1 rfl rfl (Nat.le_of_ble_eq_true rfl) d_PatternWriter_writeShape_55) hP hD hS hA [2, 3] [0, 1] [0, 1, 2, 3] rfl rfl (by decide) (by decide) rfl (by decide) (fun H locs hP hD hS => ?_)
  refine lv_pop hx hb d_PatternWriter_writeShape_58 rfl ?_
  refine lv_bipush (v := 48) hx hb d_PatternWriter_writeShape_59 (by decide) ?_
  refine lv_aload_n hx hb d_PatternWriter_writeShape_61 rfl (lv_at hl 0 rfl) ?_
  refine va_getN (D := D) (ci := 2) (v := .int v1.2.2.2.2.2.2) (C := R_Shape) (T := F_Shape) (N := 7) hx hb htB in_Shape hown hK hP 1 rfl rfl 6 (by decide) (va_Nw.use rfl (hN _ n_35)) (fun _ h9 => h9) rfl d_PatternWriter_writeShape_62 ?_
  refine lv_aload_n hx hb d_PatternWriter_writeShape_65 rfl (lv_at hl 1 rfl) ?_
  obtain ⟨o66, ho66, h⟩ := x_bnd h
  refine x_callv (ws2 := (wd_PatternWriter_writeShape cC cI a0_0 a1_0 a2_0 a2_1 v0 v1 o66)) (x_runS (As := [.int (48 : Int32), .int v1.2.2.2.2.2.2, .ref a2_0]) (rest := []) X (c_PatternWriter_writeMany l D cC cI H.size a2_0 a2_1 (48 : Int32) v1.2.2.2.2.2.2 o55.2 o66 ho66) b_114 3 (htB _ b_116) (htB _ b_115) (htB _ b_103) ⟨by decide, by decide, by decide +kernel⟩ ⟨(Nat.le_of_ble_eq_true rfl), (Nat.le_of_ble_eq_true rfl)⟩ hP hD hS [2, 3] rfl (by decide) rfl rfl hl.1 rfl rfl (Nat.le_of_ble_eq_true rfl) d_PatternWriter_writeShape_66) hP hD hS hA [2, 3] [0, 1] [0, 1, 2, 3] rfl rfl (by decide) (by decide) rfl (by decide) (fun H locs hP hD hS => ?_)
  exact w_PatternWriter_writeShape_69 X o66 ls H locs h (lv_sub hl [] rfl) hP hD hS

def f_PatternWriter_writeShape (v0 : T_PatternWriter) (v1 : T_Shape) (v2 : T_Row) : Option O_PatternWriter_writeShape := (f_PatternWriter_writeInteger v0 v1 v2).bind (fun o3 => (if v1.2.2.2.1 ≤ 0 then f_PatternWriter_writeShape_45 v0 v1 o3 else (f_Row_add o3 (46 : Int32)).bind (fun o16 => (f_PatternWriter_writeMany (48 : Int32) v1.2.2.1 o16.2).bind (fun o27 => (f_PatternWriter_writeMany (35 : Int32) (v1.2.2.2.1 - v1.2.2.1) o27).bind (fun o42 => f_PatternWriter_writeShape_45 v0 v1 o42)))))
set_option maxHeartbeats 4000000 in
set_option maxRecDepth 100000 in
theorem w_PatternWriter_writeShape {p : Program} {l : Launch} {e : Env} {s : State} {m : MethodId} {args : Array Value} {below : List Frame} {meth : Method} {c : Code} {A : Nat → Prop} {D : va_G} {cC cI : ClassId} {a0_0 a1_0 a2_0 a2_1 : Nat} {v0 : T_PatternWriter} {v1 : T_Shape} (X : xCX p s m args meth c A D cC cI b_PatternWriter_writeShape 3 R_PatternWriter none) {out : O_PatternWriter_writeShape} (v2 : T_Row) {ls : Array Slot} {H : Heap} {locs : List Loc} (h : f_PatternWriter_writeShape v0 v1 v2 = some out) (hl : lv_has ls 3 [(0, .ref a0_0), (1, .ref a1_0), (2, .ref a2_0)]) (hP : va_P D classes (wd_PatternWriter_writeShape cC cI a0_0 a1_0 a2_0 a2_1 v0 v1 v2) H) (hD : va_D A (wd_PatternWriter_writeShape cC cI a0_0 a1_0 a2_0 a2_1 v0 v1 v2)) (hS : va_S A s.heap H locs) : W p l e rm_PatternWriter_writeShape s m args below meth c H locs 0 0 (MQ below (q_PatternWriter_writeShape D cC cI a0_0 a1_0 a2_0 a2_1 v0 v1 out A) args s 0 0 A) (F0 m 0 ls []) := by
  obtain ⟨hx, hb, hml, hown, htB, ⟨hK, hN⟩, hZ, hA, hr, hlocks⟩ := id X
  refine lv_aload_n hx hb d_PatternWriter_writeShape_0 rfl (lv_at hl 0 rfl) ?_
  refine lv_aload_n hx hb d_PatternWriter_writeShape_1 rfl (lv_at hl 1 rfl) ?_
  refine lv_aload_n hx hb d_PatternWriter_writeShape_2 rfl (lv_at hl 2 rfl) ?_
  obtain ⟨o3, ho3, h⟩ := x_bnd h
  refine x_callv (ws2 := (wd_PatternWriter_writeShape cC cI a0_0 a1_0 a2_0 a2_1 v0 v1 o3)) (x_runV (As := [.ref a1_0, .ref a2_0]) (rest := []) X (c_PatternWriter_writeInteger l D cC cI H.size a0_0 a1_0 a2_0 a2_1 v0 v1 v2 o3 ho3) b_110 2 (htB _ b_113) (htB _ b_111) (htB _ b_112) (htB _ b_103) ⟨by decide, by decide, by decide +kernel⟩ ⟨(Nat.le_of_ble_eq_true rfl), (Nat.le_of_ble_eq_true rfl)⟩ 0 rfl rfl hP hD hS [0, 1, 2, 3] rfl (by decide) rfl rfl hl.1 rfl rfl (Nat.le_of_ble_eq_true rfl) d_PatternWriter_writeShape_3) hP hD hS hA [0, 1, 2, 3] [] [0, 1, 2, 3] rfl rfl (by decide) (by decide) rfl (by decide) (fun H locs hP hD hS => ?_)
  refine lv_aload_n hx hb d_PatternWriter_writeShape_6 rfl (lv_at hl 1 rfl) ?_
  refine va_getN (D := D) (ci := 2) (v := .int v1.2.2.2.1) (C := R_Shape) (T := F_Shape) (N := 7) hx hb htB in_Shape hown hK hP 1 rfl rfl 3 (by decide) (va_Nw.use rfl (hN _ n_34)) (fun _ h9 => h9) rfl d_PatternWriter_writeShape_7 ?_
  refine lv_if_le (tgt := 45) hx hb d_PatternWriter_writeShape_10 rfl (fun hc => ?_) (fun hc => ?_)
  · have h := (if_pos hc).symm.trans h
    exact w_PatternWriter_writeShape_45 X o3 ls H locs h (lv_sub hl [1, 2] rfl) hP hD hS
  have h := (if_neg hc).symm.trans h
  refine lv_aload_n hx hb d_PatternWriter_writeShape_13 rfl (lv_at hl 2 rfl) ?_
  refine lv_bipush (v := 46) hx hb d_PatternWriter_writeShape_14 (by decide) ?_
  obtain ⟨o16, ho16, h⟩ := x_bnd h
  refine x_calli (r0 := o16.1) (ws2 := (wd_PatternWriter_writeShape cC cI a0_0 a1_0 a2_0 a2_1 v0 v1 o16.2)) (x_runVN (As := [.int (46 : Int32)]) (rest := []) X (c_Row_add l D cC cI H.size a2_0 a2_1 o3 (46 : Int32) o16 ho16) b_21 1 (hN _ n_29) (htB _ b_23) (htB _ b_24) (htB _ b_22) ⟨by decide, by decide, by decide +kernel⟩ ⟨(Nat.le_of_ble_eq_true rfl), (Nat.le_of_ble_eq_true rfl)⟩ 2 rfl rfl hP hD hS [2, 3] rfl (by decide) rfl rfl hl.1 rfl rfl (Nat.le_of_ble_eq_true rfl) d_PatternWriter_writeShape_16) hP hD hS hA [2, 3] [0, 1] [0, 1, 2, 3] rfl rfl (by decide) (by decide) rfl (by decide) (fun H locs hP hD hS => ?_)
  refine lv_pop hx hb d_PatternWriter_writeShape_19 rfl ?_
  refine lv_bipush (v := 48) hx hb d_PatternWriter_writeShape_20 (by decide) ?_
  refine lv_aload_n hx hb d_PatternWriter_writeShape_22 rfl (lv_at hl 1 rfl) ?_
  refine va_getN (D := D) (ci := 2) (v := .int v1.2.2.1) (C := R_Shape) (T := F_Shape) (N := 7) hx hb htB in_Shape hown hK hP 1 rfl rfl 2 (by decide) (va_Nw.use rfl (hN _ n_36)) (fun _ h9 => h9) rfl d_PatternWriter_writeShape_23 ?_
  refine lv_aload_n hx hb d_PatternWriter_writeShape_26 rfl (lv_at hl 2 rfl) ?_
  obtain ⟨o27, ho27, h⟩ := x_bnd h
  refine x_callv (ws2 := (wd_PatternWriter_writeShape cC cI a0_0 a1_0 a2_0 a2_1 v0 v1 o27)) (x_runS (As := [.int (48 : Int32), .int v1.2.2.1, .ref a2_0]) (rest := []) X (c_PatternWriter_writeMany l D cC cI H.size a2_0 a2_1 (48 : Int32) v1.2.2.1 o16.2 o27 ho27) b_114 3 (htB _ b_116) (htB _ b_115) (htB _ b_103) ⟨by decide, by decide, by decide +kernel⟩ ⟨(Nat.le_of_ble_eq_true rfl), (Nat.le_of_ble_eq_true rfl)⟩ hP hD hS [2, 3] rfl (by decide) rfl rfl hl.1 rfl rfl (Nat.le_of_ble_eq_true rfl) d_PatternWriter_writeShape_27) hP hD hS hA [2, 3] [0, 1] [0, 1, 2, 3] rfl rfl (by decide) (by decide) rfl (by decide) (fun H locs hP hD hS => ?_)
  refine lv_bipush (v := 35) hx hb d_PatternWriter_writeShape_30 (by decide) ?_
  refine lv_aload_n hx hb d_PatternWriter_writeShape_32 rfl (lv_at hl 1 rfl) ?_
  refine va_getN (D := D) (ci := 2) (v := .int v1.2.2.2.1) (C := R_Shape) (T := F_Shape) (N := 7) hx hb htB in_Shape hown hK hP 1 rfl rfl 3 (by decide) (va_Nw.use rfl (hN _ n_34)) (fun _ h9 => h9) rfl d_PatternWriter_writeShape_33 ?_
  refine lv_aload_n hx hb d_PatternWriter_writeShape_36 rfl (lv_at hl 1 rfl) ?_
  refine va_getN (D := D) (ci := 2) (v := .int v1.2.2.1) (C := R_Shape) (T := F_Shape) (N := 7) hx hb htB in_Shape hown hK hP 1 rfl rfl 2 (by decide) (va_Nw.use rfl (hN _ n_36)) (fun _ h9 => h9) rfl d_PatternWriter_writeShape_37 ?_
  refine lv_isub hx hb d_PatternWriter_writeShape_40 ?_
  refine lv_aload_n hx hb d_PatternWriter_writeShape_41 rfl (lv_at hl 2 rfl) ?_
  obtain ⟨o42, ho42, h⟩ := x_bnd h
  refine x_callv (ws2 := (wd_PatternWriter_writeShape cC cI a0_0 a1_0 a2_0 a2_1 v0 v1 o42)) (x_runS (As := [.int (35 : Int32), .int (v1.2.2.2.1 - v1.2.2.1), .ref a2_0]) (rest := []) X (c_PatternWriter_writeMany l D cC cI H.size a2_0 a2_1 (35 : Int32) (v1.2.2.2.1 - v1.2.2.1) o27 o42 ho42) b_114 3 (htB _ b_116) (htB _ b_115) (htB _ b_103) ⟨by decide, by decide, by decide +kernel⟩ ⟨(Nat.le_of_ble_eq_true rfl), (Nat.le_of_ble_eq_true rfl)⟩ hP hD hS [2, 3] rfl (by decide) rfl rfl hl.1 rfl rfl (Nat.le_of_ble_eq_true rfl) d_PatternWriter_writeShape_42) hP hD hS hA [2, 3] [0, 1] [0, 1, 2, 3] rfl rfl (by decide) (by decide) rfl (by decide) (fun H locs hP hD hS => ?_)
  exact w_PatternWriter_writeShape_45 X o42 ls H locs h (lv_sub hl [1, 2] rfl) hP hD hS

set_option maxHeartbeats 4000000 in
set_option maxRecDepth 100000 in
theorem c_PatternWriter_writeShape (l : Launch) (D : va_G) (cC cI : ClassId) (sz : Nat) (a0_0 a1_0 a2_0 a2_1 : Nat) (v0 : T_PatternWriter) (v1 : T_Shape) (v2 : T_Row) (out : O_PatternWriter_writeShape) (h : f_PatternWriter_writeShape v0 v1 v2 = some out) : Met l y_PatternWriter_writeShape (.code y_PatternWriter_writeShape b_PatternWriter_writeShape 3 none :: BIG) rm_PatternWriter_writeShape (va_Pc [.ref a0_0, .ref a1_0, .ref a2_0] (xPre D cC cI (wd_PatternWriter_writeShape cC cI a0_0 a1_0 a2_0 a2_1 v0 v1 v2) sz)) (q_PatternWriter_writeShape D cC cI a0_0 a1_0 a2_0 a2_1 v0 v1 out (va_A (wd_PatternWriter_writeShape cC cI a0_0 a1_0 a2_0 a2_1 v0 v1 v2) sz)) 0 0 (va_A (wd_PatternWriter_writeShape cC cI a0_0 a1_0 a2_0 a2_1 v0 v1 v2) sz) := by
  refine Met.ofW (cc := b_PatternWriter_writeShape) (maxL := 3) (ret := none) (by decide) rfl ?_
  intro p e s m args below meth c s₁ B hml hv
  obtain ⟨rfl, rfl, hP, hD0, hG, hZ⟩ := hv
  have hl := lv_entry [.ref a0_0, .ref a1_0, .ref a2_0] (n := 3) (Nat.le_of_ble_eq_true rfl)
  rw [lg_entry_eq]
  exact w_PatternWriter_writeShape (x_cx B hml hG hZ) v2 h hl hP hD0.self va_S.rf

abbrev wd_PatternWriter_write (cC cI : ClassId) (a0_0 a1_0 a1_1 a1_2 a1_3 a1_4 a1_5 a1_6 a1_7 a1_8 a1_9 a1_10 a1_11 a1_12 a2_0 a2_1 : Nat) (v0 : T_PatternWriter) (v1 : T_Pattern) (v2 : T_Row) : va_W := [(a0_0, .inr (6, [])), (a1_0, .inr (4, [.ref a1_1, .ref a1_7, .int v1.2.2.1, .int v1.2.2.2])), (a1_1, .inr (3, [.ref a1_2, .ref a1_4, .ref a1_5])), (a1_2, .inr (1, [.ref a1_3, .int v1.1.1.2])), (a1_3, .inl (cI, 120, .inl v1.1.1.1)), (a1_4, .inr (2, [.int v1.1.2.1.1, .int v1.1.2.1.2.1, .int v1.1.2.1.2.2.1, .int v1.1.2.1.2.2.2.1, .int v1.1.2.1.2.2.2.2.1, .int v1.1.2.1.2.2.2.2.2.1, .int v1.1.2.1.2.2.2.2.2.2])), (a1_5, .inr (1, [.ref a1_6, .int v1.1.2.2.2])), (a1_6, .inl (cI, 120, .inl v1.1.2.2.1)), (a1_7, .inr (3, [.ref a1_8, .ref a1_10, .ref a1_11])), (a1_8, .inr (1, [.ref a1_9, .int v1.2.1.1.2])), (a1_9, .inl (cI, 120, .inl v1.2.1.1.1)), (a1_10, .inr (2, [.int v1.2.1.2.1.1, .int v1.2.1.2.1.2.1, .int v1.2.1.2.1.2.2.1, .int v1.2.1.2.1.2.2.2.1, .int v1.2.1.2.1.2.2.2.2.1, .int v1.2.1.2.1.2.2.2.2.2.1, .int v1.2.1.2.1.2.2.2.2.2.2])), (a1_11, .inr (1, [.ref a1_12, .int v1.2.1.2.2.2])), (a1_12, .inl (cI, 120, .inl v1.2.1.2.2.1)), (a2_0, .inr (0, [.ref a2_1, .int v2.2])), (a2_1, .inl (cC, 120, .inl v2.1))]
abbrev O_PatternWriter_write : Type := T_Row
abbrev q_PatternWriter_write (D : va_G) (cC cI : ClassId) (a0_0 a1_0 a1_1 a1_2 a1_3 a1_4 a1_5 a1_6 a1_7 a1_8 a1_9 a1_10 a1_11 a1_12 a2_0 a2_1 : Nat) (v0 : T_PatternWriter) (v1 : T_Pattern) (out : O_PatternWriter_write) (A : Nat → Prop) : Array Value → State → Outcome → State → Prop := va_Qv (fun _ : Unit => True) (fun _ t => va_P D classes (wd_PatternWriter_write cC cI a0_0 a1_0 a1_1 a1_2 a1_3 a1_4 a1_5 a1_6 a1_7 a1_8 a1_9 a1_10 a1_11 a1_12 a2_0 a2_1 v0 v1 out) t.heap ∧ va_D A (wd_PatternWriter_write cC cI a0_0 a1_0 a1_1 a1_2 a1_3 a1_4 a1_5 a1_6 a1_7 a1_8 a1_9 a1_10 a1_11 a1_12 a2_0 a2_1 v0 v1 out)) A
abbrev rm_PatternWriter_write : Room := { frames := 3, cells := 0, slots := 0, locals := 68 }
def J_PatternWriter_write_92 (p : Program) (l : Launch) (e : Env) (s : State) (m : MethodId) (args : Array Value) (below : List Frame) (meth : Method) (c : Code) (A : Nat → Prop) (D : va_G) (cC cI : ClassId) (a0_0 a1_0 a1_1 a1_2 a1_3 a1_4 a1_5 a1_6 a1_7 a1_8 a1_9 a1_10 a1_11 a1_12 a2_0 a2_1 : Nat) (v0 : T_PatternWriter) (v1 : T_Pattern) (out : O_PatternWriter_write) (k : T_Row → Option O_PatternWriter_write) : Prop := ∀ (v2 : T_Row) (ls : Array Slot) (H : Heap) (locs : List Loc), k v2 = some out → lv_has ls 3 [] → va_P D classes (wd_PatternWriter_write cC cI a0_0 a1_0 a1_1 a1_2 a1_3 a1_4 a1_5 a1_6 a1_7 a1_8 a1_9 a1_10 a1_11 a1_12 a2_0 a2_1 v0 v1 v2) H → va_D A (wd_PatternWriter_write cC cI a0_0 a1_0 a1_1 a1_2 a1_3 a1_4 a1_5 a1_6 a1_7 a1_8 a1_9 a1_10 a1_11 a1_12 a2_0 a2_1 v0 v1 v2) → va_S A s.heap H locs → W p l e rm_PatternWriter_write s m args below meth c H locs 0 0 (MQ below (q_PatternWriter_write D cC cI a0_0 a1_0 a1_1 a1_2 a1_3 a1_4 a1_5 a1_6 a1_7 a1_8 a1_9 a1_10 a1_11 a1_12 a2_0 a2_1 v0 v1 out A) args s 0 0 A) (F0 m 92 ls [])
def f_PatternWriter_write_92 (v0 : T_PatternWriter) (v1 : T_Pattern) (v2 : T_Row) : Option O_PatternWriter_write := some v2
set_option maxHeartbeats 4000000 in
set_option maxRecDepth 100000 in
theorem w_PatternWriter_write_92 {p : Program} {l : Launch} {e : Env} {s : State} {m : MethodId} {args : Array Value} {below : List Frame} {meth : Method} {c : Code} {A : Nat → Prop} {D : va_G} {cC cI : ClassId} {a0_0 a1_0 a1_1 a1_2 a1_3 a1_4 a1_5 a1_6 a1_7 a1_8 a1_9 a1_10 a1_11 a1_12 a2_0 a2_1 : Nat} {v0 : T_PatternWriter} {v1 : T_Pattern} (X : xCX p s m args meth c A D cC cI b_PatternWriter_write 3 R_PatternWriter none) {out : O_PatternWriter_write}   : J_PatternWriter_write_92 p l e s m args below meth c A D cC cI a0_0 a1_0 a1_1 a1_2 a1_3 a1_4 a1_5 a1_6 a1_7 a1_8 a1_9 a1_10 a1_11 a1_12 a2_0 a2_1 v0 v1 out (f_PatternWriter_write_92 v0 v1 ) := by
  obtain ⟨hx, hb, hml, hown, htB, ⟨hK, hN⟩, hZ, hA, hr, hlocks⟩ := id X
  intro v2 ls H locs h hl hP hD hS
  obtain rfl := Option.some.inj h
  exact W.vret hx hb hr (fun t ht hW => ⟨⟨(), rfl, trivial, by rw [ht]; exact hP, hD⟩, hS.F ht⟩) hS.2.2 d_PatternWriter_write_92 hlocks

def f_PatternWriter_write (v0 : T_PatternWriter) (v1 : T_Pattern) (v2 : T_Row) : Option O_PatternWriter_write := (f_Row_clear v2).bind (fun o1 => (f_PatternWriter_writeAffix v0 v1.1.1 o1).bind (fun o13 => (f_PatternWriter_writeShape v0 v1.1.2.1 o13).bind (fun o25 => (f_PatternWriter_writeAffix v0 v1.1.2.2 o25).bind (fun o37 => (if v1.2.2.1 = 0 then f_PatternWriter_write_92 v0 v1 o37 else (f_Pattern_secondIsUsual v1).bind (fun o48 => (if o48 = 0 then (f_Row_add o37 (59 : Int32)).bind (fun o57 => (f_PatternWriter_writeAffix v0 v1.2.1.1 o57.2).bind (fun o70 => (f_Row_add o70 (35 : Int32)).bind (fun o76 => (f_PatternWriter_writeAffix v0 v1.2.1.2.2 o76.2).bind (fun o89 => f_PatternWriter_write_92 v0 v1 o89)))) else f_PatternWriter_write_92 v0 v1 o37)))))))
set_option maxHeartbeats 4000000 in
set_option maxRecDepth 100000 in
theorem w_PatternWriter_write {p : Program} {l : Launch} {e : Env} {s : State} {m : MethodId} {args : Array Value} {below : List Frame} {meth : Method} {c : Code} {A : Nat → Prop} {D : va_G} {cC cI : ClassId} {a0_0 a1_0 a1_1 a1_2 a1_3 a1_4 a1_5 a1_6 a1_7 a1_8 a1_9 a1_10 a1_11 a1_12 a2_0 a2_1 : Nat} {v0 : T_PatternWriter} {v1 : T_Pattern} (X : xCX p s m args meth c A D cC cI b_PatternWriter_write 3 R_PatternWriter none) {out : O_PatternWriter_write} (v2 : T_Row) {ls : Array Slot} {H : Heap} {locs : List Loc} (h : f_PatternWriter_write v0 v1 v2 = some out) (hl : lv_has ls 3 [(0, .ref a0_0), (1, .ref a1_0), (2, .ref a2_0)]) (hP : va_P D classes (wd_PatternWriter_write cC cI a0_0 a1_0 a1_1 a1_2 a1_3 a1_4 a1_5 a1_6 a1_7 a1_8 a1_9 a1_10 a1_11 a1_12 a2_0 a2_1 v0 v1 v2) H) (hD : va_D A (wd_PatternWriter_write cC cI a0_0 a1_0 a1_1 a1_2 a1_3 a1_4 a1_5 a1_6 a1_7 a1_8 a1_9 a1_10 a1_11 a1_12 a2_0 a2_1 v0 v1 v2)) (hS : va_S A s.heap H locs) : W p l e rm_PatternWriter_write s m args below meth c H locs 0 0 (MQ below (q_PatternWriter_write D cC cI a0_0 a1_0 a1_1 a1_2 a1_3 a1_4 a1_5 a1_6 a1_7 a1_8 a1_9 a1_10 a1_11 a1_12 a2_0 a2_1 v0 v1 out A) args s 0 0 A) (F0 m 0 ls []) := by
  obtain ⟨hx, hb, hml, hown, htB, ⟨hK, hN⟩, hZ, hA, hr, hlocks⟩ := id X
  refine lv_aload_n hx hb d_PatternWriter_write_0 rfl (lv_at hl 2 rfl) ?_
  obtain ⟨o1, ho1, h⟩ := x_bnd h
  refine x_callv (ws2 := (wd_PatternWriter_write cC cI a0_0 a1_0 a1_1 a1_2 a1_3 a1_4 a1_5 a1_6 a1_7 a1_8 a1_9 a1_10 a1_11 a1_12 a2_0 a2_1 v0 v1 o1)) (x_runVN (As := []) (rest := []) X (c_Row_clear l D cC cI H.size a2_0 a2_1 v2 o1 ho1) b_117 0 (hN _ n_37) (htB _ b_118) (htB _ b_119) (htB _ b_22) ⟨by decide, by decide, by decide +kernel⟩ ⟨(Nat.le_of_ble_eq_true rfl), (Nat.le_of_ble_eq_true rfl)⟩ 14 rfl rfl hP hD hS [14, 15] rfl (by decide) rfl rfl hl.1 rfl rfl (Nat.le_of_ble_eq_true rfl) d_PatternWriter_write_1) hP hD hS hA [14, 15] [0, 1, 2, 3, 4, 5, 6, 7, 8, 9, 10, 11, 12, 13] [0, 1, 2, 3, 4, 5, 6, 7, 8, 9, 10, 11, 12, 13, 14, 15] rfl rfl (by decide) (by decide) rfl (by decide) (fun H locs hP hD hS => ?_)
  refine lv_aload_n hx hb d_PatternWriter_write_4 rfl (lv_at hl 0 rfl) ?_
  refine lv_aload_n hx hb d_PatternWriter_write_5 rfl (lv_at hl 1 rfl) ?_
  refine va_getN (D := D) (ci := 4) (v := .ref a1_1) (C := R_Pattern) (T := F_Pattern) (N := 4) hx hb htB in_Pattern hown hK hP 1 rfl rfl 0 (by decide) (va_Nw.use rfl (hN _ n_38)) (fun _ h9 => h9) rfl d_PatternWriter_write_6 ?_
  refine va_getN (D := D) (ci := 3) (v := .ref a1_2) (C := R_Part) (T := F_Part) (N := 3) hx hb htB in_Part hown hK hP 2 rfl rfl 0 (by decide) (va_Nw.use rfl (hN _ n_39)) (fun _ h9 => h9) rfl d_PatternWriter_write_9 ?_
  refine lv_aload_n hx hb d_PatternWriter_write_12 rfl (lv_at hl 2 rfl) ?_
  obtain ⟨o13, ho13, h⟩ := x_bnd h
  refine x_callv (ws2 := (wd_PatternWriter_write cC cI a0_0 a1_0 a1_1 a1_2 a1_3 a1_4 a1_5 a1_6 a1_7 a1_8 a1_9 a1_10 a1_11 a1_12 a2_0 a2_1 v0 v1 o13)) (x_runV (As := [.ref a1_2, .ref a2_0]) (rest := []) X (c_PatternWriter_writeAffix l D cC cI H.size a0_0 a1_2 a1_3 a2_0 a2_1 v0 v1.1.1 o1 o13 ho13) b_120 2 (htB _ b_123) (htB _ b_121) (htB _ b_122) (htB _ b_103) ⟨by decide, by decide, by decide +kernel⟩ ⟨(Nat.le_of_ble_eq_true rfl), (Nat.le_of_ble_eq_true rfl)⟩ 0 rfl rfl hP hD hS [0, 3, 4, 14, 15] rfl (by decide) rfl rfl hl.1 rfl rfl (Nat.le_of_ble_eq_true rfl) d_PatternWriter_write_13) hP hD hS hA [0, 3, 4, 14, 15] [1, 2, 5, 6, 7, 8, 9, 10, 11, 12, 13] [11, 0, 1, 12, 13, 2, 3, 4, 5, 6, 7, 8, 9, 10, 14, 15] rfl rfl (by decide) (by decide) rfl (by decide) (fun H locs hP hD hS => ?_)
  refine lv_aload_n hx hb d_PatternWriter_write_16 rfl (lv_at hl 0 rfl) ?_
  refine lv_aload_n hx hb d_PatternWriter_write_17 rfl (lv_at hl 1 rfl) ?_
  refine va_getN (D := D) (ci := 4) (v := .ref a1_1) (C := R_Pattern) (T := F_Pattern) (N := 4) hx hb htB in_Pattern hown hK hP 1 rfl rfl 0 (by decide) (va_Nw.use rfl (hN _ n_38)) (fun _ h9 => h9) rfl d_PatternWriter_write_18 ?_
  refine va_getN (D := D) (ci := 3) (v := .ref a1_4) (C := R_Part) (T := F_Part) (N := 3) hx hb htB in_Part hown hK hP 2 rfl rfl 1 (by decide) (va_Nw.use rfl (hN _ n_40)) (fun _ h9 => h9) rfl d_PatternWriter_write_21 ?_
  refine lv_aload_n hx hb d_PatternWriter_write_24 rfl (lv_at hl 2 rfl) ?_
  obtain ⟨o25, ho25, h⟩ := x_bnd h
  refine x_callv (ws2 := (wd_PatternWriter_write cC cI a0_0 a1_0 a1_1 a1_2 a1_3 a1_4 a1_5 a1_6 a1_7 a1_8 a1_9 a1_10 a1_11 a1_12 a2_0 a2_1 v0 v1 o25)) (x_runV (As := [.ref a1_4, .ref a2_0]) (rest := []) X (c_PatternWriter_writeShape l D cC cI H.size a0_0 a1_4 a2_0 a2_1 v0 v1.1.2.1 o13 o25 ho25) b_124 2 (htB _ b_127) (htB _ b_125) (htB _ b_126) (htB _ b_103) ⟨by decide, by decide, by decide +kernel⟩ ⟨(Nat.le_of_ble_eq_true rfl), (Nat.le_of_ble_eq_true rfl)⟩ 0 rfl rfl hP hD hS [0, 5, 14, 15] rfl (by decide) rfl rfl hl.1 rfl rfl (Nat.le_of_ble_eq_true rfl) d_PatternWriter_write_25) hP hD hS hA [0, 5, 14, 15] [1, 2, 3, 4, 6, 7, 8, 9, 10, 11, 12, 13] [12, 0, 1, 2, 3, 13, 4, 5, 6, 7, 8, 9, 10, 11, 14, 15] rfl rfl (by decide) (by decide) rfl (by decide) (fun H locs hP hD hS => ?_)
  refine lv_aload_n hx hb d_PatternWriter_write_28 rfl (lv_at hl 0 rfl) ?_
  refine lv_aload_n hx hb d_PatternWriter_write_29 rfl (lv_at hl 1 rfl) ?_
  refine va_getN (D := D) (ci := 4) (v := .ref a1_1) (C := R_Pattern) (T := F_Pattern) (N := 4) hx hb htB in_Pattern hown hK hP 1 rfl rfl 0 (by decide) (va_Nw.use rfl (hN _ n_38)) (fun _ h9 => h9) rfl d_PatternWriter_write_30 ?_
  refine va_getN (D := D) (ci := 3) (v := .ref a1_5) (C := R_Part) (T := F_Part) (N := 3) hx hb htB in_Part hown hK hP 2 rfl rfl 2 (by decide) (va_Nw.use rfl (hN _ n_41)) (fun _ h9 => h9) rfl d_PatternWriter_write_33 ?_
  refine lv_aload_n hx hb d_PatternWriter_write_36 rfl (lv_at hl 2 rfl) ?_
  obtain ⟨o37, ho37, h⟩ := x_bnd h
  refine x_callv (ws2 := (wd_PatternWriter_write cC cI a0_0 a1_0 a1_1 a1_2 a1_3 a1_4 a1_5 a1_6 a1_7 a1_8 a1_9 a1_10 a1_11 a1_12 a2_0 a2_1 v0 v1 o37)) (x_runV (As := [.ref a1_5, .ref a2_0]) (rest := []) X (c_PatternWriter_writeAffix l D cC cI H.size a0_0 a1_5 a1_6 a2_0 a2_1 v0 v1.1.2.2 o25 o37 ho37) b_120 2 (htB _ b_123) (htB _ b_121) (htB _ b_122) (htB _ b_103) ⟨by decide, by decide, by decide +kernel⟩ ⟨(Nat.le_of_ble_eq_true rfl), (Nat.le_of_ble_eq_true rfl)⟩ 0 rfl rfl hP hD hS [0, 6, 7, 14, 15] rfl (by decide) rfl rfl hl.1 rfl rfl (Nat.le_of_ble_eq_true rfl) d_PatternWriter_write_37) hP hD hS hA [0, 6, 7, 14, 15] [1, 2, 3, 4, 5, 8, 9, 10, 11, 12, 13] [11, 0, 1, 2, 3, 4, 12, 13, 5, 6, 7, 8, 9, 10, 14, 15] rfl rfl (by decide) (by decide) rfl (by decide) (fun H locs hP hD hS => ?_)
  refine lv_aload_n hx hb d_PatternWriter_write_40 rfl (lv_at hl 1 rfl) ?_
  refine va_getN (D := D) (ci := 4) (v := .int v1.2.2.1) (C := R_Pattern) (T := F_Pattern) (N := 4) hx hb htB in_Pattern hown hK hP 1 rfl rfl 2 (by decide) (va_Nw.use rfl (hN _ n_42)) (fun _ h9 => h9) rfl d_PatternWriter_write_41 ?_
  refine lv_if_eq (tgt := 92) hx hb d_PatternWriter_write_44 rfl (fun hc => ?_) (fun hc => ?_)
  · have h := (if_pos hc).symm.trans h
    exact w_PatternWriter_write_92 X o37 ls H locs h (lv_sub hl [] rfl) hP hD hS
  have h := (if_neg hc).symm.trans h
  refine lv_aload_n hx hb d_PatternWriter_write_47 rfl (lv_at hl 1 rfl) ?_
  obtain ⟨o48, ho48, h⟩ := x_bnd h
  refine x_calli (r0 := o48) (ws2 := (wd_PatternWriter_write cC cI a0_0 a1_0 a1_1 a1_2 a1_3 a1_4 a1_5 a1_6 a1_7 a1_8 a1_9 a1_10 a1_11 a1_12 a2_0 a2_1 v0 v1 o37)) (x_runVN (As := []) (rest := []) X (c_Pattern_secondIsUsual l D cC cI H.size a1_0 a1_1 a1_2 a1_3 a1_4 a1_5 a1_6 a1_7 a1_8 a1_9 a1_10 a1_11 a1_12 v1 o48 ho48) b_128 0 (hN _ n_43) (htB _ b_130) (htB _ b_131) (htB _ b_129) ⟨by decide, by decide, by decide +kernel⟩ ⟨(Nat.le_of_ble_eq_true rfl), (Nat.le_of_ble_eq_true rfl)⟩ 1 rfl rfl hP hD hS [1, 2, 3, 4, 5, 6, 7, 8, 9, 10, 11, 12, 13] rfl (by decide) rfl rfl hl.1 rfl rfl (Nat.le_of_ble_eq_true rfl) d_PatternWriter_write_48) hP hD hS hA [1, 2, 3, 4, 5, 6, 7, 8, 9, 10, 11, 12, 13] [0, 14, 15] [0, 3, 4, 5, 6, 7, 8, 9, 10, 11, 12, 13, 14, 15, 1, 2] rfl rfl (by decide) (by decide) rfl (by decide) (fun H locs hP hD hS => ?_)
  refine lv_if_ne (tgt := 92) hx hb d_PatternWriter_write_51 rfl (fun hc => ?_) (fun hc => ?_)
  · have h := (if_neg hc).symm.trans h
    exact w_PatternWriter_write_92 X o37 ls H locs h (lv_sub hl [] rfl) hP hD hS
  have h := (if_pos hc).symm.trans h
  refine lv_aload_n hx hb d_PatternWriter_write_54 rfl (lv_at hl 2 rfl) ?_
  refine lv_bipush (v := 59) hx hb d_PatternWriter_write_55 (by decide) ?_
  obtain ⟨o57, ho57, h⟩ := x_bnd h
  refine x_calli (r0 := o57.1) (ws2 := (wd_PatternWriter_write cC cI a0_0 a1_0 a1_1 a1_2 a1_3 a1_4 a1_5 a1_6 a1_7 a1_8 a1_9 a1_10 a1_11 a1_12 a2_0 a2_1 v0 v1 o57.2)) (x_runVN (As := [.int (59 : Int32)]) (rest := []) X (c_Row_add l D cC cI H.size a2_0 a2_1 o37 (59 : Int32) o57 ho57) b_21 1 (hN _ n_29) (htB _ b_23) (htB _ b_24) (htB _ b_22) ⟨by decide, by decide, by decide +kernel⟩ ⟨(Nat.le_of_ble_eq_true rfl), (Nat.le_of_ble_eq_true rfl)⟩ 14 rfl rfl hP hD hS [14, 15] rfl (by decide) rfl rfl hl.1 rfl rfl (Nat.le_of_ble_eq_true rfl) d_PatternWriter_write_57) hP hD hS hA [14, 15] [0, 1, 2, 3, 4, 5, 6, 7, 8, 9, 10, 11, 12, 13] [0, 1, 2, 3, 4, 5, 6, 7, 8, 9, 10, 11, 12, 13, 14, 15] rfl rfl (by decide) (by decide) rfl (by decide) (fun H locs hP hD hS => ?_)
  refine lv_pop hx hb d_PatternWriter_write_60 rfl ?_
  refine lv_aload_n hx hb d_PatternWriter_write_61 rfl (lv_at hl 0 rfl) ?_
  refine lv_aload_n hx hb d_PatternWriter_write_62 rfl (lv_at hl 1 rfl) ?_
  refine va_getN (D := D) (ci := 4) (v := .ref a1_7) (C := R_Pattern) (T := F_Pattern) (N := 4) hx hb htB in_Pattern hown hK hP 1 rfl rfl 1 (by decide) (va_Nw.use rfl (hN _ n_44)) (fun _ h9 => h9) rfl d_PatternWriter_write_63 ?_
  refine va_getN (D := D) (ci := 3) (v := .ref a1_8) (C := R_Part) (T := F_Part) (N := 3) hx hb htB in_Part hown hK hP 8 rfl rfl 0 (by decide) (va_Nw.use rfl (hN _ n_39)) (fun _ h9 => h9) rfl d_PatternWriter_write_66 ?_
  refine lv_aload_n hx hb d_PatternWriter_write_69 rfl (lv_at hl 2 rfl) ?_
  obtain ⟨o70, ho70, h⟩ := x_bnd h
  refine x_callv (ws2 := (wd_PatternWriter_write cC cI a0_0 a1_0 a1_1 a1_2 a1_3 a1_4 a1_5 a1_6 a1_7 a1_8 a1_9 a1_10 a1_11 a1_12 a2_0 a2_1 v0 v1 o70)) (x_runV (As := [.ref a1_8, .ref a2_0]) (rest := []) X (c_PatternWriter_writeAffix l D cC cI H.size a0_0 a1_8 a1_9 a2_0 a2_1 v0 v1.2.1.1 o57.2 o70 ho70) b_120 2 (htB _ b_123) (htB _ b_121) (htB _ b_122) (htB _ b_103) ⟨by decide, by decide, by decide +kernel⟩ ⟨(Nat.le_of_ble_eq_true rfl), (Nat.le_of_ble_eq_true rfl)⟩ 0 rfl rfl hP hD hS [0, 9, 10, 14, 15] rfl (by decide) rfl rfl hl.1 rfl rfl (Nat.le_of_ble_eq_true rfl) d_PatternWriter_write_70) hP hD hS hA [0, 9, 10, 14, 15] [1, 2, 3, 4, 5, 6, 7, 8, 11, 12, 13] [11, 0, 1, 2, 3, 4, 5, 6, 7, 12, 13, 8, 9, 10, 14, 15] rfl rfl (by decide) (by decide) rfl (by decide) (fun H locs hP hD hS => ?_)
  refine lv_aload_n hx hb d_PatternWriter_write_73 rfl (lv_at hl 2 rfl) ?_
  refine lv_bipush (v := 35) hx hb d_PatternWriter_write_74 (by decide) ?_
  obtain ⟨o76, ho76, h⟩ := x_bnd h
  refine x_calli (r0 := o76.1) (ws2 := (wd_PatternWriter_write cC cI a0_0 a1_0 a1_1 a1_2 a1_3 a1_4 a1_5 a1_6 a1_7 a1_8 a1_9 a1_10 a1_11 a1_12 a2_0 a2_1 v0 v1 o76.2)) (x_runVN (As := [.int (35 : Int32)]) (rest := []) X (c_Row_add l D cC cI H.size a2_0 a2_1 o70 (35 : Int32) o76 ho76) b_21 1 (hN _ n_29) (htB _ b_23) (htB _ b_24) (htB _ b_22) ⟨by decide, by decide, by decide +kernel⟩ ⟨(Nat.le_of_ble_eq_true rfl), (Nat.le_of_ble_eq_true rfl)⟩ 14 rfl rfl hP hD hS [14, 15] rfl (by decide) rfl rfl hl.1 rfl rfl (Nat.le_of_ble_eq_true rfl) d_PatternWriter_write_76) hP hD hS hA [14, 15] [0, 1, 2, 3, 4, 5, 6, 7, 8, 9, 10, 11, 12, 13] [0, 1, 2, 3, 4, 5, 6, 7, 8, 9, 10, 11, 12, 13, 14, 15] rfl rfl (by decide) (by decide) rfl (by decide) (fun H locs hP hD hS => ?_)
  refine lv_pop hx hb d_PatternWriter_write_79 rfl ?_
  refine lv_aload_n hx hb d_PatternWriter_write_80 rfl (lv_at hl 0 rfl) ?_
  refine lv_aload_n hx hb d_PatternWriter_write_81 rfl (lv_at hl 1 rfl) ?_
  refine va_getN (D := D) (ci := 4) (v := .ref a1_7) (C := R_Pattern) (T := F_Pattern) (N := 4) hx hb htB in_Pattern hown hK hP 1 rfl rfl 1 (by decide) (va_Nw.use rfl (hN _ n_44)) (fun _ h9 => h9) rfl d_PatternWriter_write_82 ?_
  refine va_getN (D := D) (ci := 3) (v := .ref a1_11) (C := R_Part) (T := F_Part) (N := 3) hx hb htB in_Part hown hK hP 8 rfl rfl 2 (by decide) (va_Nw.use rfl (hN _ n_41)) (fun _ h9 => h9) rfl d_PatternWriter_write_85 ?_
  refine lv_aload_n hx hb d_PatternWriter_write_88 rfl (lv_at hl 2 rfl) ?_
  obtain ⟨o89, ho89, h⟩ := x_bnd h
  refine x_callv (ws2 := (wd_PatternWriter_write cC cI a0_0 a1_0 a1_1 a1_2 a1_3 a1_4 a1_5 a1_6 a1_7 a1_8 a1_9 a1_10 a1_11 a1_12 a2_0 a2_1 v0 v1 o89)) (x_runV (As := [.ref a1_11, .ref a2_0]) (rest := []) X (c_PatternWriter_writeAffix l D cC cI H.size a0_0 a1_11 a1_12 a2_0 a2_1 v0 v1.2.1.2.2 o76.2 o89 ho89) b_120 2 (htB _ b_123) (htB _ b_121) (htB _ b_122) (htB _ b_103) ⟨by decide, by decide, by decide +kernel⟩ ⟨(Nat.le_of_ble_eq_true rfl), (Nat.le_of_ble_eq_true rfl)⟩ 0 rfl rfl hP hD hS [0, 12, 13, 14, 15] rfl (by decide) rfl rfl hl.1 rfl rfl (Nat.le_of_ble_eq_true rfl) d_PatternWriter_write_89) hP hD hS hA [0, 12, 13, 14, 15] [1, 2, 3, 4, 5, 6, 7, 8, 9, 10, 11] [11, 0, 1, 2, 3, 4, 5, 6, 7, 8, 9, 10, 12, 13, 14, 15] rfl rfl (by decide) (by decide) rfl (by decide) (fun H locs hP hD hS => ?_)
  exact w_PatternWriter_write_92 X o89 ls H locs h (lv_sub hl [] rfl) hP hD hS

set_option maxHeartbeats 4000000 in
set_option maxRecDepth 100000 in
theorem c_PatternWriter_write (l : Launch) (D : va_G) (cC cI : ClassId) (sz : Nat) (a0_0 a1_0 a1_1 a1_2 a1_3 a1_4 a1_5 a1_6 a1_7 a1_8 a1_9 a1_10 a1_11 a1_12 a2_0 a2_1 : Nat) (v0 : T_PatternWriter) (v1 : T_Pattern) (v2 : T_Row) (out : O_PatternWriter_write) (h : f_PatternWriter_write v0 v1 v2 = some out) : Met l y_PatternWriter_write (.code y_PatternWriter_write b_PatternWriter_write 3 none :: BIG) rm_PatternWriter_write (va_Pc [.ref a0_0, .ref a1_0, .ref a2_0] (xPre D cC cI (wd_PatternWriter_write cC cI a0_0 a1_0 a1_1 a1_2 a1_3 a1_4 a1_5 a1_6 a1_7 a1_8 a1_9 a1_10 a1_11 a1_12 a2_0 a2_1 v0 v1 v2) sz)) (q_PatternWriter_write D cC cI a0_0 a1_0 a1_1 a1_2 a1_3 a1_4 a1_5 a1_6 a1_7 a1_8 a1_9 a1_10 a1_11 a1_12 a2_0 a2_1 v0 v1 out (va_A (wd_PatternWriter_write cC cI a0_0 a1_0 a1_1 a1_2 a1_3 a1_4 a1_5 a1_6 a1_7 a1_8 a1_9 a1_10 a1_11 a1_12 a2_0 a2_1 v0 v1 v2) sz)) 0 0 (va_A (wd_PatternWriter_write cC cI a0_0 a1_0 a1_1 a1_2 a1_3 a1_4 a1_5 a1_6 a1_7 a1_8 a1_9 a1_10 a1_11 a1_12 a2_0 a2_1 v0 v1 v2) sz) := by
  refine Met.ofW (cc := b_PatternWriter_write) (maxL := 3) (ret := none) (by decide) rfl ?_
  intro p e s m args below meth c s₁ B hml hv
  obtain ⟨rfl, rfl, hP, hD0, hG, hZ⟩ := hv
  have hl := lv_entry [.ref a0_0, .ref a1_0, .ref a2_0] (n := 3) (Nat.le_of_ble_eq_true rfl)
  rw [lg_entry_eq]
  exact w_PatternWriter_write (x_cx B hml hG hZ) v2 h hl hP hD0.self va_S.rf

abbrev wd_Decimal_set (cC cI : ClassId) (a0_0 : Nat) (v0 : T_Decimal) : va_W := [(a0_0, .inr (7, [.int v0.1, .long v0.2.1, .int v0.2.2]))]
abbrev O_Decimal_set : Type := T_Decimal
abbrev q_Decimal_set (D : va_G) (cC cI : ClassId) (a0_0 : Nat)  (out : O_Decimal_set) (A : Nat → Prop) : Array Value → State → Outcome → State → Prop := va_Qv (fun _ : Unit => True) (fun _ t => va_P D classes (wd_Decimal_set cC cI a0_0 out) t.heap ∧ va_D A (wd_Decimal_set cC cI a0_0 out)) A
abbrev rm_Decimal_set : Room := { frames := 1, cells := 0, slots := 0, locals := 21 }
def J_Decimal_set_12 (p : Program) (l : Launch) (e : Env) (s : State) (m : MethodId) (args : Array Value) (below : List Frame) (meth : Method) (c : Code) (A : Nat → Prop) (D : va_G) (cC cI : ClassId) (a0_0 : Nat) (out : O_Decimal_set) (k : T_Decimal → Int64 → Int32 → Int32 → Option O_Decimal_set) : Prop := ∀ (v0 : T_Decimal) (x1 : Int64) (x3 : Int32) (s1 : Int32) (ls : Array Slot) (H : Heap) (locs : List Loc), k v0 x1 x3 s1 = some out → lv_has ls 4 [(0, .ref a0_0), (1, .long x1), (3, .int x3)] → va_P D classes (wd_Decimal_set cC cI a0_0 v0) H → va_D A (wd_Decimal_set cC cI a0_0 v0) → va_S A s.heap H locs → W p l e rm_Decimal_set s m args below meth c H locs 0 0 (MQ below (q_Decimal_set D cC cI a0_0 out A) args s 0 0 A) (F0 m 12 ls [.int s1, .ref a0_0])
def f_Decimal_set_12 (v0 : T_Decimal) (x1 : Int64) (x3 : Int32) (s1 : Int32) : Option O_Decimal_set := if (s1 = 0 ∨ s1 = 1) then some (s1, (if 0 < x1 then x1 else -x1), x3) else none
set_option maxHeartbeats 4000000 in
set_option maxRecDepth 100000 in
theorem w_Decimal_set_12 {p : Program} {l : Launch} {e : Env} {s : State} {m : MethodId} {args : Array Value} {below : List Frame} {meth : Method} {c : Code} {A : Nat → Prop} {D : va_G} {cC cI : ClassId} {a0_0 : Nat} (X : xCX p s m args meth c A D cC cI b_Decimal_set 4 R_Decimal none) {out : O_Decimal_set}   : J_Decimal_set_12 p l e s m args below meth c A D cC cI a0_0 out (f_Decimal_set_12  ) := by
  obtain ⟨hx, hb, hml, hown, htB, ⟨hK, hN⟩, hZ, hA, hr, hlocks⟩ := id X
  intro v0 x1 x3 s1 ls H locs h hl hP hD hS
  obtain ⟨hc, h⟩ := x_chk h
  refine va_put (D := D) (ci := 7) (v := .int s1) (ty := .boolean) (C := R_Decimal) (T := F_Decimal) (N := 3) hx hb htB in_Decimal t_Decimal t_Decimal_ok n_Decimal hown hK hP hD hS 0 rfl rfl 0 (by decide) (htB _ b_132) (fun _ h9 => h9) rfl (by decide +kernel) (x_zn hc) (x_zf hc) (Nat.le_of_ble_eq_true rfl) d_Decimal_set_12 (fun H locs hP hD hS => ?_)
  have hP : va_P D classes (wd_Decimal_set cC cI a0_0 (s1, v0.2.1, v0.2.2)) H := hP
  have hD : va_D A (wd_Decimal_set cC cI a0_0 (s1, v0.2.1, v0.2.2)) := hD
  refine lv_aload_n hx hb d_Decimal_set_15 rfl (lv_at hl 0 rfl) ?_
  refine lv_lload_n hx hb d_Decimal_set_16 rfl (lv_at hl 1 rfl) ?_
  refine va_mabs_long hx hb (hml.trans hl.1.symm) hown (htB _ b_133) (htB _ b_134) (htB _ b_108) (htB _ b_135) (Nat.le_of_ble_eq_true rfl) (Nat.le_of_ble_eq_true rfl) (Nat.le_of_ble_eq_true rfl) (Nat.le_of_ble_eq_true rfl) d_Decimal_set_17 ?_
  refine va_put (D := D) (ci := 7) (v := .long (if 0 < x1 then x1 else -x1)) (ty := .long) (C := R_Decimal) (T := F_Decimal) (N := 3) hx hb htB in_Decimal t_Decimal t_Decimal_ok n_Decimal hown hK hP hD hS 0 rfl rfl 1 (by decide) (htB _ b_136) (fun _ h9 => h9) rfl (by decide +kernel) rfl rfl (Nat.le_of_ble_eq_true rfl) d_Decimal_set_20 (fun H locs hP hD hS => ?_)
  have hP : va_P D classes (wd_Decimal_set cC cI a0_0 (s1, (if 0 < x1 then x1 else -x1), v0.2.2)) H := hP
  have hD : va_D A (wd_Decimal_set cC cI a0_0 (s1, (if 0 < x1 then x1 else -x1), v0.2.2)) := hD
  refine lv_aload_n hx hb d_Decimal_set_23 rfl (lv_at hl 0 rfl) ?_
  refine lv_iload_n hx hb d_Decimal_set_24 rfl (lv_at hl 2 rfl) ?_
  refine va_put (D := D) (ci := 7) (v := .int x3) (ty := .int) (C := R_Decimal) (T := F_Decimal) (N := 3) hx hb htB in_Decimal t_Decimal t_Decimal_ok n_Decimal hown hK hP hD hS 0 rfl rfl 2 (by decide) (htB _ b_137) (fun _ h9 => h9) rfl (by decide +kernel) rfl rfl (Nat.le_of_ble_eq_true rfl) d_Decimal_set_25 (fun H locs hP hD hS => ?_)
  have hP : va_P D classes (wd_Decimal_set cC cI a0_0 (s1, (if 0 < x1 then x1 else -x1), x3)) H := hP
  have hD : va_D A (wd_Decimal_set cC cI a0_0 (s1, (if 0 < x1 then x1 else -x1), x3)) := hD
  obtain rfl := Option.some.inj h
  exact W.vret hx hb hr (fun t ht hW => ⟨⟨(), rfl, trivial, by rw [ht]; exact hP, hD⟩, hS.F ht⟩) hS.2.2 d_Decimal_set_28 hlocks

def f_Decimal_set (v0 : T_Decimal) (v1 : Int64) (v2 : Int32) : Option O_Decimal_set := (if 0 ≤ (lg_cmp v1 (0 : Int64)) then f_Decimal_set_12 v0 v1 v2 (0 : Int32) else f_Decimal_set_12 v0 v1 v2 (1 : Int32))
set_option maxHeartbeats 4000000 in
set_option maxRecDepth 100000 in
theorem w_Decimal_set {p : Program} {l : Launch} {e : Env} {s : State} {m : MethodId} {args : Array Value} {below : List Frame} {meth : Method} {c : Code} {A : Nat → Prop} {D : va_G} {cC cI : ClassId} {a0_0 : Nat} (X : xCX p s m args meth c A D cC cI b_Decimal_set 4 R_Decimal none) {out : O_Decimal_set} (v0 : T_Decimal) (v1 : Int64) (v2 : Int32) {ls : Array Slot} {H : Heap} {locs : List Loc} (h : f_Decimal_set v0 v1 v2 = some out) (hl : lv_has ls 4 [(0, .ref a0_0), (1, .long v1), (3, .int v2)]) (hP : va_P D classes (wd_Decimal_set cC cI a0_0 v0) H) (hD : va_D A (wd_Decimal_set cC cI a0_0 v0)) (hS : va_S A s.heap H locs) : W p l e rm_Decimal_set s m args below meth c H locs 0 0 (MQ below (q_Decimal_set D cC cI a0_0 out A) args s 0 0 A) (F0 m 0 ls []) := by
  obtain ⟨hx, hb, hml, hown, htB, ⟨hK, hN⟩, hZ, hA, hr, hlocks⟩ := id X
  refine lv_aload_n hx hb d_Decimal_set_0 rfl (lv_at hl 0 rfl) ?_
  refine lv_lload_n hx hb d_Decimal_set_1 rfl (lv_at hl 1 rfl) ?_
  refine lv_lconst (v := 0) hx hb d_Decimal_set_2 (by decide) ?_
  refine W.lcmp hx hb d_Decimal_set_3 ?_
  refine lv_if_ge (tgt := 11) hx hb d_Decimal_set_4 rfl (fun hc => ?_) (fun hc => ?_)
  · have h := (if_pos hc).symm.trans h
    refine lv_iconst (v := 0) hx hb d_Decimal_set_11 (by decide) ?_
    exact w_Decimal_set_12 X v0 v1 v2 (0 : Int32) ls H locs h (lv_sub hl [0, 1, 2] rfl) hP hD hS
  have h := (if_neg hc).symm.trans h
  refine lv_iconst (v := 1) hx hb d_Decimal_set_7 (by decide) ?_
  refine lv_goto (tgt := 12) hx hb d_Decimal_set_8 rfl ?_
  exact w_Decimal_set_12 X v0 v1 v2 (1 : Int32) ls H locs h (lv_sub hl [0, 1, 2] rfl) hP hD hS

set_option maxHeartbeats 4000000 in
set_option maxRecDepth 100000 in
theorem c_Decimal_set (l : Launch) (D : va_G) (cC cI : ClassId) (sz : Nat) (a0_0 : Nat) (v0 : T_Decimal) (v1 : Int64) (v2 : Int32) (out : O_Decimal_set) (h : f_Decimal_set v0 v1 v2 = some out) : Met l y_Decimal_set (.code y_Decimal_set b_Decimal_set 4 none :: BIG) rm_Decimal_set (va_Pc [.ref a0_0, .long v1, .int v2] (xPre D cC cI (wd_Decimal_set cC cI a0_0 v0) sz)) (q_Decimal_set D cC cI a0_0 out (va_A (wd_Decimal_set cC cI a0_0 v0) sz)) 0 0 (va_A (wd_Decimal_set cC cI a0_0 v0) sz) := by
  refine Met.ofW (cc := b_Decimal_set) (maxL := 4) (ret := none) (by decide) rfl ?_
  intro p e s m args below meth c s₁ B hml hv
  obtain ⟨rfl, rfl, hP, hD0, hG, hZ⟩ := hv
  have hl := lv_entry [.ref a0_0, .long v1, .int v2] (n := 4) (Nat.le_of_ble_eq_true rfl)
  rw [lg_entry_eq]
  exact w_Decimal_set (x_cx B hml hG hZ) v0 v1 v2 h hl hP hD0.self va_S.rf

abbrev wd_Decimal_isBelowZero (cC cI : ClassId) (a0_0 : Nat) (v0 : T_Decimal) : va_W := [(a0_0, .inr (7, [.int v0.1, .long v0.2.1, .int v0.2.2]))]
abbrev O_Decimal_isBelowZero : Type := Int32
abbrev q_Decimal_isBelowZero (D : va_G) (cC cI : ClassId) (a0_0 : Nat) (v0 : T_Decimal) (out : O_Decimal_isBelowZero) (A : Nat → Prop) : Array Value → State → Outcome → State → Prop := va_Qi (fun r (_ : Unit) => r = out) (fun _ t => va_P D classes (wd_Decimal_isBelowZero cC cI a0_0 v0) t.heap ∧ va_D A (wd_Decimal_isBelowZero cC cI a0_0 v0)) A
abbrev rm_Decimal_isBelowZero : Room := { frames := 0, cells := 0, slots := 0, locals := 0 }
def J_Decimal_isBelowZero_20 (p : Program) (l : Launch) (e : Env) (s : State) (m : MethodId) (args : Array Value) (below : List Frame) (meth : Method) (c : Code) (A : Nat → Prop) (D : va_G) (cC cI : ClassId) (a0_0 : Nat) (v0 : T_Decimal) (out : O_Decimal_isBelowZero) (k : Option O_Decimal_isBelowZero) : Prop := ∀  (ls : Array Slot) (H : Heap) (locs : List Loc), k  = some out → lv_has ls 1 [] → va_P D classes (wd_Decimal_isBelowZero cC cI a0_0 v0) H → va_D A (wd_Decimal_isBelowZero cC cI a0_0 v0) → va_S A s.heap H locs → W p l e rm_Decimal_isBelowZero s m args below meth c H locs 0 0 (MQ below (q_Decimal_isBelowZero D cC cI a0_0 v0 out A) args s 0 0 A) (F0 m 20 ls [])
def J_Decimal_isBelowZero_21 (p : Program) (l : Launch) (e : Env) (s : State) (m : MethodId) (args : Array Value) (below : List Frame) (meth : Method) (c : Code) (A : Nat → Prop) (D : va_G) (cC cI : ClassId) (a0_0 : Nat) (v0 : T_Decimal) (out : O_Decimal_isBelowZero) (k : Int32 → Option O_Decimal_isBelowZero) : Prop := ∀ (s0 : Int32) (ls : Array Slot) (H : Heap) (locs : List Loc), k s0 = some out → lv_has ls 1 [] → va_P D classes (wd_Decimal_isBelowZero cC cI a0_0 v0) H → va_D A (wd_Decimal_isBelowZero cC cI a0_0 v0) → va_S A s.heap H locs → W p l e rm_Decimal_isBelowZero s m args below meth c H locs 0 0 (MQ below (q_Decimal_isBelowZero D cC cI a0_0 v0 out A) args s 0 0 A) (F0 m 21 ls [.int s0])
def f_Decimal_isBelowZero_21 (v0 : T_Decimal) (s0 : Int32) : Option O_Decimal_isBelowZero := if (s0 = 0 ∨ s0 = 1) then some s0 else none
set_option maxHeartbeats 4000000 in
set_option maxRecDepth 100000 in
theorem w_Decimal_isBelowZero_21 {p : Program} {l : Launch} {e : Env} {s : State} {m : MethodId} {args : Array Value} {below : List Frame} {meth : Method} {c : Code} {A : Nat → Prop} {D : va_G} {cC cI : ClassId} {a0_0 : Nat} {v0 : T_Decimal} (X : xCX p s m args meth c A D cC cI b_Decimal_isBelowZero 1 R_Decimal (some .boolean)) {out : O_Decimal_isBelowZero}   : J_Decimal_isBelowZero_21 p l e s m args below meth c A D cC cI a0_0 v0 out (f_Decimal_isBelowZero_21 v0 ) := by
  obtain ⟨hx, hb, hml, hown, htB, ⟨hK, hN⟩, hZ, hA, hr, hlocks⟩ := id X
  intro s0 ls H locs h hl hP hD hS
  obtain ⟨hc, h⟩ := x_chk h
  obtain rfl := Option.some.inj h
  exact W.zret (v := s0) (ty := .boolean) hx hb hr (x_zn hc) (fun t ht hW => ⟨⟨s0, (), rfl, rfl, by rw [ht]; exact hP, hD⟩, hS.F ht⟩) hS.2.2 d_Decimal_isBelowZero_21 hlocks

def f_Decimal_isBelowZero_20 (v0 : T_Decimal) : Option O_Decimal_isBelowZero := f_Decimal_isBelowZero_21 v0 (0 : Int32)
set_option maxHeartbeats 4000000 in
set_option maxRecDepth 100000 in
theorem w_Decimal_isBelowZero_20 {p : Program} {l : Launch} {e : Env} {s : State} {m : MethodId} {args : Array Value} {below : List Frame} {meth : Method} {c : Code} {A : Nat → Prop} {D : va_G} {cC cI : ClassId} {a0_0 : Nat} {v0 : T_Decimal} (X : xCX p s m args meth c A D cC cI b_Decimal_isBelowZero 1 R_Decimal (some .boolean)) {out : O_Decimal_isBelowZero}   : J_Decimal_isBelowZero_20 p l e s m args below meth c A D cC cI a0_0 v0 out (f_Decimal_isBelowZero_20 v0 ) := by
  obtain ⟨hx, hb, hml, hown, htB, ⟨hK, hN⟩, hZ, hA, hr, hlocks⟩ := id X
  intro  ls H locs h hl hP hD hS
  refine lv_iconst (v := 0) hx hb d_Decimal_isBelowZero_20 (by decide) ?_
  exact w_Decimal_isBelowZero_21 X (0 : Int32) ls H locs h (lv_sub hl [] rfl) hP hD hS

def f_Decimal_isBelowZero (v0 : T_Decimal) : Option O_Decimal_isBelowZero := (if v0.1 = 0 then f_Decimal_isBelowZero_20 v0 else (if (lg_cmp v0.2.1 (0 : Int64)) = 0 then f_Decimal_isBelowZero_20 v0 else f_Decimal_isBelowZero_21 v0 (1 : Int32)))
set_option maxHeartbeats 4000000 in
set_option maxRecDepth 100000 in
theorem w_Decimal_isBelowZero {p : Program} {l : Launch} {e : Env} {s : State} {m : MethodId} {args : Array Value} {below : List Frame} {meth : Method} {c : Code} {A : Nat → Prop} {D : va_G} {cC cI : ClassId} {a0_0 : Nat} {v0 : T_Decimal} (X : xCX p s m args meth c A D cC cI b_Decimal_isBelowZero 1 R_Decimal (some .boolean)) {out : O_Decimal_isBelowZero}  {ls : Array Slot} {H : Heap} {locs : List Loc} (h : f_Decimal_isBelowZero v0 = some out) (hl : lv_has ls 1 [(0, .ref a0_0)]) (hP : va_P D classes (wd_Decimal_isBelowZero cC cI a0_0 v0) H) (hD : va_D A (wd_Decimal_isBelowZero cC cI a0_0 v0)) (hS : va_S A s.heap H locs) : W p l e rm_Decimal_isBelowZero s m args below meth c H locs 0 0 (MQ below (q_Decimal_isBelowZero D cC cI a0_0 v0 out A) args s 0 0 A) (F0 m 0 ls []) := by
  obtain ⟨hx, hb, hml, hown, htB, ⟨hK, hN⟩, hZ, hA, hr, hlocks⟩ := id X
  refine lv_aload_n hx hb d_Decimal_isBelowZero_0 rfl (lv_at hl 0 rfl) ?_
  refine va_get (D := D) (ci := 7) (v := .int v0.1) (C := R_Decimal) (T := F_Decimal) (N := 3) hx hb htB in_Decimal hown hK hP 0 rfl rfl 0 (by decide) (htB _ b_132) (fun _ h9 => h9) rfl d_Decimal_isBelowZero_1 ?_
  refine lv_if_eq (tgt := 20) hx hb d_Decimal_isBelowZero_4 rfl (fun hc => ?_) (fun hc => ?_)
  · have h := (if_pos hc).symm.trans h
    exact w_Decimal_isBelowZero_20 X ls H locs h (lv_sub hl [] rfl) hP hD hS
  have h := (if_neg hc).symm.trans h
  refine lv_aload_n hx hb d_Decimal_isBelowZero_7 rfl (lv_at hl 0 rfl) ?_
  refine va_get (D := D) (ci := 7) (v := .long v0.2.1) (C := R_Decimal) (T := F_Decimal) (N := 3) hx hb htB in_Decimal hown hK hP 0 rfl rfl 1 (by decide) (htB _ b_136) (fun _ h9 => h9) rfl d_Decimal_isBelowZero_8 ?_
  refine lv_lconst (v := 0) hx hb d_Decimal_isBelowZero_11 (by decide) ?_
  refine W.lcmp hx hb d_Decimal_isBelowZero_12 ?_
  refine lv_if_eq (tgt := 20) hx hb d_Decimal_isBelowZero_13 rfl (fun hc => ?_) (fun hc => ?_)
  · have h := (if_pos hc).symm.trans h
    exact w_Decimal_isBelowZero_20 X ls H locs h (lv_sub hl [] rfl) hP hD hS
  have h := (if_neg hc).symm.trans h
  refine lv_iconst (v := 1) hx hb d_Decimal_isBelowZero_16 (by decide) ?_
  refine lv_goto (tgt := 21) hx hb d_Decimal_isBelowZero_17 rfl ?_
  exact w_Decimal_isBelowZero_21 X (1 : Int32) ls H locs h (lv_sub hl [] rfl) hP hD hS

set_option maxHeartbeats 4000000 in
set_option maxRecDepth 100000 in
theorem c_Decimal_isBelowZero (l : Launch) (D : va_G) (cC cI : ClassId) (sz : Nat) (a0_0 : Nat) (v0 : T_Decimal) (out : O_Decimal_isBelowZero) (h : f_Decimal_isBelowZero v0 = some out) : Met l y_Decimal_isBelowZero (.code y_Decimal_isBelowZero b_Decimal_isBelowZero 1 (some .boolean) :: BIG) rm_Decimal_isBelowZero (va_Pc [.ref a0_0] (xPre D cC cI (wd_Decimal_isBelowZero cC cI a0_0 v0) sz)) (q_Decimal_isBelowZero D cC cI a0_0 v0 out (va_A (wd_Decimal_isBelowZero cC cI a0_0 v0) sz)) 0 0 (va_A (wd_Decimal_isBelowZero cC cI a0_0 v0) sz) := by
  refine Met.ofW (cc := b_Decimal_isBelowZero) (maxL := 1) (ret := (some .boolean)) (by decide) rfl ?_
  intro p e s m args below meth c s₁ B hml hv
  obtain ⟨rfl, rfl, hP, hD0, hG, hZ⟩ := hv
  have hl := lv_entry [.ref a0_0] (n := 1) (Nat.le_of_ble_eq_true rfl)
  rw [lg_entry_eq]
  exact w_Decimal_isBelowZero (x_cx B hml hG hZ) h hl hP hD0.self va_S.rf

abbrev wd_Deci_tenTo (cC cI : ClassId)  : va_W := []
abbrev O_Deci_tenTo : Type := Int64
abbrev q_Deci_tenTo (D : va_G) (cC cI : ClassId)  (out : O_Deci_tenTo) (A : Nat → Prop) : Array Value → State → Outcome → State → Prop := va_Ql (fun r (_ : Unit) => r = out) (fun _ t => va_P D classes (wd_Deci_tenTo cC cI ) t.heap ∧ va_D A (wd_Deci_tenTo cC cI )) A
abbrev rm_Deci_tenTo : Room := { frames := 1, cells := 0, slots := 0, locals := 21 }
def f_Deci_tenTo (v0 : Int32) : Option O_Deci_tenTo := if ix (if (0 : Int32) < (if ((19 : Int32) - (1 : Int32)) < v0 then ((19 : Int32) - (1 : Int32)) else v0) then (if ((19 : Int32) - (1 : Int32)) < v0 then ((19 : Int32) - (1 : Int32)) else v0) else (0 : Int32)) 19 then some (pw (if (0 : Int32) < (if ((19 : Int32) - (1 : Int32)) < v0 then ((19 : Int32) - (1 : Int32)) else v0) then (if ((19 : Int32) - (1 : Int32)) < v0 then ((19 : Int32) - (1 : Int32)) else v0) else (0 : Int32)).toNatClampNeg) else none
set_option maxHeartbeats 4000000 in
set_option maxRecDepth 100000 in
theorem w_Deci_tenTo {p : Program} {l : Launch} {e : Env} {s : State} {m : MethodId} {args : Array Value} {below : List Frame} {meth : Method} {c : Code} {A : Nat → Prop} {D : va_G} {cC cI : ClassId} (X : xCX p s m args meth c A D cC cI b_Deci_tenTo 1 R_Deci (some .long)) {out : O_Deci_tenTo} (v0 : Int32) {ls : Array Slot} {H : Heap} {locs : List Loc} (h : f_Deci_tenTo v0 = some out) (hl : lv_has ls 1 [(0, .int v0)]) (hP : va_P D classes (wd_Deci_tenTo cC cI) H) (hD : va_D A (wd_Deci_tenTo cC cI)) (hS : va_S A s.heap H locs) : W p l e rm_Deci_tenTo s m args below meth c H locs 0 0 (MQ below (q_Deci_tenTo D cC cI  out A) args s 0 0 A) (F0 m 0 ls []) := by
  obtain ⟨hx, hb, hml, hown, htB, ⟨hK, hN⟩, hZ, hA, hr, hlocks⟩ := id X
  obtain ⟨tP, hZ1, hT1⟩ := id hZ
  refine va_gets hx hb hZ1 hS hown (htB _ b_138) (fun _ h9 => h9) d_Deci_tenTo_0 ?_
  refine lv_iconst (v := 0) hx hb d_Deci_tenTo_3 (by decide) ?_
  refine lv_iload_n hx hb d_Deci_tenTo_4 rfl (lv_at hl 0 rfl) ?_
  refine va_gets hx hb hZ1 hS hown (htB _ b_138) (fun _ h9 => h9) d_Deci_tenTo_5 ?_
  refine va_tlen hx hb hT1 hS (v := 19) rfl d_Deci_tenTo_8 ?_
  refine lv_iconst (v := 1) hx hb d_Deci_tenTo_9 (by decide) ?_
  refine lv_isub hx hb d_Deci_tenTo_10 ?_
  refine va_mmin hx hb (hml.trans hl.1.symm) hown (htB _ b_139) (htB _ b_140) (htB _ b_108) (htB _ b_141) (Nat.le_of_ble_eq_true rfl) (Nat.le_of_ble_eq_true rfl) (Nat.le_of_ble_eq_true rfl) (Nat.le_of_ble_eq_true rfl) d_Deci_tenTo_11 ?_
  refine va_mmax hx hb (hml.trans hl.1.symm) hown (htB _ b_142) (htB _ b_107) (htB _ b_108) (htB _ b_109) (Nat.le_of_ble_eq_true rfl) (Nat.le_of_ble_eq_true rfl) (Nat.le_of_ble_eq_true rfl) (Nat.le_of_ble_eq_true rfl) d_Deci_tenTo_14 ?_
  obtain ⟨hc, h⟩ := x_chk h
  refine va_tl hx hb hT1 hS hc (v := .long (pw (if (0 : Int32) < (if ((19 : Int32) - (1 : Int32)) < v0 then ((19 : Int32) - (1 : Int32)) else v0) then (if ((19 : Int32) - (1 : Int32)) < v0 then ((19 : Int32) - (1 : Int32)) else v0) else (0 : Int32)).toNatClampNeg)) rfl d_Deci_tenTo_17 ?_
  obtain rfl := Option.some.inj h
  exact W.lret (v := (pw (if (0 : Int32) < (if ((19 : Int32) - (1 : Int32)) < v0 then ((19 : Int32) - (1 : Int32)) else v0) then (if ((19 : Int32) - (1 : Int32)) < v0 then ((19 : Int32) - (1 : Int32)) else v0) else (0 : Int32)).toNatClampNeg)) hx hb hr (fun t ht hW => ⟨⟨(pw (if (0 : Int32) < (if ((19 : Int32) - (1 : Int32)) < v0 then ((19 : Int32) - (1 : Int32)) else v0) then (if ((19 : Int32) - (1 : Int32)) < v0 then ((19 : Int32) - (1 : Int32)) else v0) else (0 : Int32)).toNatClampNeg), (), rfl, rfl, by rw [ht]; exact hP, hD⟩, hS.F ht⟩) hS.2.2 d_Deci_tenTo_18 hlocks

set_option maxHeartbeats 4000000 in
set_option maxRecDepth 100000 in
theorem c_Deci_tenTo (l : Launch) (D : va_G) (cC cI : ClassId) (sz : Nat) (v0 : Int32) (out : O_Deci_tenTo) (h : f_Deci_tenTo v0 = some out) : Met l y_Deci_tenTo (.code y_Deci_tenTo b_Deci_tenTo 1 (some .long) :: BIG) rm_Deci_tenTo (va_Pc [.int v0] (xPre D cC cI (wd_Deci_tenTo cC cI) sz)) (q_Deci_tenTo D cC cI  out (va_A (wd_Deci_tenTo cC cI) sz)) 0 0 (va_A (wd_Deci_tenTo cC cI) sz) := by
  refine Met.ofW (cc := b_Deci_tenTo) (maxL := 1) (ret := (some .long)) (by decide) rfl ?_
  intro p e s m args below meth c s₁ B hml hv
  obtain ⟨rfl, rfl, hP, hD0, hG, hZ⟩ := hv
  have hl := lv_entry [.int v0] (n := 1) (Nat.le_of_ble_eq_true rfl)
  rw [lg_entry_eq]
  exact w_Deci_tenTo (x_cx B hml hG hZ) v0 h hl hP hD0.self va_S.rf

abbrev wd_Decimal_whole (cC cI : ClassId) (a0_0 : Nat) (v0 : T_Decimal) : va_W := [(a0_0, .inr (7, [.int v0.1, .long v0.2.1, .int v0.2.2]))]
abbrev O_Decimal_whole : Type := Int64
abbrev q_Decimal_whole (D : va_G) (cC cI : ClassId) (a0_0 : Nat) (v0 : T_Decimal) (out : O_Decimal_whole) (A : Nat → Prop) : Array Value → State → Outcome → State → Prop := va_Ql (fun r (_ : Unit) => r = out) (fun _ t => va_P D classes (wd_Decimal_whole cC cI a0_0 v0) t.heap ∧ va_D A (wd_Decimal_whole cC cI a0_0 v0)) A
abbrev rm_Decimal_whole : Room := { frames := 2, cells := 0, slots := 0, locals := 41 }
def f_Decimal_whole (v0 : T_Decimal) : Option O_Decimal_whole := (f_Deci_tenTo v0.2.2).bind (fun o8 => if ¬ o8 = 0 then some (v0.2.1 / o8) else none)
set_option maxHeartbeats 4000000 in
set_option maxRecDepth 100000 in
theorem w_Decimal_whole {p : Program} {l : Launch} {e : Env} {s : State} {m : MethodId} {args : Array Value} {below : List Frame} {meth : Method} {c : Code} {A : Nat → Prop} {D : va_G} {cC cI : ClassId} {a0_0 : Nat} {v0 : T_Decimal} (X : xCX p s m args meth c A D cC cI b_Decimal_whole 1 R_Decimal (some .long)) {out : O_Decimal_whole}  {ls : Array Slot} {H : Heap} {locs : List Loc} (h : f_Decimal_whole v0 = some out) (hl : lv_has ls 1 [(0, .ref a0_0)]) (hP : va_P D classes (wd_Decimal_whole cC cI a0_0 v0) H) (hD : va_D A (wd_Decimal_whole cC cI a0_0 v0)) (hS : va_S A s.heap H locs) : W p l e rm_Decimal_whole s m args below meth c H locs 0 0 (MQ below (q_Decimal_whole D cC cI a0_0 v0 out A) args s 0 0 A) (F0 m 0 ls []) := by
  obtain ⟨hx, hb, hml, hown, htB, ⟨hK, hN⟩, hZ, hA, hr, hlocks⟩ := id X
  refine lv_aload_n hx hb d_Decimal_whole_0 rfl (lv_at hl 0 rfl) ?_
  refine va_get (D := D) (ci := 7) (v := .long v0.2.1) (C := R_Decimal) (T := F_Decimal) (N := 3) hx hb htB in_Decimal hown hK hP 0 rfl rfl 1 (by decide) (htB _ b_136) (fun _ h9 => h9) rfl d_Decimal_whole_1 ?_
  refine lv_aload_n hx hb d_Decimal_whole_4 rfl (lv_at hl 0 rfl) ?_
  refine va_get (D := D) (ci := 7) (v := .int v0.2.2) (C := R_Decimal) (T := F_Decimal) (N := 3) hx hb htB in_Decimal hown hK hP 0 rfl rfl 2 (by decide) (htB _ b_137) (fun _ h9 => h9) rfl d_Decimal_whole_5 ?_
  obtain ⟨o8, ho8, h⟩ := x_bnd h
  refine x_calll (r0 := o8) (ws2 := (wd_Decimal_whole cC cI a0_0 v0)) (x_runSN (As := [.int v0.2.2]) (rest := [.long v0.2.1]) X (c_Deci_tenTo l D cC cI H.size v0.2.2 o8 ho8) b_143 1 (hN _ n_45) (htB _ b_144) (htB _ b_56) ⟨by decide, by decide, by decide +kernel⟩ ⟨(Nat.le_of_ble_eq_true rfl), (Nat.le_of_ble_eq_true rfl)⟩ hP hD hS [] rfl (by decide) rfl rfl hl.1 rfl rfl (Nat.le_of_ble_eq_true rfl) d_Decimal_whole_8) hP hD hS hA [] [0] [0] rfl rfl (by decide) (by decide) rfl (by decide) (fun H locs hP hD hS => ?_)
  obtain ⟨hc, h⟩ := x_chk h
  refine lv_ldiv hx hb d_Decimal_whole_11 hc ?_
  obtain rfl := Option.some.inj h
  exact W.lret (v := (v0.2.1 / o8)) hx hb hr (fun t ht hW => ⟨⟨(v0.2.1 / o8), (), rfl, rfl, by rw [ht]; exact hP, hD⟩, hS.F ht⟩) hS.2.2 d_Decimal_whole_12 hlocks

set_option maxHeartbeats 4000000 in
set_option maxRecDepth 100000 in
theorem c_Decimal_whole (l : Launch) (D : va_G) (cC cI : ClassId) (sz : Nat) (a0_0 : Nat) (v0 : T_Decimal) (out : O_Decimal_whole) (h : f_Decimal_whole v0 = some out) : Met l y_Decimal_whole (.code y_Decimal_whole b_Decimal_whole 1 (some .long) :: BIG) rm_Decimal_whole (va_Pc [.ref a0_0] (xPre D cC cI (wd_Decimal_whole cC cI a0_0 v0) sz)) (q_Decimal_whole D cC cI a0_0 v0 out (va_A (wd_Decimal_whole cC cI a0_0 v0) sz)) 0 0 (va_A (wd_Decimal_whole cC cI a0_0 v0) sz) := by
  refine Met.ofW (cc := b_Decimal_whole) (maxL := 1) (ret := (some .long)) (by decide) rfl ?_
  intro p e s m args below meth c s₁ B hml hv
  obtain ⟨rfl, rfl, hP, hD0, hG, hZ⟩ := hv
  have hl := lv_entry [.ref a0_0] (n := 1) (Nat.le_of_ble_eq_true rfl)
  rw [lg_entry_eq]
  exact w_Decimal_whole (x_cx B hml hG hZ) h hl hP hD0.self va_S.rf

abbrev wd_Long_compare (cC cI : ClassId)  : va_W := []
abbrev O_Long_compare : Type := Int32
abbrev q_Long_compare (D : va_G) (cC cI : ClassId)  (out : O_Long_compare) (A : Nat → Prop) : Array Value → State → Outcome → State → Prop := va_Qi (fun r (_ : Unit) => r = out) (fun _ t => va_P D classes (wd_Long_compare cC cI ) t.heap ∧ va_D A (wd_Long_compare cC cI )) A
abbrev rm_Long_compare : Room := { frames := 0, cells := 0, slots := 0, locals := 0 }
def J_Long_compare_21 (p : Program) (l : Launch) (e : Env) (s : State) (m : MethodId) (args : Array Value) (below : List Frame) (meth : Method) (c : Code) (A : Nat → Prop) (D : va_G) (cC cI : ClassId) (out : O_Long_compare) (k : Int32 → Option O_Long_compare) : Prop := ∀ (s0 : Int32) (ls : Array Slot) (H : Heap) (locs : List Loc), k s0 = some out → lv_has ls 4 [] → va_P D classes (wd_Long_compare cC cI) H → va_D A (wd_Long_compare cC cI) → va_S A s.heap H locs → W p l e rm_Long_compare s m args below meth c H locs 0 0 (MQ below (q_Long_compare D cC cI  out A) args s 0 0 A) (F0 m 21 ls [.int s0])
def f_Long_compare_21 (s0 : Int32) : Option O_Long_compare := some s0
set_option maxHeartbeats 4000000 in
set_option maxRecDepth 100000 in
theorem w_Long_compare_21 {p : Program} {l : Launch} {e : Env} {s : State} {m : MethodId} {args : Array Value} {below : List Frame} {meth : Method} {c : Code} {A : Nat → Prop} {D : va_G} {cC cI : ClassId} (X : xCX p s m args meth c A D cC cI b_Long_compare 4 R_Long (some .int)) {out : O_Long_compare}   : J_Long_compare_21 p l e s m args below meth c A D cC cI  out (f_Long_compare_21  ) := by
  obtain ⟨hx, hb, hml, hown, htB, ⟨hK, hN⟩, hZ, hA, hr, hlocks⟩ := id X
  intro s0 ls H locs h hl hP hD hS
  obtain rfl := Option.some.inj h
  exact W.iret (v := s0) hx hb hr (fun t ht hW => ⟨⟨s0, (), rfl, rfl, by rw [ht]; exact hP, hD⟩, hS.F ht⟩) hS.2.2 d_Long_compare_21 hlocks

def f_Long_compare (v0 : Int64) (v1 : Int64) : Option O_Long_compare := (if 0 ≤ (lg_cmp v0 v1) then (if (lg_cmp v0 v1) = 0 then f_Long_compare_21 (0 : Int32) else f_Long_compare_21 (1 : Int32)) else f_Long_compare_21 (-1 : Int32))
set_option maxHeartbeats 4000000 in
set_option maxRecDepth 100000 in
theorem w_Long_compare {p : Program} {l : Launch} {e : Env} {s : State} {m : MethodId} {args : Array Value} {below : List Frame} {meth : Method} {c : Code} {A : Nat → Prop} {D : va_G} {cC cI : ClassId} (X : xCX p s m args meth c A D cC cI b_Long_compare 4 R_Long (some .int)) {out : O_Long_compare} (v0 : Int64) (v1 : Int64) {ls : Array Slot} {H : Heap} {locs : List Loc} (h : f_Long_compare v0 v1 = some out) (hl : lv_has ls 4 [(0, .long v0), (2, .long v1)]) (hP : va_P D classes (wd_Long_compare cC cI) H) (hD : va_D A (wd_Long_compare cC cI)) (hS : va_S A s.heap H locs) : W p l e rm_Long_compare s m args below meth c H locs 0 0 (MQ below (q_Long_compare D cC cI  out A) args s 0 0 A) (F0 m 0 ls []) := by
  obtain ⟨hx, hb, hml, hown, htB, ⟨hK, hN⟩, hZ, hA, hr, hlocks⟩ := id X
  refine lv_lload_n hx hb d_Long_compare_0 rfl (lv_at hl 0 rfl) ?_
  refine lv_lload_n hx hb d_Long_compare_1 rfl (lv_at hl 1 rfl) ?_
  refine W.lcmp hx hb d_Long_compare_2 ?_
  refine lv_if_ge (tgt := 10) hx hb d_Long_compare_3 rfl (fun hc => ?_) (fun hc => ?_)
  · have h := (if_pos hc).symm.trans h
    refine lv_lload_n hx hb d_Long_compare_10 rfl (lv_at hl 0 rfl) ?_
    refine lv_lload_n hx hb d_Long_compare_11 rfl (lv_at hl 1 rfl) ?_
    refine W.lcmp hx hb d_Long_compare_12 ?_
    refine lv_if_ne (tgt := 20) hx hb d_Long_compare_13 rfl (fun hc => ?_) (fun hc => ?_)
    · have h := (if_neg hc).symm.trans h
      refine lv_iconst (v := 1) hx hb d_Long_compare_20 (by decide) ?_
      exact w_Long_compare_21 X (1 : Int32) ls H locs h (lv_sub hl [] rfl) hP hD hS
    have h := (if_pos hc).symm.trans h
    refine lv_iconst (v := 0) hx hb d_Long_compare_16 (by decide) ?_
    refine lv_goto (tgt := 21) hx hb d_Long_compare_17 rfl ?_
    exact w_Long_compare_21 X (0 : Int32) ls H locs h (lv_sub hl [] rfl) hP hD hS
  have h := (if_neg hc).symm.trans h
  refine lv_iconst (v := -1) hx hb d_Long_compare_6 (by decide) ?_
  refine lv_goto (tgt := 21) hx hb d_Long_compare_7 rfl ?_
  exact w_Long_compare_21 X (-1 : Int32) ls H locs h (lv_sub hl [] rfl) hP hD hS

set_option maxHeartbeats 4000000 in
set_option maxRecDepth 100000 in
theorem c_Long_compare (l : Launch) (D : va_G) (cC cI : ClassId) (sz : Nat) (v0 : Int64) (v1 : Int64) (out : O_Long_compare) (h : f_Long_compare v0 v1 = some out) : Met l y_Long_compare (.code y_Long_compare b_Long_compare 4 (some .int) :: BIG) rm_Long_compare (va_Pc [.long v0, .long v1] (xPre D cC cI (wd_Long_compare cC cI) sz)) (q_Long_compare D cC cI  out (va_A (wd_Long_compare cC cI) sz)) 0 0 (va_A (wd_Long_compare cC cI) sz) := by
  refine Met.ofW (cc := b_Long_compare) (maxL := 4) (ret := (some .int)) (by decide) rfl ?_
  intro p e s m args below meth c s₁ B hml hv
  obtain ⟨rfl, rfl, hP, hD0, hG, hZ⟩ := hv
  have hl := lv_entry [.long v0, .long v1] (n := 4) (Nat.le_of_ble_eq_true rfl)
  rw [lg_entry_eq]
  exact w_Long_compare (x_cx B hml hG hZ) v0 v1 h hl hP hD0.self va_S.rf

abbrev wd_Decimal_goesAway (cC cI : ClassId) (a0_0 : Nat) (v0 : T_Decimal) : va_W := [(a0_0, .inr (7, [.int v0.1, .long v0.2.1, .int v0.2.2]))]
abbrev O_Decimal_goesAway : Type := Int32
abbrev q_Decimal_goesAway (D : va_G) (cC cI : ClassId) (a0_0 : Nat) (v0 : T_Decimal) (out : O_Decimal_goesAway) (A : Nat → Prop) : Array Value → State → Outcome → State → Prop := va_Qi (fun r (_ : Unit) => r = out) (fun _ t => va_P D classes (wd_Decimal_goesAway cC cI a0_0 v0) t.heap ∧ va_D A (wd_Decimal_goesAway cC cI a0_0 v0)) A
abbrev rm_Decimal_goesAway : Room := { frames := 1, cells := 0, slots := 0, locals := 23 }
def J_Decimal_goesAway_70 (p : Program) (l : Launch) (e : Env) (s : State) (m : MethodId) (args : Array Value) (below : List Frame) (meth : Method) (c : Code) (A : Nat → Prop) (D : va_G) (cC cI : ClassId) (a0_0 : Nat) (v0 : T_Decimal) (out : O_Decimal_goesAway) (k : Int32 → Option O_Decimal_goesAway) : Prop := ∀ (s0 : Int32) (ls : Array Slot) (H : Heap) (locs : List Loc), k s0 = some out → lv_has ls 9 [] → va_P D classes (wd_Decimal_goesAway cC cI a0_0 v0) H → va_D A (wd_Decimal_goesAway cC cI a0_0 v0) → va_S A s.heap H locs → W p l e rm_Decimal_goesAway s m args below meth c H locs 0 0 (MQ below (q_Decimal_goesAway D cC cI a0_0 v0 out A) args s 0 0 A) (F0 m 70 ls [.int s0])
def f_Decimal_goesAway_70 (v0 : T_Decimal) (s0 : Int32) : Option O_Decimal_goesAway := if (s0 = 0 ∨ s0 = 1) then some s0 else none
set_option maxHeartbeats 4000000 in
set_option maxRecDepth 100000 in
theorem w_Decimal_goesAway_70 {p : Program} {l : Launch} {e : Env} {s : State} {m : MethodId} {args : Array Value} {below : List Frame} {meth : Method} {c : Code} {A : Nat → Prop} {D : va_G} {cC cI : ClassId} {a0_0 : Nat} {v0 : T_Decimal} (X : xCX p s m args meth c A D cC cI b_Decimal_goesAway 9 R_Decimal (some .boolean)) {out : O_Decimal_goesAway}   : J_Decimal_goesAway_70 p l e s m args below meth c A D cC cI a0_0 v0 out (f_Decimal_goesAway_70 v0 ) := by
  obtain ⟨hx, hb, hml, hown, htB, ⟨hK, hN⟩, hZ, hA, hr, hlocks⟩ := id X
  intro s0 ls H locs h hl hP hD hS
  obtain ⟨hc, h⟩ := x_chk h
  obtain rfl := Option.some.inj h
  exact W.zret (v := s0) (ty := .boolean) hx hb hr (x_zn hc) (fun t ht hW => ⟨⟨s0, (), rfl, rfl, by rw [ht]; exact hP, hD⟩, hS.F ht⟩) hS.2.2 d_Decimal_goesAway_70 hlocks

def J_Decimal_goesAway_86 (p : Program) (l : Launch) (e : Env) (s : State) (m : MethodId) (args : Array Value) (below : List Frame) (meth : Method) (c : Code) (A : Nat → Prop) (D : va_G) (cC cI : ClassId) (a0_0 : Nat) (v0 : T_Decimal) (out : O_Decimal_goesAway) (k : Int32 → Option O_Decimal_goesAway) : Prop := ∀ (s0 : Int32) (ls : Array Slot) (H : Heap) (locs : List Loc), k s0 = some out → lv_has ls 9 [] → va_P D classes (wd_Decimal_goesAway cC cI a0_0 v0) H → va_D A (wd_Decimal_goesAway cC cI a0_0 v0) → va_S A s.heap H locs → W p l e rm_Decimal_goesAway s m args below meth c H locs 0 0 (MQ below (q_Decimal_goesAway D cC cI a0_0 v0 out A) args s 0 0 A) (F0 m 86 ls [.int s0])
def f_Decimal_goesAway_86 (v0 : T_Decimal) (s0 : Int32) : Option O_Decimal_goesAway := if (s0 = 0 ∨ s0 = 1) then some s0 else none
set_option maxHeartbeats 4000000 in
set_option maxRecDepth 100000 in
theorem w_Decimal_goesAway_86 {p : Program} {l : Launch} {e : Env} {s : State} {m : MethodId} {args : Array Value} {below : List Frame} {meth : Method} {c : Code} {A : Nat → Prop} {D : va_G} {cC cI : ClassId} {a0_0 : Nat} {v0 : T_Decimal} (X : xCX p s m args meth c A D cC cI b_Decimal_goesAway 9 R_Decimal (some .boolean)) {out : O_Decimal_goesAway}   : J_Decimal_goesAway_86 p l e s m args below meth c A D cC cI a0_0 v0 out (f_Decimal_goesAway_86 v0 ) := by
  obtain ⟨hx, hb, hml, hown, htB, ⟨hK, hN⟩, hZ, hA, hr, hlocks⟩ := id X
  intro s0 ls H locs h hl hP hD hS
  obtain ⟨hc, h⟩ := x_chk h
  obtain rfl := Option.some.inj h
  exact W.zret (v := s0) (ty := .boolean) hx hb hr (x_zn hc) (fun t ht hW => ⟨⟨s0, (), rfl, rfl, by rw [ht]; exact hP, hD⟩, hS.F ht⟩) hS.2.2 d_Decimal_goesAway_86 hlocks

def J_Decimal_goesAway_97 (p : Program) (l : Launch) (e : Env) (s : State) (m : MethodId) (args : Array Value) (below : List Frame) (meth : Method) (c : Code) (A : Nat → Prop) (D : va_G) (cC cI : ClassId) (a0_0 : Nat) (v0 : T_Decimal) (out : O_Decimal_goesAway) (k : Int32 → Option O_Decimal_goesAway) : Prop := ∀ (s0 : Int32) (ls : Array Slot) (H : Heap) (locs : List Loc), k s0 = some out → lv_has ls 9 [] → va_P D classes (wd_Decimal_goesAway cC cI a0_0 v0) H → va_D A (wd_Decimal_goesAway cC cI a0_0 v0) → va_S A s.heap H locs → W p l e rm_Decimal_goesAway s m args below meth c H locs 0 0 (MQ below (q_Decimal_goesAway D cC cI a0_0 v0 out A) args s 0 0 A) (F0 m 97 ls [.int s0])
def f_Decimal_goesAway_97 (v0 : T_Decimal) (s0 : Int32) : Option O_Decimal_goesAway := if (s0 = 0 ∨ s0 = 1) then some s0 else none
set_option maxHeartbeats 4000000 in
set_option maxRecDepth 100000 in
theorem w_Decimal_goesAway_97 {p : Program} {l : Launch} {e : Env} {s : State} {m : MethodId} {args : Array Value} {below : List Frame} {meth : Method} {c : Code} {A : Nat → Prop} {D : va_G} {cC cI : ClassId} {a0_0 : Nat} {v0 : T_Decimal} (X : xCX p s m args meth c A D cC cI b_Decimal_goesAway 9 R_Decimal (some .boolean)) {out : O_Decimal_goesAway}   : J_Decimal_goesAway_97 p l e s m args below meth c A D cC cI a0_0 v0 out (f_Decimal_goesAway_97 v0 ) := by
  obtain ⟨hx, hb, hml, hown, htB, ⟨hK, hN⟩, hZ, hA, hr, hlocks⟩ := id X
  intro s0 ls H locs h hl hP hD hS
  obtain ⟨hc, h⟩ := x_chk h
  obtain rfl := Option.some.inj h
  exact W.zret (v := s0) (ty := .boolean) hx hb hr (x_zn hc) (fun t ht hW => ⟨⟨s0, (), rfl, rfl, by rw [ht]; exact hP, hD⟩, hS.F ht⟩) hS.2.2 d_Decimal_goesAway_97 hlocks

def J_Decimal_goesAway_118 (p : Program) (l : Launch) (e : Env) (s : State) (m : MethodId) (args : Array Value) (below : List Frame) (meth : Method) (c : Code) (A : Nat → Prop) (D : va_G) (cC cI : ClassId) (a0_0 : Nat) (v0 : T_Decimal) (out : O_Decimal_goesAway) (k : Option O_Decimal_goesAway) : Prop := ∀  (ls : Array Slot) (H : Heap) (locs : List Loc), k  = some out → lv_has ls 9 [] → va_P D classes (wd_Decimal_goesAway cC cI a0_0 v0) H → va_D A (wd_Decimal_goesAway cC cI a0_0 v0) → va_S A s.heap H locs → W p l e rm_Decimal_goesAway s m args below meth c H locs 0 0 (MQ below (q_Decimal_goesAway D cC cI a0_0 v0 out A) args s 0 0 A) (F0 m 118 ls [])
def J_Decimal_goesAway_123 (p : Program) (l : Launch) (e : Env) (s : State) (m : MethodId) (args : Array Value) (below : List Frame) (meth : Method) (c : Code) (A : Nat → Prop) (D : va_G) (cC cI : ClassId) (a0_0 : Nat) (v0 : T_Decimal) (out : O_Decimal_goesAway) (k : Int32 → Option O_Decimal_goesAway) : Prop := ∀ (s0 : Int32) (ls : Array Slot) (H : Heap) (locs : List Loc), k s0 = some out → lv_has ls 9 [] → va_P D classes (wd_Decimal_goesAway cC cI a0_0 v0) H → va_D A (wd_Decimal_goesAway cC cI a0_0 v0) → va_S A s.heap H locs → W p l e rm_Decimal_goesAway s m args below meth c H locs 0 0 (MQ below (q_Decimal_goesAway D cC cI a0_0 v0 out A) args s 0 0 A) (F0 m 123 ls [.int s0])
def f_Decimal_goesAway_123 (v0 : T_Decimal) (s0 : Int32) : Option O_Decimal_goesAway := if (s0 = 0 ∨ s0 = 1) then some s0 else none
set_option maxHeartbeats 4000000 in
set_option maxRecDepth 100000 in
theorem w_Decimal_goesAway_123 {p : Program} {l : Launch} {e : Env} {s : State} {m : MethodId} {args : Array Value} {below : List Frame} {meth : Method} {c : Code} {A : Nat → Prop} {D : va_G} {cC cI : ClassId} {a0_0 : Nat} {v0 : T_Decimal} (X : xCX p s m args meth c A D cC cI b_Decimal_goesAway 9 R_Decimal (some .boolean)) {out : O_Decimal_goesAway}   : J_Decimal_goesAway_123 p l e s m args below meth c A D cC cI a0_0 v0 out (f_Decimal_goesAway_123 v0 ) := by
  obtain ⟨hx, hb, hml, hown, htB, ⟨hK, hN⟩, hZ, hA, hr, hlocks⟩ := id X
  intro s0 ls H locs h hl hP hD hS
  obtain ⟨hc, h⟩ := x_chk h
  obtain rfl := Option.some.inj h
  exact W.zret (v := s0) (ty := .boolean) hx hb hr (x_zn hc) (fun t ht hW => ⟨⟨s0, (), rfl, rfl, by rw [ht]; exact hP, hD⟩, hS.F ht⟩) hS.2.2 d_Decimal_goesAway_123 hlocks

def f_Decimal_goesAway_118 (v0 : T_Decimal) : Option O_Decimal_goesAway := f_Decimal_goesAway_123 v0 (1 : Int32)
set_option maxHeartbeats 4000000 in
set_option maxRecDepth 100000 in
theorem w_Decimal_goesAway_118 {p : Program} {l : Launch} {e : Env} {s : State} {m : MethodId} {args : Array Value} {below : List Frame} {meth : Method} {c : Code} {A : Nat → Prop} {D : va_G} {cC cI : ClassId} {a0_0 : Nat} {v0 : T_Decimal} (X : xCX p s m args meth c A D cC cI b_Decimal_goesAway 9 R_Decimal (some .boolean)) {out : O_Decimal_goesAway}   : J_Decimal_goesAway_118 p l e s m args below meth c A D cC cI a0_0 v0 out (f_Decimal_goesAway_118 v0 ) := by
  obtain ⟨hx, hb, hml, hown, htB, ⟨hK, hN⟩, hZ, hA, hr, hlocks⟩ := id X
  intro  ls H locs h hl hP hD hS
  refine lv_iconst (v := 1) hx hb d_Decimal_goesAway_118 (by decide) ?_
  refine lv_goto (tgt := 123) hx hb d_Decimal_goesAway_119 rfl ?_
  exact w_Decimal_goesAway_123 X (1 : Int32) ls H locs h (lv_sub hl [] rfl) hP hD hS

def J_Decimal_goesAway_122 (p : Program) (l : Launch) (e : Env) (s : State) (m : MethodId) (args : Array Value) (below : List Frame) (meth : Method) (c : Code) (A : Nat → Prop) (D : va_G) (cC cI : ClassId) (a0_0 : Nat) (v0 : T_Decimal) (out : O_Decimal_goesAway) (k : Option O_Decimal_goesAway) : Prop := ∀  (ls : Array Slot) (H : Heap) (locs : List Loc), k  = some out → lv_has ls 9 [] → va_P D classes (wd_Decimal_goesAway cC cI a0_0 v0) H → va_D A (wd_Decimal_goesAway cC cI a0_0 v0) → va_S A s.heap H locs → W p l e rm_Decimal_goesAway s m args below meth c H locs 0 0 (MQ below (q_Decimal_goesAway D cC cI a0_0 v0 out A) args s 0 0 A) (F0 m 122 ls [])
def f_Decimal_goesAway_122 (v0 : T_Decimal) : Option O_Decimal_goesAway := f_Decimal_goesAway_123 v0 (0 : Int32)
set_option maxHeartbeats 4000000 in
set_option maxRecDepth 100000 in
theorem w_Decimal_goesAway_122 {p : Program} {l : Launch} {e : Env} {s : State} {m : MethodId} {args : Array Value} {below : List Frame} {meth : Method} {c : Code} {A : Nat → Prop} {D : va_G} {cC cI : ClassId} {a0_0 : Nat} {v0 : T_Decimal} (X : xCX p s m args meth c A D cC cI b_Decimal_goesAway 9 R_Decimal (some .boolean)) {out : O_Decimal_goesAway}   : J_Decimal_goesAway_122 p l e s m args below meth c A D cC cI a0_0 v0 out (f_Decimal_goesAway_122 v0 ) := by
  obtain ⟨hx, hb, hml, hown, htB, ⟨hK, hN⟩, hZ, hA, hr, hlocks⟩ := id X
  intro  ls H locs h hl hP hD hS
  refine lv_iconst (v := 0) hx hb d_Decimal_goesAway_122 (by decide) ?_
  exact w_Decimal_goesAway_123 X (0 : Int32) ls H locs h (lv_sub hl [] rfl) hP hD hS

def f_Decimal_goesAway (v0 : T_Decimal) (v1 : Int32) (v2 : Int64) (v3 : Int64) (v4 : Int64) : Option O_Decimal_goesAway := (f_Long_compare v3 (v4 - v3)).bind (fun o7 => (if v1 = (0 : Int32) then some (1 : Int32) else if v1 = (1 : Int32) then some (0 : Int32) else if v1 = (2 : Int32) then (if v0.1 = 0 then f_Decimal_goesAway_70 v0 (1 : Int32) else f_Decimal_goesAway_70 v0 (0 : Int32)) else if v1 = (3 : Int32) then if (v0.1 = 0 ∨ v0.1 = 1) then some v0.1 else none else if v1 = (4 : Int32) then (if o7 < 0 then f_Decimal_goesAway_86 v0 (0 : Int32) else f_Decimal_goesAway_86 v0 (1 : Int32)) else if v1 = (5 : Int32) then (if o7 ≤ 0 then f_Decimal_goesAway_97 v0 (0 : Int32) else f_Decimal_goesAway_97 v0 (1 : Int32)) else if v1 = (6 : Int32) then (if 0 < o7 then f_Decimal_goesAway_118 v0 else (if o7 = 0 then (if (lg_cmp (v2 - v2 / (2 : Int64) * (2 : Int64)) (0 : Int64)) = 0 then f_Decimal_goesAway_122 v0 else f_Decimal_goesAway_118 v0) else f_Decimal_goesAway_122 v0)) else some (0 : Int32)))
set_option maxHeartbeats 4000000 in
set_option maxRecDepth 100000 in
theorem w_Decimal_goesAway {p : Program} {l : Launch} {e : Env} {s : State} {m : MethodId} {args : Array Value} {below : List Frame} {meth : Method} {c : Code} {A : Nat → Prop} {D : va_G} {cC cI : ClassId} {a0_0 : Nat} {v0 : T_Decimal} (X : xCX p s m args meth c A D cC cI b_Decimal_goesAway 9 R_Decimal (some .boolean)) {out : O_Decimal_goesAway} (v1 : Int32) (v2 : Int64) (v3 : Int64) (v4 : Int64) {ls : Array Slot} {H : Heap} {locs : List Loc} (h : f_Decimal_goesAway v0 v1 v2 v3 v4 = some out) (hl : lv_has ls 9 [(0, .ref a0_0), (1, .int v1), (2, .long v2), (4, .long v3), (6, .long v4)]) (hP : va_P D classes (wd_Decimal_goesAway cC cI a0_0 v0) H) (hD : va_D A (wd_Decimal_goesAway cC cI a0_0 v0)) (hS : va_S A s.heap H locs) : W p l e rm_Decimal_goesAway s m args below meth c H locs 0 0 (MQ below (q_Decimal_goesAway D cC cI a0_0 v0 out A) args s 0 0 A) (F0 m 0 ls []) := by
  obtain ⟨hx, hb, hml, hown, htB, ⟨hK, hN⟩, hZ, hA, hr, hlocks⟩ := id X
  refine lv_lload hx hb d_Decimal_goesAway_0 (lv_at hl 3 rfl) ?_
  refine lv_lload hx hb d_Decimal_goesAway_2 (lv_at hl 4 rfl) ?_
  refine lv_lload hx hb d_Decimal_goesAway_4 (lv_at hl 3 rfl) ?_
  refine lv_lsub hx hb d_Decimal_goesAway_6 ?_
  obtain ⟨o7, ho7, h⟩ := x_bnd h
  refine x_calli (r0 := o7) (ws2 := (wd_Decimal_goesAway cC cI a0_0 v0)) (x_runS (As := [.long v3, .long (v4 - v3)]) (rest := []) X (c_Long_compare l D cC cI H.size v3 (v4 - v3) o7 ho7) b_145 2 (htB _ b_148) (htB _ b_147) (htB _ b_146) ⟨by decide, by decide, by decide +kernel⟩ ⟨(Nat.le_of_ble_eq_true rfl), (Nat.le_of_ble_eq_true rfl)⟩ hP hD hS [] rfl (by decide) rfl rfl hl.1 rfl rfl (Nat.le_of_ble_eq_true rfl) d_Decimal_goesAway_7) hP hD hS hA [] [0] [0] rfl rfl (by decide) (by decide) rfl (by decide) (fun H locs hP hD hS => ?_)
  refine lv_istore (lv' := [(8, .int o7), (0, .ref a0_0), (1, .int v1), (2, .long v2), (4, .long v3), (6, .long v4)]) hx hb d_Decimal_goesAway_10 hl (by decide) rfl (fun ls hl => ?_)
  refine lv_iload_n hx hb d_Decimal_goesAway_12 rfl (lv_at hl 2 rfl) ?_
  by_cases hc : v1 = (0 : Int32)
  · have h := (if_pos hc).symm.trans h
    refine lv_tableIn (tgt := 56) (off := 43) hx hb d_Decimal_goesAway_13 (by rw [hc]; decide) (by rw [hc]; decide) (by rw [hc]; rfl) rfl ?_
    refine lv_iconst (v := 1) hx hb d_Decimal_goesAway_56 (by decide) ?_
    obtain rfl := Option.some.inj h
    exact W.zret (v := (1 : Int32)) (ty := .boolean) hx hb hr rfl (fun t ht hW => ⟨⟨(1 : Int32), (), rfl, rfl, by rw [ht]; exact hP, hD⟩, hS.F ht⟩) hS.2.2 d_Decimal_goesAway_57 hlocks
  have h := (if_neg hc).symm.trans h
  have hc0 := lv_neT (a := 0) hc (by decide)
  by_cases hc : v1 = (1 : Int32)
  · have h := (if_pos hc).symm.trans h
    refine lv_tableIn (tgt := 124) (off := 111) hx hb d_Decimal_goesAway_13 (by rw [hc]; decide) (by rw [hc]; decide) (by rw [hc]; rfl) rfl ?_
    refine lv_iconst (v := 0) hx hb d_Decimal_goesAway_124 (by decide) ?_
    obtain rfl := Option.some.inj h
    exact W.zret (v := (0 : Int32)) (ty := .boolean) hx hb hr rfl (fun t ht hW => ⟨⟨(0 : Int32), (), rfl, rfl, by rw [ht]; exact hP, hD⟩, hS.F ht⟩) hS.2.2 d_Decimal_goesAway_125 hlocks
  have h := (if_neg hc).symm.trans h
  have hc1 := lv_neT (a := 1) hc (by decide)
  by_cases hc : v1 = (2 : Int32)
  · have h := (if_pos hc).symm.trans h
    refine lv_tableIn (tgt := 58) (off := 45) hx hb d_Decimal_goesAway_13 (by rw [hc]; decide) (by rw [hc]; decide) (by rw [hc]; rfl) rfl ?_
    refine lv_aload_n hx hb d_Decimal_goesAway_58 rfl (lv_at hl 1 rfl) ?_
    refine va_get (D := D) (ci := 7) (v := .int v0.1) (C := R_Decimal) (T := F_Decimal) (N := 3) hx hb htB in_Decimal hown hK hP 0 rfl rfl 0 (by decide) (htB _ b_132) (fun _ h9 => h9) rfl d_Decimal_goesAway_59 ?_
    refine lv_if_ne (tgt := 69) hx hb d_Decimal_goesAway_62 rfl (fun hc => ?_) (fun hc => ?_)
    · have h := (if_neg hc).symm.trans h
      refine lv_iconst (v := 0) hx hb d_Decimal_goesAway_69 (by decide) ?_
      exact w_Decimal_goesAway_70 X (0 : Int32) ls H locs h (lv_sub hl [] rfl) hP hD hS
    have h := (if_pos hc).symm.trans h
    refine lv_iconst (v := 1) hx hb d_Decimal_goesAway_65 (by decide) ?_
    refine lv_goto (tgt := 70) hx hb d_Decimal_goesAway_66 rfl ?_
    exact w_Decimal_goesAway_70 X (1 : Int32) ls H locs h (lv_sub hl [] rfl) hP hD hS
  have h := (if_neg hc).symm.trans h
  have hc2 := lv_neT (a := 2) hc (by decide)
  by_cases hc : v1 = (3 : Int32)
  · have h := (if_pos hc).symm.trans h
    refine lv_tableIn (tgt := 71) (off := 58) hx hb d_Decimal_goesAway_13 (by rw [hc]; decide) (by rw [hc]; decide) (by rw [hc]; rfl) rfl ?_
    refine lv_aload_n hx hb d_Decimal_goesAway_71 rfl (lv_at hl 1 rfl) ?_
    refine va_get (D := D) (ci := 7) (v := .int v0.1) (C := R_Decimal) (T := F_Decimal) (N := 3) hx hb htB in_Decimal hown hK hP 0 rfl rfl 0 (by decide) (htB _ b_132) (fun _ h9 => h9) rfl d_Decimal_goesAway_72 ?_
    obtain ⟨hc, h⟩ := x_chk h
    obtain rfl := Option.some.inj h
    exact W.zret (v := v0.1) (ty := .boolean) hx hb hr (x_zn hc) (fun t ht hW => ⟨⟨v0.1, (), rfl, rfl, by rw [ht]; exact hP, hD⟩, hS.F ht⟩) hS.2.2 d_Decimal_goesAway_75 hlocks
  have h := (if_neg hc).symm.trans h
  have hc3 := lv_neT (a := 3) hc (by decide)
  by_cases hc : v1 = (4 : Int32)
  · have h := (if_pos hc).symm.trans h
    refine lv_tableIn (tgt := 76) (off := 63) hx hb d_Decimal_goesAway_13 (by rw [hc]; decide) (by rw [hc]; decide) (by rw [hc]; rfl) rfl ?_
    refine lv_iload hx hb d_Decimal_goesAway_76 (lv_at hl 0 rfl) ?_
    refine lv_if_lt (tgt := 85) hx hb d_Decimal_goesAway_78 rfl (fun hc => ?_) (fun hc => ?_)
    · have h := (if_pos hc).symm.trans h
      refine lv_iconst (v := 0) hx hb d_Decimal_goesAway_85 (by decide) ?_
      exact w_Decimal_goesAway_86 X (0 : Int32) ls H locs h (lv_sub hl [] rfl) hP hD hS
    have h := (if_neg hc).symm.trans h
    refine lv_iconst (v := 1) hx hb d_Decimal_goesAway_81 (by decide) ?_
    refine lv_goto (tgt := 86) hx hb d_Decimal_goesAway_82 rfl ?_
    exact w_Decimal_goesAway_86 X (1 : Int32) ls H locs h (lv_sub hl [] rfl) hP hD hS
  have h := (if_neg hc).symm.trans h
  have hc4 := lv_neT (a := 4) hc (by decide)
  by_cases hc : v1 = (5 : Int32)
  · have h := (if_pos hc).symm.trans h
    refine lv_tableIn (tgt := 87) (off := 74) hx hb d_Decimal_goesAway_13 (by rw [hc]; decide) (by rw [hc]; decide) (by rw [hc]; rfl) rfl ?_
    refine lv_iload hx hb d_Decimal_goesAway_87 (lv_at hl 0 rfl) ?_
    refine lv_if_le (tgt := 96) hx hb d_Decimal_goesAway_89 rfl (fun hc => ?_) (fun hc => ?_)
    · have h := (if_pos hc).symm.trans h
      refine lv_iconst (v := 0) hx hb d_Decimal_goesAway_96 (by decide) ?_
      exact w_Decimal_goesAway_97 X (0 : Int32) ls H locs h (lv_sub hl [] rfl) hP hD hS
    have h := (if_neg hc).symm.trans h
    refine lv_iconst (v := 1) hx hb d_Decimal_goesAway_92 (by decide) ?_
    refine lv_goto (tgt := 97) hx hb d_Decimal_goesAway_93 rfl ?_
    exact w_Decimal_goesAway_97 X (1 : Int32) ls H locs h (lv_sub hl [] rfl) hP hD hS
  have h := (if_neg hc).symm.trans h
  have hc5 := lv_neT (a := 5) hc (by decide)
  by_cases hc : v1 = (6 : Int32)
  · have h := (if_pos hc).symm.trans h
    refine lv_tableIn (tgt := 98) (off := 85) hx hb d_Decimal_goesAway_13 (by rw [hc]; decide) (by rw [hc]; decide) (by rw [hc]; rfl) rfl ?_
    refine lv_iload hx hb d_Decimal_goesAway_98 (lv_at hl 0 rfl) ?_
    refine lv_if_gt (tgt := 118) hx hb d_Decimal_goesAway_100 rfl (fun hc => ?_) (fun hc => ?_)
    · have h := (if_pos hc).symm.trans h
      exact w_Decimal_goesAway_118 X ls H locs h (lv_sub hl [] rfl) hP hD hS
    have h := (if_neg hc).symm.trans h
    refine lv_iload hx hb d_Decimal_goesAway_103 (lv_at hl 0 rfl) ?_
    refine lv_if_ne (tgt := 122) hx hb d_Decimal_goesAway_105 rfl (fun hc => ?_) (fun hc => ?_)
    · have h := (if_neg hc).symm.trans h
      exact w_Decimal_goesAway_122 X ls H locs h (lv_sub hl [] rfl) hP hD hS
    have h := (if_pos hc).symm.trans h
    refine lv_lload_n hx hb d_Decimal_goesAway_108 rfl (lv_at hl 3 rfl) ?_
    refine lv_ldc2 (v := 2) hx hb hown (htB _ b_149) d_Decimal_goesAway_109 ?_
    refine lv_lrem hx hb d_Decimal_goesAway_112 (by decide) ?_
    refine lv_lconst (v := 0) hx hb d_Decimal_goesAway_113 (by decide) ?_
    refine W.lcmp hx hb d_Decimal_goesAway_114 ?_
    refine lv_if_eq (tgt := 122) hx hb d_Decimal_goesAway_115 rfl (fun hc => ?_) (fun hc => ?_)
    · have h := (if_pos hc).symm.trans h
      exact w_Decimal_goesAway_122 X ls H locs h (lv_sub hl [] rfl) hP hD hS
    have h := (if_neg hc).symm.trans h
    exact w_Decimal_goesAway_118 X ls H locs h (lv_sub hl [] rfl) hP hD hS
  have h := (if_neg hc).symm.trans h
  have hc6 := lv_neT (a := 6) hc (by decide)
  refine lv_tableOut (tgt := 124) hx hb d_Decimal_goesAway_13 (by omega) rfl ?_
  refine lv_iconst (v := 0) hx hb d_Decimal_goesAway_124 (by decide) ?_
  obtain rfl := Option.some.inj h
  exact W.zret (v := (0 : Int32)) (ty := .boolean) hx hb hr rfl (fun t ht hW => ⟨⟨(0 : Int32), (), rfl, rfl, by rw [ht]; exact hP, hD⟩, hS.F ht⟩) hS.2.2 d_Decimal_goesAway_125 hlocks

set_option maxHeartbeats 4000000 in
set_option maxRecDepth 100000 in
theorem c_Decimal_goesAway (l : Launch) (D : va_G) (cC cI : ClassId) (sz : Nat) (a0_0 : Nat) (v0 : T_Decimal) (v1 : Int32) (v2 : Int64) (v3 : Int64) (v4 : Int64) (out : O_Decimal_goesAway) (h : f_Decimal_goesAway v0 v1 v2 v3 v4 = some out) : Met l y_Decimal_goesAway (.code y_Decimal_goesAway b_Decimal_goesAway 9 (some .boolean) :: BIG) rm_Decimal_goesAway (va_Pc [.ref a0_0, .int v1, .long v2, .long v3, .long v4] (xPre D cC cI (wd_Decimal_goesAway cC cI a0_0 v0) sz)) (q_Decimal_goesAway D cC cI a0_0 v0 out (va_A (wd_Decimal_goesAway cC cI a0_0 v0) sz)) 0 0 (va_A (wd_Decimal_goesAway cC cI a0_0 v0) sz) := by
  refine Met.ofW (cc := b_Decimal_goesAway) (maxL := 9) (ret := (some .boolean)) (by decide) rfl ?_
  intro p e s m args below meth c s₁ B hml hv
  obtain ⟨rfl, rfl, hP, hD0, hG, hZ⟩ := hv
  have hl := lv_entry [.ref a0_0, .int v1, .long v2, .long v3, .long v4] (n := 9) (Nat.le_of_ble_eq_true rfl)
  rw [lg_entry_eq]
  exact w_Decimal_goesAway (x_cx B hml hG hZ) v1 v2 v3 v4 h hl hP hD0.self va_S.rf

abbrev wd_Decimal_roundTo (cC cI : ClassId) (a0_0 : Nat) (v0 : T_Decimal) : va_W := [(a0_0, .inr (7, [.int v0.1, .long v0.2.1, .int v0.2.2]))]
abbrev O_Decimal_roundTo : Type := Int32 × T_Decimal
abbrev q_Decimal_roundTo (D : va_G) (cC cI : ClassId) (a0_0 : Nat)  (out : O_Decimal_roundTo) (A : Nat → Prop) : Array Value → State → Outcome → State → Prop := va_Qi (fun r (_ : Unit) => r = out.1) (fun _ t => va_P D classes (wd_Decimal_roundTo cC cI a0_0 out.2) t.heap ∧ va_D A (wd_Decimal_roundTo cC cI a0_0 out.2)) A
abbrev rm_Decimal_roundTo : Room := { frames := 2, cells := 0, slots := 0, locals := 51 }
def J_Decimal_roundTo_43 (p : Program) (l : Launch) (e : Env) (s : State) (m : MethodId) (args : Array Value) (below : List Frame) (meth : Method) (c : Code) (A : Nat → Prop) (D : va_G) (cC cI : ClassId) (a0_0 : Nat) (out : O_Decimal_roundTo) (k : T_Decimal → Int32 → Int32 → Int64 → Int64 → Option O_Decimal_roundTo) : Prop := ∀ (v0 : T_Decimal) (x1 : Int32) (x2 : Int32) (x3 : Int64) (x5 : Int64) (ls : Array Slot) (H : Heap) (locs : List Loc), k v0 x1 x2 x3 x5 = some out → lv_has ls 9 [(0, .ref a0_0), (1, .int x1), (2, .int x2), (3, .long x3), (5, .long x5)] → va_P D classes (wd_Decimal_roundTo cC cI a0_0 v0) H → va_D A (wd_Decimal_roundTo cC cI a0_0 v0) → va_S A s.heap H locs → W p l e rm_Decimal_roundTo s m args below meth c H locs 0 0 (MQ below (q_Decimal_roundTo D cC cI a0_0 out A) args s 0 0 A) (F0 m 43 ls [])
def J_Decimal_roundTo_79 (p : Program) (l : Launch) (e : Env) (s : State) (m : MethodId) (args : Array Value) (below : List Frame) (meth : Method) (c : Code) (A : Nat → Prop) (D : va_G) (cC cI : ClassId) (a0_0 : Nat) (out : O_Decimal_roundTo) (k : T_Decimal → Int32 → Int64 → Option O_Decimal_roundTo) : Prop := ∀ (v0 : T_Decimal) (x1 : Int32) (x7 : Int64) (ls : Array Slot) (H : Heap) (locs : List Loc), k v0 x1 x7 = some out → lv_has ls 9 [(0, .ref a0_0), (1, .int x1), (7, .long x7)] → va_P D classes (wd_Decimal_roundTo cC cI a0_0 v0) H → va_D A (wd_Decimal_roundTo cC cI a0_0 v0) → va_S A s.heap H locs → W p l e rm_Decimal_roundTo s m args below meth c H locs 0 0 (MQ below (q_Decimal_roundTo D cC cI a0_0 out A) args s 0 0 A) (F0 m 79 ls [.ref a0_0])
def J_Decimal_roundTo_81 (p : Program) (l : Launch) (e : Env) (s : State) (m : MethodId) (args : Array Value) (below : List Frame) (meth : Method) (c : Code) (A : Nat → Prop) (D : va_G) (cC cI : ClassId) (a0_0 : Nat) (out : O_Decimal_roundTo) (k : T_Decimal → Int32 → Int64 → Option O_Decimal_roundTo) : Prop := ∀ (v0 : T_Decimal) (x1 : Int32) (s1 : Int64) (ls : Array Slot) (H : Heap) (locs : List Loc), k v0 x1 s1 = some out → lv_has ls 9 [(0, .ref a0_0), (1, .int x1)] → va_P D classes (wd_Decimal_roundTo cC cI a0_0 v0) H → va_D A (wd_Decimal_roundTo cC cI a0_0 v0) → va_S A s.heap H locs → W p l e rm_Decimal_roundTo s m args below meth c H locs 0 0 (MQ below (q_Decimal_roundTo D cC cI a0_0 out A) args s 0 0 A) (F0 m 81 ls [.long s1, .ref a0_0])
def f_Decimal_roundTo_81 (v0 : T_Decimal) (x1 : Int32) (s1 : Int64) : Option O_Decimal_roundTo := some ((1 : Int32), (v0.1, s1, x1))
set_option maxHeartbeats 4000000 in
set_option maxRecDepth 100000 in
theorem w_Decimal_roundTo_81 {p : Program} {l : Launch} {e : Env} {s : State} {m : MethodId} {args : Array Value} {below : List Frame} {meth : Method} {c : Code} {A : Nat → Prop} {D : va_G} {cC cI : ClassId} {a0_0 : Nat} (X : xCX p s m args meth c A D cC cI b_Decimal_roundTo 9 R_Decimal (some .boolean)) {out : O_Decimal_roundTo}   : J_Decimal_roundTo_81 p l e s m args below meth c A D cC cI a0_0 out (f_Decimal_roundTo_81  ) := by
  obtain ⟨hx, hb, hml, hown, htB, ⟨hK, hN⟩, hZ, hA, hr, hlocks⟩ := id X
  intro v0 x1 s1 ls H locs h hl hP hD hS
  refine va_put (D := D) (ci := 7) (v := .long s1) (ty := .long) (C := R_Decimal) (T := F_Decimal) (N := 3) hx hb htB in_Decimal t_Decimal t_Decimal_ok n_Decimal hown hK hP hD hS 0 rfl rfl 1 (by decide) (htB _ b_136) (fun _ h9 => h9) rfl (by decide +kernel) rfl rfl (Nat.le_of_ble_eq_true rfl) d_Decimal_roundTo_81 (fun H locs hP hD hS => ?_)
  have hP : va_P D classes (wd_Decimal_roundTo cC cI a0_0 (v0.1, s1, v0.2.2)) H := hP
  have hD : va_D A (wd_Decimal_roundTo cC cI a0_0 (v0.1, s1, v0.2.2)) := hD
  refine lv_aload_n hx hb d_Decimal_roundTo_84 rfl (lv_at hl 0 rfl) ?_
  refine lv_iload_n hx hb d_Decimal_roundTo_85 rfl (lv_at hl 1 rfl) ?_
  refine va_put (D := D) (ci := 7) (v := .int x1) (ty := .int) (C := R_Decimal) (T := F_Decimal) (N := 3) hx hb htB in_Decimal t_Decimal t_Decimal_ok n_Decimal hown hK hP hD hS 0 rfl rfl 2 (by decide) (htB _ b_137) (fun _ h9 => h9) rfl (by decide +kernel) rfl rfl (Nat.le_of_ble_eq_true rfl) d_Decimal_roundTo_86 (fun H locs hP hD hS => ?_)
  have hP : va_P D classes (wd_Decimal_roundTo cC cI a0_0 (v0.1, s1, x1)) H := hP
  have hD : va_D A (wd_Decimal_roundTo cC cI a0_0 (v0.1, s1, x1)) := hD
  refine lv_iconst (v := 1) hx hb d_Decimal_roundTo_89 (by decide) ?_
  obtain rfl := Option.some.inj h
  exact W.zret (v := (1 : Int32)) (ty := .boolean) hx hb hr rfl (fun t ht hW => ⟨⟨(1 : Int32), (), rfl, rfl, by rw [ht]; exact hP, hD⟩, hS.F ht⟩) hS.2.2 d_Decimal_roundTo_90 hlocks

def f_Decimal_roundTo_79 (v0 : T_Decimal) (x1 : Int32) (x7 : Int64) : Option O_Decimal_roundTo := f_Decimal_roundTo_81 v0 x1 x7
set_option maxHeartbeats 4000000 in
set_option maxRecDepth 100000 in
theorem w_Decimal_roundTo_79 {p : Program} {l : Launch} {e : Env} {s : State} {m : MethodId} {args : Array Value} {below : List Frame} {meth : Method} {c : Code} {A : Nat → Prop} {D : va_G} {cC cI : ClassId} {a0_0 : Nat} (X : xCX p s m args meth c A D cC cI b_Decimal_roundTo 9 R_Decimal (some .boolean)) {out : O_Decimal_roundTo}   : J_Decimal_roundTo_79 p l e s m args below meth c A D cC cI a0_0 out (f_Decimal_roundTo_79  ) := by
  obtain ⟨hx, hb, hml, hown, htB, ⟨hK, hN⟩, hZ, hA, hr, hlocks⟩ := id X
  intro v0 x1 x7 ls H locs h hl hP hD hS
  refine lv_lload hx hb d_Decimal_roundTo_79 (lv_at hl 2 rfl) ?_
  exact w_Decimal_roundTo_81 X v0 x1 x7 ls H locs h (lv_sub hl [0, 1] rfl) hP hD hS

def f_Decimal_roundTo_43 (v0 : T_Decimal) (x1 : Int32) (x2 : Int32) (x3 : Int64) (x5 : Int64) : Option O_Decimal_roundTo := if ¬ x3 = 0 then (if (lg_cmp x5 (0 : Int64)) = 0 then f_Decimal_roundTo_79 v0 x1 (v0.2.1 / x3) else (f_Decimal_goesAway v0 x2 (v0.2.1 / x3) x5 x3).bind (fun o66 => (if o66 = 0 then f_Decimal_roundTo_79 v0 x1 (v0.2.1 / x3) else f_Decimal_roundTo_81 v0 x1 ((v0.2.1 / x3) + (1 : Int64))))) else none
set_option maxHeartbeats 4000000 in
set_option maxRecDepth 100000 in
theorem w_Decimal_roundTo_43 {p : Program} {l : Launch} {e : Env} {s : State} {m : MethodId} {args : Array Value} {below : List Frame} {meth : Method} {c : Code} {A : Nat → Prop} {D : va_G} {cC cI : ClassId} {a0_0 : Nat} (X : xCX p s m args meth c A D cC cI b_Decimal_roundTo 9 R_Decimal (some .boolean)) {out : O_Decimal_roundTo}   : J_Decimal_roundTo_43 p l e s m args below meth c A D cC cI a0_0 out (f_Decimal_roundTo_43  ) := by
  obtain ⟨hx, hb, hml, hown, htB, ⟨hK, hN⟩, hZ, hA, hr, hlocks⟩ := id X
  intro v0 x1 x2 x3 x5 ls H locs h hl hP hD hS
  refine lv_aload_n hx hb d_Decimal_roundTo_43 rfl (lv_at hl 0 rfl) ?_
  refine va_get (D := D) (ci := 7) (v := .long v0.2.1) (C := R_Decimal) (T := F_Decimal) (N := 3) hx hb htB in_Decimal hown hK hP 0 rfl rfl 1 (by decide) (htB _ b_136) (fun _ h9 => h9) rfl d_Decimal_roundTo_44 ?_
  refine lv_lload_n hx hb d_Decimal_roundTo_47 rfl (lv_at hl 3 rfl) ?_
  obtain ⟨hc, h⟩ := x_chk h
  refine lv_ldiv hx hb d_Decimal_roundTo_48 hc ?_
  refine lv_lstore (lv' := [(7, .long (v0.2.1 / x3)), (0, .ref a0_0), (1, .int x1), (2, .int x2), (3, .long x3), (5, .long x5)]) hx hb d_Decimal_roundTo_49 hl (by decide) rfl (fun ls hl => ?_)
  refine lv_aload_n hx hb d_Decimal_roundTo_51 rfl (lv_at hl 1 rfl) ?_
  refine lv_lload hx hb d_Decimal_roundTo_52 (lv_at hl 5 rfl) ?_
  refine lv_lconst (v := 0) hx hb d_Decimal_roundTo_54 (by decide) ?_
  refine W.lcmp hx hb d_Decimal_roundTo_55 ?_
  refine lv_if_eq (tgt := 79) hx hb d_Decimal_roundTo_56 rfl (fun hc => ?_) (fun hc => ?_)
  · have h := (if_pos hc).symm.trans h
    exact w_Decimal_roundTo_79 X v0 x1 (v0.2.1 / x3) ls H locs h (lv_sub hl [1, 2, 0] rfl) hP hD hS
  have h := (if_neg hc).symm.trans h
  refine lv_aload_n hx hb d_Decimal_roundTo_59 rfl (lv_at hl 1 rfl) ?_
  refine lv_iload_n hx hb d_Decimal_roundTo_60 rfl (lv_at hl 3 rfl) ?_
  refine lv_lload hx hb d_Decimal_roundTo_61 (lv_at hl 0 rfl) ?_
  refine lv_lload hx hb d_Decimal_roundTo_63 (lv_at hl 5 rfl) ?_
  refine lv_lload_n hx hb d_Decimal_roundTo_65 rfl (lv_at hl 4 rfl) ?_
  obtain ⟨o66, ho66, h⟩ := x_bnd h
  refine x_calli (r0 := o66) (ws2 := (wd_Decimal_roundTo cC cI a0_0 v0)) (x_runV (As := [.int x2, .long (v0.2.1 / x3), .long x5, .long x3]) (rest := [.ref a0_0]) X (c_Decimal_goesAway l D cC cI H.size a0_0 v0 x2 (v0.2.1 / x3) x5 x3 o66 ho66) b_150 4 (htB _ b_154) (htB _ b_152) (htB _ b_153) (htB _ b_151) ⟨by decide, by decide, by decide +kernel⟩ ⟨(Nat.le_of_ble_eq_true rfl), (Nat.le_of_ble_eq_true rfl)⟩ 0 rfl rfl hP hD hS [0] rfl (by decide) rfl rfl hl.1 rfl rfl (Nat.le_of_ble_eq_true rfl) d_Decimal_roundTo_66) hP hD hS hA [0] [] [0] rfl rfl (by decide) (by decide) rfl (by decide) (fun H locs hP hD hS => ?_)
  refine lv_if_eq (tgt := 79) hx hb d_Decimal_roundTo_69 rfl (fun hc => ?_) (fun hc => ?_)
  · have h := (if_pos hc).symm.trans h
    exact w_Decimal_roundTo_79 X v0 x1 (v0.2.1 / x3) ls H locs h (lv_sub hl [1, 2, 0] rfl) hP hD hS
  have h := (if_neg hc).symm.trans h
  refine lv_lload hx hb d_Decimal_roundTo_72 (lv_at hl 0 rfl) ?_
  refine lv_lconst (v := 1) hx hb d_Decimal_roundTo_74 (by decide) ?_
  refine lv_ladd hx hb d_Decimal_roundTo_75 ?_
  refine lv_goto (tgt := 81) hx hb d_Decimal_roundTo_76 rfl ?_
  exact w_Decimal_roundTo_81 X v0 x1 ((v0.2.1 / x3) + (1 : Int64)) ls H locs h (lv_sub hl [1, 2] rfl) hP hD hS

def f_Decimal_roundTo (v0 : T_Decimal) (v1 : Int32) (v2 : Int32) : Option O_Decimal_roundTo := (if v1 < v0.2.2 then (f_Deci_tenTo (v0.2.2 - v1)).bind (fun o16 => if ¬ o16 = 0 then (if (lg_cmp (v0.2.1 - v0.2.1 / o16 * o16) (0 : Int64)) = 0 then f_Decimal_roundTo_43 v0 v1 v2 o16 (v0.2.1 - v0.2.1 / o16 * o16) else (if v2 = (7 : Int32) then some ((0 : Int32), v0) else f_Decimal_roundTo_43 v0 v1 v2 o16 (v0.2.1 - v0.2.1 / o16 * o16))) else none) else some ((1 : Int32), v0))
set_option maxHeartbeats 4000000 in
set_option maxRecDepth 100000 in
theorem w_Decimal_roundTo {p : Program} {l : Launch} {e : Env} {s : State} {m : MethodId} {args : Array Value} {below : List Frame} {meth : Method} {c : Code} {A : Nat → Prop} {D : va_G} {cC cI : ClassId} {a0_0 : Nat} (X : xCX p s m args meth c A D cC cI b_Decimal_roundTo 9 R_Decimal (some .boolean)) {out : O_Decimal_roundTo} (v0 : T_Decimal) (v1 : Int32) (v2 : Int32) {ls : Array Slot} {H : Heap} {locs : List Loc} (h : f_Decimal_roundTo v0 v1 v2 = some out) (hl : lv_has ls 9 [(0, .ref a0_0), (1, .int v1), (2, .int v2)]) (hP : va_P D classes (wd_Decimal_roundTo cC cI a0_0 v0) H) (hD : va_D A (wd_Decimal_roundTo cC cI a0_0 v0)) (hS : va_S A s.heap H locs) : W p l e rm_Decimal_roundTo s m args below meth c H locs 0 0 (MQ below (q_Decimal_roundTo D cC cI a0_0 out A) args s 0 0 A) (F0 m 0 ls []) := by
  obtain ⟨hx, hb, hml, hown, htB, ⟨hK, hN⟩, hZ, hA, hr, hlocks⟩ := id X
  refine lv_aload_n hx hb d_Decimal_roundTo_0 rfl (lv_at hl 0 rfl) ?_
  refine va_get (D := D) (ci := 7) (v := .int v0.2.2) (C := R_Decimal) (T := F_Decimal) (N := 3) hx hb htB in_Decimal hown hK hP 0 rfl rfl 2 (by decide) (htB _ b_137) (fun _ h9 => h9) rfl d_Decimal_roundTo_1 ?_
  refine lv_iload_n hx hb d_Decimal_roundTo_4 rfl (lv_at hl 1 rfl) ?_
  refine lv_icmp_gt (tgt := 10) hx hb d_Decimal_roundTo_5 rfl (fun hc => ?_) (fun hc => ?_)
  · have h := (if_pos hc).symm.trans h
    refine lv_aload_n hx hb d_Decimal_roundTo_10 rfl (lv_at hl 0 rfl) ?_
    refine va_get (D := D) (ci := 7) (v := .int v0.2.2) (C := R_Decimal) (T := F_Decimal) (N := 3) hx hb htB in_Decimal hown hK hP 0 rfl rfl 2 (by decide) (htB _ b_137) (fun _ h9 => h9) rfl d_Decimal_roundTo_11 ?_
    refine lv_iload_n hx hb d_Decimal_roundTo_14 rfl (lv_at hl 1 rfl) ?_
    refine lv_isub hx hb d_Decimal_roundTo_15 ?_
    obtain ⟨o16, ho16, h⟩ := x_bnd h
    refine x_calll (r0 := o16) (ws2 := (wd_Decimal_roundTo cC cI a0_0 v0)) (x_runSN (As := [.int (v0.2.2 - v1)]) (rest := []) X (c_Deci_tenTo l D cC cI H.size (v0.2.2 - v1) o16 ho16) b_143 1 (hN _ n_45) (htB _ b_144) (htB _ b_56) ⟨by decide, by decide, by decide +kernel⟩ ⟨(Nat.le_of_ble_eq_true rfl), (Nat.le_of_ble_eq_true rfl)⟩ hP hD hS [] rfl (by decide) rfl rfl hl.1 rfl rfl (Nat.le_of_ble_eq_true rfl) d_Decimal_roundTo_16) hP hD hS hA [] [0] [0] rfl rfl (by decide) (by decide) rfl (by decide) (fun H locs hP hD hS => ?_)
    refine lv_lstore_n (lv' := [(3, .long o16), (0, .ref a0_0), (1, .int v1), (2, .int v2)]) hx hb d_Decimal_roundTo_19 rfl hl (by decide) rfl (fun ls hl => ?_)
    refine lv_aload_n hx hb d_Decimal_roundTo_20 rfl (lv_at hl 1 rfl) ?_
    refine va_get (D := D) (ci := 7) (v := .long v0.2.1) (C := R_Decimal) (T := F_Decimal) (N := 3) hx hb htB in_Decimal hown hK hP 0 rfl rfl 1 (by decide) (htB _ b_136) (fun _ h9 => h9) rfl d_Decimal_roundTo_21 ?_
    refine lv_lload_n hx hb d_Decimal_roundTo_24 rfl (lv_at hl 0 rfl) ?_
    obtain ⟨hc, h⟩ := x_chk h
    refine lv_lrem hx hb d_Decimal_roundTo_25 hc ?_
    refine lv_lstore (lv' := [(5, .long (v0.2.1 - v0.2.1 / o16 * o16)), (3, .long o16), (0, .ref a0_0), (1, .int v1), (2, .int v2)]) hx hb d_Decimal_roundTo_26 hl (by decide) rfl (fun ls hl => ?_)
    refine lv_lload hx hb d_Decimal_roundTo_28 (lv_at hl 0 rfl) ?_
    refine lv_lconst (v := 0) hx hb d_Decimal_roundTo_30 (by decide) ?_
    refine W.lcmp hx hb d_Decimal_roundTo_31 ?_
    refine lv_if_eq (tgt := 43) hx hb d_Decimal_roundTo_32 rfl (fun hc => ?_) (fun hc => ?_)
    · have h := (if_pos hc).symm.trans h
      exact w_Decimal_roundTo_43 X v0 v1 v2 o16 (v0.2.1 - v0.2.1 / o16 * o16) ls H locs h (lv_sub hl [2, 3, 4, 1, 0] rfl) hP hD hS
    have h := (if_neg hc).symm.trans h
    refine lv_iload_n hx hb d_Decimal_roundTo_35 rfl (lv_at hl 4 rfl) ?_
    refine lv_bipush (v := 7) hx hb d_Decimal_roundTo_36 (by decide) ?_
    refine lv_icmp_ne (tgt := 43) hx hb d_Decimal_roundTo_38 rfl (fun hc => ?_) (fun hc => ?_)
    · have h := (if_neg hc).symm.trans h
      exact w_Decimal_roundTo_43 X v0 v1 v2 o16 (v0.2.1 - v0.2.1 / o16 * o16) ls H locs h (lv_sub hl [2, 3, 4, 1, 0] rfl) hP hD hS
    have h := (if_pos hc).symm.trans h
    refine lv_iconst (v := 0) hx hb d_Decimal_roundTo_41 (by decide) ?_
    obtain rfl := Option.some.inj h
    exact W.zret (v := (0 : Int32)) (ty := .boolean) hx hb hr rfl (fun t ht hW => ⟨⟨(0 : Int32), (), rfl, rfl, by rw [ht]; exact hP, hD⟩, hS.F ht⟩) hS.2.2 d_Decimal_roundTo_42 hlocks
  have h := (if_neg hc).symm.trans h
  refine lv_iconst (v := 1) hx hb d_Decimal_roundTo_8 (by decide) ?_
  obtain rfl := Option.some.inj h
  exact W.zret (v := (1 : Int32)) (ty := .boolean) hx hb hr rfl (fun t ht hW => ⟨⟨(1 : Int32), (), rfl, rfl, by rw [ht]; exact hP, hD⟩, hS.F ht⟩) hS.2.2 d_Decimal_roundTo_9 hlocks

set_option maxHeartbeats 4000000 in
set_option maxRecDepth 100000 in
theorem c_Decimal_roundTo (l : Launch) (D : va_G) (cC cI : ClassId) (sz : Nat) (a0_0 : Nat) (v0 : T_Decimal) (v1 : Int32) (v2 : Int32) (out : O_Decimal_roundTo) (h : f_Decimal_roundTo v0 v1 v2 = some out) : Met l y_Decimal_roundTo (.code y_Decimal_roundTo b_Decimal_roundTo 9 (some .boolean) :: BIG) rm_Decimal_roundTo (va_Pc [.ref a0_0, .int v1, .int v2] (xPre D cC cI (wd_Decimal_roundTo cC cI a0_0 v0) sz)) (q_Decimal_roundTo D cC cI a0_0 out (va_A (wd_Decimal_roundTo cC cI a0_0 v0) sz)) 0 0 (va_A (wd_Decimal_roundTo cC cI a0_0 v0) sz) := by
  refine Met.ofW (cc := b_Decimal_roundTo) (maxL := 9) (ret := (some .boolean)) (by decide) rfl ?_
  intro p e s m args below meth c s₁ B hml hv
  obtain ⟨rfl, rfl, hP, hD0, hG, hZ⟩ := hv
  have hl := lv_entry [.ref a0_0, .int v1, .int v2] (n := 9) (Nat.le_of_ble_eq_true rfl)
  rw [lg_entry_eq]
  exact w_Decimal_roundTo (x_cx B hml hG hZ) v0 v1 v2 h hl hP hD0.self va_S.rf

