abbrev wd_NumberWriter_write (cC cI : ClassId) (a0_0 a0_1 a0_2 a1_0 a1_1 a1_2 a1_3 a1_4 a1_5 a1_6 a1_7 a1_8 a1_9 a1_10 a1_11 a1_12 a2_0 a2_1 : Nat) (v0 : T_NumberWriter) (v1 : T_Pattern) (v2 : T_Row) : va_W := [(a0_0, .inr (8, [.ref a0_1, .int v0.2.1, .ref a0_2, .int v0.2.2.2])), (a0_1, .inr (7, [.int v0.1.1, .long v0.1.2.1, .int v0.1.2.2])), (a0_2, .inl (cI, 6, .inl v0.2.2.1)), (a1_0, .inr (4, [.ref a1_1, .ref a1_7, .int v1.2.2.1, .int v1.2.2.2])), (a1_1, .inr (3, [.ref a1_2, .ref a1_4, .ref a1_5])), (a1_2, .inr (1, [.ref a1_3, .int v1.1.1.2])), (a1_3, .inl (cI, 120, .inl v1.1.1.1)), (a1_4, .inr (2, [.int v1.1.2.1.1, .int v1.1.2.1.2.1, .int v1.1.2.1.2.2.1, .int v1.1.2.1.2.2.2.1, .int v1.1.2.1.2.2.2.2.1, .int v1.1.2.1.2.2.2.2.2.1, .int v1.1.2.1.2.2.2.2.2.2])), (a1_5, .inr (1, [.ref a1_6, .int v1.1.2.2.2])), (a1_6, .inl (cI, 120, .inl v1.1.2.2.1)), (a1_7, .inr (3, [.ref a1_8, .ref a1_10, .ref a1_11])), (a1_8, .inr (1, [.ref a1_9, .int v1.2.1.1.2])), (a1_9, .inl (cI, 120, .inl v1.2.1.1.1)), (a1_10, .inr (2, [.int v1.2.1.2.1.1, .int v1.2.1.2.1.2.1, .int v1.2.1.2.1.2.2.1, .int v1.2.1.2.1.2.2.2.1, .int v1.2.1.2.1.2.2.2.2.1, .int v1.2.1.2.1.2.2.2.2.2.1, .int v1.2.1.2.1.2.2.2.2.2.2])), (a1_11, .inr (1, [.ref a1_12, .int v1.2.1.2.2.2])), (a1_12, .inl (cI, 120, .inl v1.2.1.2.2.1)), (a2_0, .inr (0, [.ref a2_1, .int v2.2])), (a2_1, .inl (cC, 120, .inl v2.1))]
abbrev O_NumberWriter_write : Type := T_NumberWriter × T_Row
abbrev q_NumberWriter_write (D : va_G) (cC cI : ClassId) (a0_0 a0_1 a0_2 a1_0 a1_1 a1_2 a1_3 a1_4 a1_5 a1_6 a1_7 a1_8 a1_9 a1_10 a1_11 a1_12 a2_0 a2_1 : Nat) (v1 : T_Pattern) (out : O_NumberWriter_write) (A : Nat → Prop) : Array Value → State → Outcome → State → Prop := va_Qv (fun _ : Unit => True) (fun _ t => va_P D classes (wd_NumberWriter_write cC cI a0_0 a0_1 a0_2 a1_0 a1_1 a1_2 a1_3 a1_4 a1_5 a1_6 a1_7 a1_8 a1_9 a1_10 a1_11 a1_12 a2_0 a2_1 out.1 v1 out.2) t.heap ∧ va_D A (wd_NumberWriter_write cC cI a0_0 a0_1 a0_2 a1_0 a1_1 a1_2 a1_3 a1_4 a1_5 a1_6 a1_7 a1_8 a1_9 a1_10 a1_11 a1_12 a2_0 a2_1 out.1 v1 out.2)) A
abbrev rm_NumberWriter_write : Room := { frames := 5, cells := 0, slots := 0, locals := 109 }
def J_NumberWriter_write_21 (p : Program) (l : Launch) (e : Env) (s : State) (m : MethodId) (args : Array Value) (below : List Frame) (meth : Method) (c : Code) (A : Nat → Prop) (D : va_G) (cC cI : ClassId) (a0_0 a0_1 a0_2 a1_0 a1_1 a1_2 a1_3 a1_4 a1_5 a1_6 a1_7 a1_8 a1_9 a1_10 a1_11 a1_12 a2_0 a2_1 : Nat) (v1 : T_Pattern) (out : O_NumberWriter_write) (k : T_NumberWriter → T_Row → Option O_NumberWriter_write) : Prop := ∀ (v0 : T_NumberWriter) (v2 : T_Row) (ls : Array Slot) (H : Heap) (locs : List Loc), k v0 v2 = some out → lv_has ls 5 [(0, .ref a0_0), (1, .ref a1_0), (2, .ref a2_0)] → va_P D classes (wd_NumberWriter_write cC cI a0_0 a0_1 a0_2 a1_0 a1_1 a1_2 a1_3 a1_4 a1_5 a1_6 a1_7 a1_8 a1_9 a1_10 a1_11 a1_12 a2_0 a2_1 v0 v1 v2) H → va_D A (wd_NumberWriter_write cC cI a0_0 a0_1 a0_2 a1_0 a1_1 a1_2 a1_3 a1_4 a1_5 a1_6 a1_7 a1_8 a1_9 a1_10 a1_11 a1_12 a2_0 a2_1 v0 v1 v2) → va_S A s.heap H locs → W p l e rm_NumberWriter_write s m args below meth c H locs 0 0 (MQ below (q_NumberWriter_write D cC cI a0_0 a0_1 a0_2 a1_0 a1_1 a1_2 a1_3 a1_4 a1_5 a1_6 a1_7 a1_8 a1_9 a1_10 a1_11 a1_12 a2_0 a2_1 v1 out A) args s 0 0 A) (F0 m 21 ls [.ref a1_1])
def f_NumberWriter_write_21 (v1 : T_Pattern) (v0 : T_NumberWriter) (v2 : T_Row) : Option O_NumberWriter_write := (f_Row_clear v2).bind (fun o32 => (f_Affix_show v1.1.1 o32).bind (fun o40 => (f_NumberWriter_writeInteger v0 v1.1.2.1 o40).bind (fun o47 => (f_NumberWriter_writeFraction o47.1 v1.1.2.1 o47.2).bind (fun o54 => (f_NumberWriter_writeExponent o54.1 v1.1.2.1 o54.2).bind (fun o61 => (f_Affix_show v1.1.2.2 o61.2).bind (fun o69 => some ((o61.1.1, o61.1.2.1, o61.1.2.2.1, (1 : Int32)), o69)))))))
set_option maxHeartbeats 4000000 in
set_option maxRecDepth 100000 in
theorem w_NumberWriter_write_21 {p : Program} {l : Launch} {e : Env} {s : State} {m : MethodId} {args : Array Value} {below : List Frame} {meth : Method} {c : Code} {A : Nat → Prop} {D : va_G} {cC cI : ClassId} {a0_0 a0_1 a0_2 a1_0 a1_1 a1_2 a1_3 a1_4 a1_5 a1_6 a1_7 a1_8 a1_9 a1_10 a1_11 a1_12 a2_0 a2_1 : Nat} {v1 : T_Pattern} (X : xCX p s m args meth c A D cC cI b_NumberWriter_write 5 R_NumberWriter none) {out : O_NumberWriter_write}   : J_NumberWriter_write_21 p l e s m args below meth c A D cC cI a0_0 a0_1 a0_2 a1_0 a1_1 a1_2 a1_3 a1_4 a1_5 a1_6 a1_7 a1_8 a1_9 a1_10 a1_11 a1_12 a2_0 a2_1 v1 out (f_NumberWriter_write_21 v1 ) := by
  obtain ⟨hx, hb, hml, hown, htB, ⟨hK, hN⟩, hZ, hA, hr, hlocks⟩ := id X
  intro v0 v2 ls H locs h hl hP hD hS
  refine lv_astore_n (lv' := [(3, .ref a1_1), (0, .ref a0_0), (1, .ref a1_0), (2, .ref a2_0)]) hx hb d_NumberWriter_write_21 rfl hl (by decide) rfl (fun ls hl => ?_)
  refine lv_aload_n hx hb d_NumberWriter_write_22 rfl (lv_at hl 2 rfl) ?_
  refine va_getN (D := D) (ci := 4) (v := .ref a1_1) (C := R_Pattern) (T := F_Pattern) (N := 4) hx hb htB in_Pattern hown hK hP 3 rfl rfl 0 (by decide) (va_Nw.use rfl (hN _ n_63)) (fun _ h9 => h9) rfl d_NumberWriter_write_23 ?_
  refine va_getN (D := D) (ci := 3) (v := .ref a1_4) (C := R_Part) (T := F_Part) (N := 3) hx hb htB in_Part hown hK hP 4 rfl rfl 1 (by decide) (va_Nw.use rfl (hN _ n_64)) (fun _ h9 => h9) rfl d_NumberWriter_write_26 ?_
  refine lv_astore (lv' := [(4, .ref a1_4), (3, .ref a1_1), (0, .ref a0_0), (1, .ref a1_0), (2, .ref a2_0)]) hx hb d_NumberWriter_write_29 hl (by decide) rfl (fun ls hl => ?_)
  refine lv_aload_n hx hb d_NumberWriter_write_31 rfl (lv_at hl 4 rfl) ?_
  obtain ⟨o32, ho32, h⟩ := x_bnd h
  refine x_callv (ws2 := (wd_NumberWriter_write cC cI a0_0 a0_1 a0_2 a1_0 a1_1 a1_2 a1_3 a1_4 a1_5 a1_6 a1_7 a1_8 a1_9 a1_10 a1_11 a1_12 a2_0 a2_1 v0 v1 o32)) (x_runVN (As := []) (rest := []) X (c_Row_clear l D cC cI H.size a2_0 a2_1 v2 o32 ho32) b_117 0 (hN _ n_65) (htB _ b_118) (htB _ b_119) (htB _ b_22) ⟨by decide, by decide, by decide +kernel⟩ ⟨(Nat.le_of_ble_eq_true rfl), (Nat.le_of_ble_eq_true rfl)⟩ 16 rfl rfl hP hD hS [16, 17] rfl (by decide) rfl rfl hl.1 rfl rfl (Nat.le_of_ble_eq_true rfl) d_NumberWriter_write_32) hP hD hS hA [16, 17] [0, 1, 2, 3, 4, 5, 6, 7, 8, 9, 10, 11, 12, 13, 14, 15] [0, 1, 2, 3, 4, 5, 6, 7, 8, 9, 10, 11, 12, 13, 14, 15, 16, 17] rfl rfl (by decide) (by decide) rfl (by decide) (fun H locs hP hD hS => ?_)
  refine lv_aload_n hx hb d_NumberWriter_write_35 rfl (lv_at hl 1 rfl) ?_
  refine va_getN (D := D) (ci := 3) (v := .ref a1_2) (C := R_Part) (T := F_Part) (N := 3) hx hb htB in_Part hown hK hP 4 rfl rfl 0 (by decide) (va_Nw.use rfl (hN _ n_66)) (fun _ h9 => h9) rfl d_NumberWriter_write_36 ?_
  refine lv_aload_n hx hb d_NumberWriter_write_39 rfl (lv_at hl 4 rfl) ?_
  obtain ⟨o40, ho40, h⟩ := x_bnd h
  refine x_callv (ws2 := (wd_NumberWriter_write cC cI a0_0 a0_1 a0_2 a1_0 a1_1 a1_2 a1_3 a1_4 a1_5 a1_6 a1_7 a1_8 a1_9 a1_10 a1_11 a1_12 a2_0 a2_1 v0 v1 o40)) (x_runVN (As := [.ref a2_0]) (rest := []) X (c_Affix_show l D cC cI H.size a1_2 a1_3 a2_0 a2_1 v1.1.1 o32 o40 ho40) b_201 1 (hN _ n_67) (htB _ b_202) (htB _ b_203) (htB _ b_9) ⟨by decide, by decide, by decide +kernel⟩ ⟨(Nat.le_of_ble_eq_true rfl), (Nat.le_of_ble_eq_true rfl)⟩ 5 rfl rfl hP hD hS [5, 6, 16, 17] rfl (by decide) rfl rfl hl.1 rfl rfl (Nat.le_of_ble_eq_true rfl) d_NumberWriter_write_40) hP hD hS hA [5, 6, 16, 17] [0, 1, 2, 3, 4, 7, 8, 9, 10, 11, 12, 13, 14, 15] [0, 1, 2, 3, 4, 14, 15, 5, 6, 7, 8, 9, 10, 11, 12, 13, 16, 17] rfl rfl (by decide) (by decide) rfl (by decide) (fun H locs hP hD hS => ?_)
  refine lv_aload_n hx hb d_NumberWriter_write_43 rfl (lv_at hl 2 rfl) ?_
  refine lv_aload hx hb d_NumberWriter_write_44 (lv_at hl 0 rfl) ?_
  refine lv_aload_n hx hb d_NumberWriter_write_46 rfl (lv_at hl 4 rfl) ?_
  obtain ⟨o47, ho47, h⟩ := x_bnd h
  refine x_callv (ws2 := (wd_NumberWriter_write cC cI a0_0 a0_1 a0_2 a1_0 a1_1 a1_2 a1_3 a1_4 a1_5 a1_6 a1_7 a1_8 a1_9 a1_10 a1_11 a1_12 a2_0 a2_1 o47.1 v1 o47.2)) (x_runV (As := [.ref a1_4, .ref a2_0]) (rest := []) X (c_NumberWriter_writeInteger l D cC cI H.size a0_0 a0_1 a0_2 a1_4 a2_0 a2_1 v0 v1.1.2.1 o40 o47 ho47) b_204 2 (htB _ b_207) (htB _ b_205) (htB _ b_206) (htB _ b_172) ⟨by decide, by decide, by decide +kernel⟩ ⟨(Nat.le_of_ble_eq_true rfl), (Nat.le_of_ble_eq_true rfl)⟩ 0 rfl rfl hP hD hS [0, 1, 2, 7, 16, 17] rfl (by decide) rfl rfl hl.1 rfl rfl (Nat.le_of_ble_eq_true rfl) d_NumberWriter_write_47) hP hD hS hA [0, 1, 2, 7, 16, 17] [3, 4, 5, 6, 8, 9, 10, 11, 12, 13, 14, 15] [12, 13, 14, 0, 1, 2, 3, 15, 4, 5, 6, 7, 8, 9, 10, 11, 16, 17] rfl rfl (by decide) (by decide) rfl (by decide) (fun H locs hP hD hS => ?_)
  refine lv_aload_n hx hb d_NumberWriter_write_50 rfl (lv_at hl 2 rfl) ?_
  refine lv_aload hx hb d_NumberWriter_write_51 (lv_at hl 0 rfl) ?_
  refine lv_aload_n hx hb d_NumberWriter_write_53 rfl (lv_at hl 4 rfl) ?_
  obtain ⟨o54, ho54, h⟩ := x_bnd h
  refine x_callv (ws2 := (wd_NumberWriter_write cC cI a0_0 a0_1 a0_2 a1_0 a1_1 a1_2 a1_3 a1_4 a1_5 a1_6 a1_7 a1_8 a1_9 a1_10 a1_11 a1_12 a2_0 a2_1 o54.1 v1 o54.2)) (x_runV (As := [.ref a1_4, .ref a2_0]) (rest := []) X (c_NumberWriter_writeFraction l D cC cI H.size a0_0 a0_1 a0_2 a1_4 a2_0 a2_1 o47.1 v1.1.2.1 o47.2 o54 ho54) b_208 2 (htB _ b_211) (htB _ b_209) (htB _ b_210) (htB _ b_172) ⟨by decide, by decide, by decide +kernel⟩ ⟨(Nat.le_of_ble_eq_true rfl), (Nat.le_of_ble_eq_true rfl)⟩ 0 rfl rfl hP hD hS [0, 1, 2, 7, 16, 17] rfl (by decide) rfl rfl hl.1 rfl rfl (Nat.le_of_ble_eq_true rfl) d_NumberWriter_write_54) hP hD hS hA [0, 1, 2, 7, 16, 17] [3, 4, 5, 6, 8, 9, 10, 11, 12, 13, 14, 15] [12, 13, 14, 0, 1, 2, 3, 15, 4, 5, 6, 7, 8, 9, 10, 11, 16, 17] rfl rfl (by decide) (by decide) rfl (by decide) (fun H locs hP hD hS => ?_)
  refine lv_aload_n hx hb d_NumberWriter_write_57 rfl (lv_at hl 2 rfl) ?_
  refine lv_aload hx hb d_NumberWriter_write_58 (lv_at hl 0 rfl) ?_
  refine lv_aload_n hx hb d_NumberWriter_write_60 rfl (lv_at hl 4 rfl) ?_
  obtain ⟨o61, ho61, h⟩ := x_bnd h
  refine x_callv (ws2 := (wd_NumberWriter_write cC cI a0_0 a0_1 a0_2 a1_0 a1_1 a1_2 a1_3 a1_4 a1_5 a1_6 a1_7 a1_8 a1_9 a1_10 a1_11 a1_12 a2_0 a2_1 o61.1 v1 o61.2)) (x_runV (As := [.ref a1_4, .ref a2_0]) (rest := []) X (c_NumberWriter_writeExponent l D cC cI H.size a0_0 a0_1 a0_2 a1_4 a2_0 a2_1 o54.1 v1.1.2.1 o54.2 o61 ho61) b_212 2 (htB _ b_215) (htB _ b_213) (htB _ b_214) (htB _ b_172) ⟨by decide, by decide, by decide +kernel⟩ ⟨(Nat.le_of_ble_eq_true rfl), (Nat.le_of_ble_eq_true rfl)⟩ 0 rfl rfl hP hD hS [0, 1, 2, 7, 16, 17] rfl (by decide) rfl rfl hl.1 rfl rfl (Nat.le_of_ble_eq_true rfl) d_NumberWriter_write_61) hP hD hS hA [0, 1, 2, 7, 16, 17] [3, 4, 5, 6, 8, 9, 10, 11, 12, 13, 14, 15] [12, 13, 14, 0, 1, 2, 3, 15, 4, 5, 6, 7, 8, 9, 10, 11, 16, 17] rfl rfl (by decide) (by decide) rfl (by decide) (fun H locs hP hD hS => ?_)
  refine lv_aload_n hx hb d_NumberWriter_write_64 rfl (lv_at hl 1 rfl) ?_
  refine va_getN (D := D) (ci := 3) (v := .ref a1_5) (C := R_Part) (T := F_Part) (N := 3) hx hb htB in_Part hown hK hP 4 rfl rfl 2 (by decide) (va_Nw.use rfl (hN _ n_68)) (fun _ h9 => h9) rfl d_NumberWriter_write_65 ?_
  refine lv_aload_n hx hb d_NumberWriter_write_68 rfl (lv_at hl 4 rfl) ?_
  obtain ⟨o69, ho69, h⟩ := x_bnd h
  refine x_callv (ws2 := (wd_NumberWriter_write cC cI a0_0 a0_1 a0_2 a1_0 a1_1 a1_2 a1_3 a1_4 a1_5 a1_6 a1_7 a1_8 a1_9 a1_10 a1_11 a1_12 a2_0 a2_1 o61.1 v1 o69)) (x_runVN (As := [.ref a2_0]) (rest := []) X (c_Affix_show l D cC cI H.size a1_5 a1_6 a2_0 a2_1 v1.1.2.2 o61.2 o69 ho69) b_201 1 (hN _ n_67) (htB _ b_202) (htB _ b_203) (htB _ b_9) ⟨by decide, by decide, by decide +kernel⟩ ⟨(Nat.le_of_ble_eq_true rfl), (Nat.le_of_ble_eq_true rfl)⟩ 8 rfl rfl hP hD hS [8, 9, 16, 17] rfl (by decide) rfl rfl hl.1 rfl rfl (Nat.le_of_ble_eq_true rfl) d_NumberWriter_write_69) hP hD hS hA [8, 9, 16, 17] [0, 1, 2, 3, 4, 5, 6, 7, 10, 11, 12, 13, 14, 15] [0, 1, 2, 3, 4, 5, 6, 7, 14, 15, 8, 9, 10, 11, 12, 13, 16, 17] rfl rfl (by decide) (by decide) rfl (by decide) (fun H locs hP hD hS => ?_)
  refine lv_aload_n hx hb d_NumberWriter_write_72 rfl (lv_at hl 2 rfl) ?_
  refine lv_iconst (v := 1) hx hb d_NumberWriter_write_73 (by decide) ?_
  refine va_put (D := D) (ci := 8) (v := .int (1 : Int32)) (ty := .boolean) (C := R_NumberWriter) (T := F_NumberWriter) (N := 4) hx hb htB in_NumberWriter t_NumberWriter t_NumberWriter_ok n_NumberWriter hown hK hP hD hS 0 rfl rfl 3 (by decide) (htB _ b_156) (fun _ h9 => h9) rfl (by decide +kernel) rfl rfl (Nat.le_of_ble_eq_true rfl) d_NumberWriter_write_74 (fun H locs hP hD hS => ?_)
  have hP : va_P D classes (wd_NumberWriter_write cC cI a0_0 a0_1 a0_2 a1_0 a1_1 a1_2 a1_3 a1_4 a1_5 a1_6 a1_7 a1_8 a1_9 a1_10 a1_11 a1_12 a2_0 a2_1 (o61.1.1, o61.1.2.1, o61.1.2.2.1, (1 : Int32)) v1 o69) H := hP
  have hD : va_D A (wd_NumberWriter_write cC cI a0_0 a0_1 a0_2 a1_0 a1_1 a1_2 a1_3 a1_4 a1_5 a1_6 a1_7 a1_8 a1_9 a1_10 a1_11 a1_12 a2_0 a2_1 (o61.1.1, o61.1.2.1, o61.1.2.2.1, (1 : Int32)) v1 o69) := hD
  obtain rfl := Option.some.inj h
  exact W.vret hx hb hr (fun t ht hW => ⟨⟨(), rfl, trivial, by rw [ht]; exact hP, hD⟩, hS.F ht⟩) hS.2.2 d_NumberWriter_write_77 hlocks

def J_NumberWriter_write_21_1 (p : Program) (l : Launch) (e : Env) (s : State) (m : MethodId) (args : Array Value) (below : List Frame) (meth : Method) (c : Code) (A : Nat → Prop) (D : va_G) (cC cI : ClassId) (a0_0 a0_1 a0_2 a1_0 a1_1 a1_2 a1_3 a1_4 a1_5 a1_6 a1_7 a1_8 a1_9 a1_10 a1_11 a1_12 a2_0 a2_1 : Nat) (v1 : T_Pattern) (out : O_NumberWriter_write) (k : T_NumberWriter → T_Row → Option O_NumberWriter_write) : Prop := ∀ (v0 : T_NumberWriter) (v2 : T_Row) (ls : Array Slot) (H : Heap) (locs : List Loc), k v0 v2 = some out → lv_has ls 5 [(0, .ref a0_0), (1, .ref a1_0), (2, .ref a2_0)] → va_P D classes (wd_NumberWriter_write cC cI a0_0 a0_1 a0_2 a1_0 a1_1 a1_2 a1_3 a1_4 a1_5 a1_6 a1_7 a1_8 a1_9 a1_10 a1_11 a1_12 a2_0 a2_1 v0 v1 v2) H → va_D A (wd_NumberWriter_write cC cI a0_0 a0_1 a0_2 a1_0 a1_1 a1_2 a1_3 a1_4 a1_5 a1_6 a1_7 a1_8 a1_9 a1_10 a1_11 a1_12 a2_0 a2_1 v0 v1 v2) → va_S A s.heap H locs → W p l e rm_NumberWriter_write s m args below meth c H locs 0 0 (MQ below (q_NumberWriter_write D cC cI a0_0 a0_1 a0_2 a1_0 a1_1 a1_2 a1_3 a1_4 a1_5 a1_6 a1_7 a1_8 a1_9 a1_10 a1_11 a1_12 a2_0 a2_1 v1 out A) args s 0 0 A) (F0 m 21 ls [.ref a1_7])
def f_NumberWriter_write_21_1 (v1 : T_Pattern) (v0 : T_NumberWriter) (v2 : T_Row) : Option O_NumberWriter_write := (f_Row_clear v2).bind (fun o32 => (f_Affix_show v1.2.1.1 o32).bind (fun o40 => (f_NumberWriter_writeInteger v0 v1.1.2.1 o40).bind (fun o47 => (f_NumberWriter_writeFraction o47.1 v1.1.2.1 o47.2).bind (fun o54 => (f_NumberWriter_writeExponent o54.1 v1.1.2.1 o54.2).bind (fun o61 => (f_Affix_show v1.2.1.2.2 o61.2).bind (fun o69 => some ((o61.1.1, o61.1.2.1, o61.1.2.2.1, (1 : Int32)), o69)))))))
set_option maxHeartbeats 4000000 in
set_option maxRecDepth 100000 in
theorem w_NumberWriter_write_21_1 {p : Program} {l : Launch} {e : Env} {s : State} {m : MethodId} {args : Array Value} {below : List Frame} {meth : Method} {c : Code} {A : Nat → Prop} {D : va_G} {cC cI : ClassId} {a0_0 a0_1 a0_2 a1_0 a1_1 a1_2 a1_3 a1_4 a1_5 a1_6 a1_7 a1_8 a1_9 a1_10 a1_11 a1_12 a2_0 a2_1 : Nat} {v1 : T_Pattern} (X : xCX p s m args meth c A D cC cI b_NumberWriter_write 5 R_NumberWriter none) {out : O_NumberWriter_write}   : J_NumberWriter_write_21_1 p l e s m args below meth c A D cC cI a0_0 a0_1 a0_2 a1_0 a1_1 a1_2 a1_3 a1_4 a1_5 a1_6 a1_7 a1_8 a1_9 a1_10 a1_11 a1_12 a2_0 a2_1 v1 out (f_NumberWriter_write_21_1 v1 ) := by
  obtain ⟨hx, hb, hml, hown, htB, ⟨hK, hN⟩, hZ, hA, hr, hlocks⟩ := id X
  intro v0 v2 ls H locs h hl hP hD hS
  refine lv_astore_n (lv' := [(3, .ref a1_7), (0, .ref a0_0), (1, .ref a1_0), (2, .ref a2_0)]) hx hb d_NumberWriter_write_21 rfl hl (by decide) rfl (fun ls hl => ?_)
  refine lv_aload_n hx hb d_NumberWriter_write_22 rfl (lv_at hl 2 rfl) ?_
  refine va_getN (D := D) (ci := 4) (v := .ref a1_1) (C := R_Pattern) (T := F_Pattern) (N := 4) hx hb htB in_Pattern hown hK hP 3 rfl rfl 0 (by decide) (va_Nw.use rfl (hN _ n_63)) (fun _ h9 => h9) rfl d_NumberWriter_write_23 ?_
  refine va_getN (D := D) (ci := 3) (v := .ref a1_4) (C := R_Part) (T := F_Part) (N := 3) hx hb htB in_Part hown hK hP 4 rfl rfl 1 (by decide) (va_Nw.use rfl (hN _ n_64)) (fun _ h9 => h9) rfl d_NumberWriter_write_26 ?_
  refine lv_astore (lv' := [(4, .ref a1_4), (3, .ref a1_7), (0, .ref a0_0), (1, .ref a1_0), (2, .ref a2_0)]) hx hb d_NumberWriter_write_29 hl (by decide) rfl (fun ls hl => ?_)
  refine lv_aload_n hx hb d_NumberWriter_write_31 rfl (lv_at hl 4 rfl) ?_
  obtain ⟨o32, ho32, h⟩ := x_bnd h
  refine x_callv (ws2 := (wd_NumberWriter_write cC cI a0_0 a0_1 a0_2 a1_0 a1_1 a1_2 a1_3 a1_4 a1_5 a1_6 a1_7 a1_8 a1_9 a1_10 a1_11 a1_12 a2_0 a2_1 v0 v1 o32)) (x_runVN (As := []) (rest := []) X (c_Row_clear l D cC cI H.size a2_0 a2_1 v2 o32 ho32) b_117 0 (hN _ n_65) (htB _ b_118) (htB _ b_119) (htB _ b_22) ⟨by decide, by decide, by decide +kernel⟩ ⟨(Nat.le_of_ble_eq_true rfl), (Nat.le_of_ble_eq_true rfl)⟩ 16 rfl rfl hP hD hS [16, 17] rfl (by decide) rfl rfl hl.1 rfl rfl (Nat.le_of_ble_eq_true rfl) d_NumberWriter_write_32) hP hD hS hA [16, 17] [0, 1, 2, 3, 4, 5, 6, 7, 8, 9, 10, 11, 12, 13, 14, 15] [0, 1, 2, 3, 4, 5, 6, 7, 8, 9, 10, 11, 12, 13, 14, 15, 16, 17] rfl rfl (by decide) (by decide) rfl (by decide) (fun H locs hP hD hS => ?_)
  refine lv_aload_n hx hb d_NumberWriter_write_35 rfl (lv_at hl 1 rfl) ?_
  refine va_getN (D := D) (ci := 3) (v := .ref a1_8) (C := R_Part) (T := F_Part) (N := 3) hx hb htB in_Part hown hK hP 10 rfl rfl 0 (by decide) (va_Nw.use rfl (hN _ n_66)) (fun _ h9 => h9) rfl d_NumberWriter_write_36 ?_
  refine lv_aload_n hx hb d_NumberWriter_write_39 rfl (lv_at hl 4 rfl) ?_
  obtain ⟨o40, ho40, h⟩ := x_bnd h
  refine x_callv (ws2 := (wd_NumberWriter_write cC cI a0_0 a0_1 a0_2 a1_0 a1_1 a1_2 a1_3 a1_4 a1_5 a1_6 a1_7 a1_8 a1_9 a1_10 a1_11 a1_12 a2_0 a2_1 v0 v1 o40)) (x_runVN (As := [.ref a2_0]) (rest := []) X (c_Affix_show l D cC cI H.size a1_8 a1_9 a2_0 a2_1 v1.2.1.1 o32 o40 ho40) b_201 1 (hN _ n_67) (htB _ b_202) (htB _ b_203) (htB _ b_9) ⟨by decide, by decide, by decide +kernel⟩ ⟨(Nat.le_of_ble_eq_true rfl), (Nat.le_of_ble_eq_true rfl)⟩ 11 rfl rfl hP hD hS [11, 12, 16, 17] rfl (by decide) rfl rfl hl.1 rfl rfl (Nat.le_of_ble_eq_true rfl) d_NumberWriter_write_40) hP hD hS hA [11, 12, 16, 17] [0, 1, 2, 3, 4, 5, 6, 7, 8, 9, 10, 13, 14, 15] [0, 1, 2, 3, 4, 5, 6, 7, 8, 9, 10, 14, 15, 11, 12, 13, 16, 17] rfl rfl (by decide) (by decide) rfl (by decide) (fun H locs hP hD hS => ?_)
  refine lv_aload_n hx hb d_NumberWriter_write_43 rfl (lv_at hl 2 rfl) ?_
  refine lv_aload hx hb d_NumberWriter_write_44 (lv_at hl 0 rfl) ?_
  refine lv_aload_n hx hb d_NumberWriter_write_46 rfl (lv_at hl 4 rfl) ?_
  obtain ⟨o47, ho47, h⟩ := x_bnd h
  refine x_callv (ws2 := (wd_NumberWriter_write cC cI a0_0 a0_1 a0_2 a1_0 a1_1 a1_2 a1_3 a1_4 a1_5 a1_6 a1_7 a1_8 a1_9 a1_10 a1_11 a1_12 a2_0 a2_1 o47.1 v1 o47.2)) (x_runV (As := [.ref a1_4, .ref a2_0]) (rest := []) X (c_NumberWriter_writeInteger l D cC cI H.size a0_0 a0_1 a0_2 a1_4 a2_0 a2_1 v0 v1.1.2.1 o40 o47 ho47) b_204 2 (htB _ b_207) (htB _ b_205) (htB _ b_206) (htB _ b_172) ⟨by decide, by decide, by decide +kernel⟩ ⟨(Nat.le_of_ble_eq_true rfl), (Nat.le_of_ble_eq_true rfl)⟩ 0 rfl rfl hP hD hS [0, 1, 2, 7, 16, 17] rfl (by decide) rfl rfl hl.1 rfl rfl (Nat.le_of_ble_eq_true rfl) d_NumberWriter_write_47) hP hD hS hA [0, 1, 2, 7, 16, 17] [3, 4, 5, 6, 8, 9, 10, 11, 12, 13, 14, 15] [12, 13, 14, 0, 1, 2, 3, 15, 4, 5, 6, 7, 8, 9, 10, 11, 16, 17] rfl rfl (by decide) (by decide) rfl (by decide) (fun H locs hP hD hS => ?_)
  refine lv_aload_n hx hb d_NumberWriter_write_50 rfl (lv_at hl 2 rfl) ?_
  refine lv_aload hx hb d_NumberWriter_write_51 (lv_at hl 0 rfl) ?_
  refine lv_aload_n hx hb d_NumberWriter_write_53 rfl (lv_at hl 4 rfl) ?_
  obtain ⟨o54, ho54, h⟩ := x_bnd h
  refine x_callv (ws2 := (wd_NumberWriter_write cC cI a0_0 a0_1 a0_2 a1_0 a1_1 a1_2 a1_3 a1_4 a1_5 a1_6 a1_7 a1_8 a1_9 a1_10 a1_11 a1_12 a2_0 a2_1 o54.1 v1 o54.2)) (x_runV (As := [.ref a1_4, .ref a2_0]) (rest := []) X (c_NumberWriter_writeFraction l D cC cI H.size a0_0 a0_1 a0_2 a1_4 a2_0 a2_1 o47.1 v1.1.2.1 o47.2 o54 ho54) b_208 2 (htB _ b_211) (htB _ b_209) (htB _ b_210) (htB _ b_172) ⟨by decide, by decide, by decide +kernel⟩ ⟨(Nat.le_of_ble_eq_true rfl), (Nat.le_of_ble_eq_true rfl)⟩ 0 rfl rfl hP hD hS [0, 1, 2, 7, 16, 17] rfl (by decide) rfl rfl hl.1 rfl rfl (Nat.le_of_ble_eq_true rfl) d_NumberWriter_write_54) hP hD hS hA [0, 1, 2, 7, 16, 17] [3, 4, 5, 6, 8, 9, 10, 11, 12, 13, 14, 15] [12, 13, 14, 0, 1, 2, 3, 15, 4, 5, 6, 7, 8, 9, 10, 11, 16, 17] rfl rfl (by decide) (by decide) rfl (by decide) (fun H locs hP hD hS => ?_)
  refine lv_aload_n hx hb d_NumberWriter_write_57 rfl (lv_at hl 2 rfl) ?_
  refine lv_aload hx hb d_NumberWriter_write_58 (lv_at hl 0 rfl) ?_
  refine lv_aload_n hx hb d_NumberWriter_write_60 rfl (lv_at hl 4 rfl) ?_
  obtain ⟨o61, ho61, h⟩ := x_bnd h
  refine x_callv (ws2 := (wd_NumberWriter_write cC cI a0_0 a0_1 a0_2 a1_0 a1_1 a1_2 a1_3 a1_4 a1_5 a1_6 a1_7 a1_8 a1_9 a1_10 a1_11 a1_12 a2_0 a2_1 o61.1 v1 o61.2)) (x_runV (As := [.ref a1_4, .ref a2_0]) (rest := []) X (c_NumberWriter_writeExponent l D cC cI H.size a0_0 a0_1 a0_2 a1_4 a2_0 a2_1 o54.1 v1.1.2.1 o54.2 o61 ho61) b_212 2 (htB _ b_215) (htB _ b_213) (htB _ b_214) (htB _ b_172) ⟨by decide, by decide, by decide +kernel⟩ ⟨(Nat.le_of_ble_eq_true rfl), (Nat.le_of_ble_eq_true rfl)⟩ 0 rfl rfl hP hD hS [0, 1, 2, 7, 16, 17] rfl (by decide) rfl rfl hl.1 rfl rfl (Nat.le_of_ble_eq_true rfl) d_NumberWriter_write_61) hP hD hS hA [0, 1, 2, 7, 16, 17] [3, 4, 5, 6, 8, 9, 10, 11, 12, 13, 14, 15] [12, 13, 14, 0, 1, 2, 3, 15, 4, 5, 6, 7, 8, 9, 10, 11, 16, 17] rfl rfl (by decide) (by decide) rfl (by decide) (fun H locs hP hD hS => ?_)
  refine lv_aload_n hx hb d_NumberWriter_write_64 rfl (lv_at hl 1 rfl) ?_
  refine va_getN (D := D) (ci := 3) (v := .ref a1_11) (C := R_Part) (T := F_Part) (N := 3) hx hb htB in_Part hown hK hP 10 rfl rfl 2 (by decide) (va_Nw.use rfl (hN _ n_68)) (fun _ h9 => h9) rfl d_NumberWriter_write_65 ?_
  refine lv_aload_n hx hb d_NumberWriter_write_68 rfl (lv_at hl 4 rfl) ?_
  obtain ⟨o69, ho69, h⟩ := x_bnd h
  refine x_callv (ws2 := (wd_NumberWriter_write cC cI a0_0 a0_1 a0_2 a1_0 a1_1 a1_2 a1_3 a1_4 a1_5 a1_6 a1_7 a1_8 a1_9 a1_10 a1_11 a1_12 a2_0 a2_1 o61.1 v1 o69)) (x_runVN (As := [.ref a2_0]) (rest := []) X (c_Affix_show l D cC cI H.size a1_11 a1_12 a2_0 a2_1 v1.2.1.2.2 o61.2 o69 ho69) b_201 1 (hN _ n_67) (htB _ b_202) (htB _ b_203) (htB _ b_9) ⟨by decide, by decide, by decide +kernel⟩ ⟨(Nat.le_of_ble_eq_true rfl), (Nat.le_of_ble_eq_true rfl)⟩ 14 rfl rfl hP hD hS [14, 15, 16, 17] rfl (by decide) rfl rfl hl.1 rfl rfl (Nat.le_of_ble_eq_true rfl) d_NumberWriter_write_69) hP hD hS hA [14, 15, 16, 17] [0, 1, 2, 3, 4, 5, 6, 7, 8, 9, 10, 11, 12, 13] [0, 1, 2, 3, 4, 5, 6, 7, 8, 9, 10, 11, 12, 13, 14, 15, 16, 17] rfl rfl (by decide) (by decide) rfl (by decide) (fun H locs hP hD hS => ?_)
  refine lv_aload_n hx hb d_NumberWriter_write_72 rfl (lv_at hl 2 rfl) ?_
  refine lv_iconst (v := 1) hx hb d_NumberWriter_write_73 (by decide) ?_
  refine va_put (D := D) (ci := 8) (v := .int (1 : Int32)) (ty := .boolean) (C := R_NumberWriter) (T := F_NumberWriter) (N := 4) hx hb htB in_NumberWriter t_NumberWriter t_NumberWriter_ok n_NumberWriter hown hK hP hD hS 0 rfl rfl 3 (by decide) (htB _ b_156) (fun _ h9 => h9) rfl (by decide +kernel) rfl rfl (Nat.le_of_ble_eq_true rfl) d_NumberWriter_write_74 (fun H locs hP hD hS => ?_)
  have hP : va_P D classes (wd_NumberWriter_write cC cI a0_0 a0_1 a0_2 a1_0 a1_1 a1_2 a1_3 a1_4 a1_5 a1_6 a1_7 a1_8 a1_9 a1_10 a1_11 a1_12 a2_0 a2_1 (o61.1.1, o61.1.2.1, o61.1.2.2.1, (1 : Int32)) v1 o69) H := hP
  have hD : va_D A (wd_NumberWriter_write cC cI a0_0 a0_1 a0_2 a1_0 a1_1 a1_2 a1_3 a1_4 a1_5 a1_6 a1_7 a1_8 a1_9 a1_10 a1_11 a1_12 a2_0 a2_1 (o61.1.1, o61.1.2.1, o61.1.2.2.1, (1 : Int32)) v1 o69) := hD
  obtain rfl := Option.some.inj h
  exact W.vret hx hb hr (fun t ht hW => ⟨⟨(), rfl, trivial, by rw [ht]; exact hP, hD⟩, hS.F ht⟩) hS.2.2 d_NumberWriter_write_77 hlocks

def f_NumberWriter_write (v0 : T_NumberWriter) (v1 : T_Pattern) (v2 : T_Row) : Option O_NumberWriter_write := (f_Decimal_isBelowZero v0.1).bind (fun o4 => (if o4 = 0 then f_NumberWriter_write_21 v1 v0 v2 else f_NumberWriter_write_21_1 v1 v0 v2))
set_option maxHeartbeats 4000000 in
set_option maxRecDepth 100000 in
theorem w_NumberWriter_write {p : Program} {l : Launch} {e : Env} {s : State} {m : MethodId} {args : Array Value} {below : List Frame} {meth : Method} {c : Code} {A : Nat → Prop} {D : va_G} {cC cI : ClassId} {a0_0 a0_1 a0_2 a1_0 a1_1 a1_2 a1_3 a1_4 a1_5 a1_6 a1_7 a1_8 a1_9 a1_10 a1_11 a1_12 a2_0 a2_1 : Nat} {v1 : T_Pattern} (X : xCX p s m args meth c A D cC cI b_NumberWriter_write 5 R_NumberWriter none) {out : O_NumberWriter_write} (v0 : T_NumberWriter) (v2 : T_Row) {ls : Array Slot} {H : Heap} {locs : List Loc} (h : f_NumberWriter_write v0 v1 v2 = some out) (hl : lv_has ls 5 [(0, .ref a0_0), (1, .ref a1_0), (2, .ref a2_0)]) (hP : va_P D classes (wd_NumberWriter_write cC cI a0_0 a0_1 a0_2 a1_0 a1_1 a1_2 a1_3 a1_4 a1_5 a1_6 a1_7 a1_8 a1_9 a1_10 a1_11 a1_12 a2_0 a2_1 v0 v1 v2) H) (hD : va_D A (wd_NumberWriter_write cC cI a0_0 a0_1 a0_2 a1_0 a1_1 a1_2 a1_3 a1_4 a1_5 a1_6 a1_7 a1_8 a1_9 a1_10 a1_11 a1_12 a2_0 a2_1 v0 v1 v2)) (hS : va_S A s.heap H locs) : W p l e rm_NumberWriter_write s m args below meth c H locs 0 0 (MQ below (q_NumberWriter_write D cC cI a0_0 a0_1 a0_2 a1_0 a1_1 a1_2 a1_3 a1_4 a1_5 a1_6 a1_7 a1_8 a1_9 a1_10 a1_11 a1_12 a2_0 a2_1 v1 out A) args s 0 0 A) (F0 m 0 ls []) := by
  obtain ⟨hx, hb, hml, hown, htB, ⟨hK, hN⟩, hZ, hA, hr, hlocks⟩ := id X
  refine lv_aload_n hx hb d_NumberWriter_write_0 rfl (lv_at hl 0 rfl) ?_
  refine va_get (D := D) (ci := 8) (v := .ref a0_1) (C := R_NumberWriter) (T := F_NumberWriter) (N := 4) hx hb htB in_NumberWriter hown hK hP 0 rfl rfl 0 (by decide) (htB _ b_158) (fun _ h9 => h9) rfl d_NumberWriter_write_1 ?_
  obtain ⟨o4, ho4, h⟩ := x_bnd h
  refine x_calli (r0 := o4) (ws2 := (wd_NumberWriter_write cC cI a0_0 a0_1 a0_2 a1_0 a1_1 a1_2 a1_3 a1_4 a1_5 a1_6 a1_7 a1_8 a1_9 a1_10 a1_11 a1_12 a2_0 a2_1 v0 v1 v2)) (x_runVN (As := []) (rest := []) X (c_Decimal_isBelowZero l D cC cI H.size a0_1 v0.1 o4 ho4) b_198 0 (hN _ n_62) (htB _ b_199) (htB _ b_200) (htB _ b_151) ⟨by decide, by decide, by decide +kernel⟩ ⟨(Nat.le_of_ble_eq_true rfl), (Nat.le_of_ble_eq_true rfl)⟩ 1 rfl rfl hP hD hS [1] rfl (by decide) rfl rfl hl.1 rfl rfl (Nat.le_of_ble_eq_true rfl) d_NumberWriter_write_4) hP hD hS hA [1] [0, 2, 3, 4, 5, 6, 7, 8, 9, 10, 11, 12, 13, 14, 15, 16, 17] [0, 17, 1, 2, 3, 4, 5, 6, 7, 8, 9, 10, 11, 12, 13, 14, 15, 16] rfl rfl (by decide) (by decide) rfl (by decide) (fun H locs hP hD hS => ?_)
  refine lv_if_eq (tgt := 17) hx hb d_NumberWriter_write_7 rfl (fun hc => ?_) (fun hc => ?_)
  · have h := (if_pos hc).symm.trans h
    refine lv_aload_n hx hb d_NumberWriter_write_17 rfl (lv_at hl 1 rfl) ?_
    refine va_getN (D := D) (ci := 4) (v := .ref a1_1) (C := R_Pattern) (T := F_Pattern) (N := 4) hx hb htB in_Pattern hown hK hP 3 rfl rfl 0 (by decide) (va_Nw.use rfl (hN _ n_63)) (fun _ h9 => h9) rfl d_NumberWriter_write_18 ?_
    exact w_NumberWriter_write_21 X v0 v2 ls H locs h (lv_sub hl [0, 1, 2] rfl) hP hD hS
  have h := (if_neg hc).symm.trans h
  refine lv_aload_n hx hb d_NumberWriter_write_10 rfl (lv_at hl 1 rfl) ?_
  refine va_getN (D := D) (ci := 4) (v := .ref a1_7) (C := R_Pattern) (T := F_Pattern) (N := 4) hx hb htB in_Pattern hown hK hP 3 rfl rfl 1 (by decide) (va_Nw.use rfl (hN _ n_69)) (fun _ h9 => h9) rfl d_NumberWriter_write_11 ?_
  refine lv_goto (tgt := 21) hx hb d_NumberWriter_write_14 rfl ?_
  exact w_NumberWriter_write_21_1 X v0 v2 ls H locs h (lv_sub hl [0, 1, 2] rfl) hP hD hS

set_option maxHeartbeats 4000000 in
set_option maxRecDepth 100000 in
theorem c_NumberWriter_write (l : Launch) (D : va_G) (cC cI : ClassId) (sz : Nat) (a0_0 a0_1 a0_2 a1_0 a1_1 a1_2 a1_3 a1_4 a1_5 a1_6 a1_7 a1_8 a1_9 a1_10 a1_11 a1_12 a2_0 a2_1 : Nat) (v0 : T_NumberWriter) (v1 : T_Pattern) (v2 : T_Row) (out : O_NumberWriter_write) (h : f_NumberWriter_write v0 v1 v2 = some out) : Met l y_NumberWriter_write (.code y_NumberWriter_write b_NumberWriter_write 5 none :: BIG) rm_NumberWriter_write (va_Pc [.ref a0_0, .ref a1_0, .ref a2_0] (xPre D cC cI (wd_NumberWriter_write cC cI a0_0 a0_1 a0_2 a1_0 a1_1 a1_2 a1_3 a1_4 a1_5 a1_6 a1_7 a1_8 a1_9 a1_10 a1_11 a1_12 a2_0 a2_1 v0 v1 v2) sz)) (q_NumberWriter_write D cC cI a0_0 a0_1 a0_2 a1_0 a1_1 a1_2 a1_3 a1_4 a1_5 a1_6 a1_7 a1_8 a1_9 a1_10 a1_11 a1_12 a2_0 a2_1 v1 out (va_A (wd_NumberWriter_write cC cI a0_0 a0_1 a0_2 a1_0 a1_1 a1_2 a1_3 a1_4 a1_5 a1_6 a1_7 a1_8 a1_9 a1_10 a1_11 a1_12 a2_0 a2_1 v0 v1 v2) sz)) 0 0 (va_A (wd_NumberWriter_write cC cI a0_0 a0_1 a0_2 a1_0 a1_1 a1_2 a1_3 a1_4 a1_5 a1_6 a1_7 a1_8 a1_9 a1_10 a1_11 a1_12 a2_0 a2_1 v0 v1 v2) sz) := by
  refine Met.ofW (cc := b_NumberWriter_write) (maxL := 5) (ret := none) (by decide) rfl ?_
  intro p e s m args below meth c s₁ B hml hv
  obtain ⟨rfl, rfl, hP, hD0, hG, hZ⟩ := hv
  have hl := lv_entry [.ref a0_0, .ref a1_0, .ref a2_0] (n := 5) (Nat.le_of_ble_eq_true rfl)
  rw [lg_entry_eq]
  exact w_NumberWriter_write (x_cx B hml hG hZ) v0 v2 h hl hP hD0.self va_S.rf

abbrev wd_NumberReader_startBody (cC cI : ClassId) (a0_0 : Nat) (v0 : T_NumberReader) : va_W := [(a0_0, .inr (9, [.int v0.1, .int v0.2.1, .int v0.2.2.1, .int v0.2.2.2.1, .int v0.2.2.2.2.1, .int v0.2.2.2.2.2.1, .int v0.2.2.2.2.2.2.1, .long v0.2.2.2.2.2.2.2.1, .int v0.2.2.2.2.2.2.2.2.1, .int v0.2.2.2.2.2.2.2.2.2.1, .int v0.2.2.2.2.2.2.2.2.2.2]))]
abbrev O_NumberReader_startBody : Type := T_NumberReader
abbrev q_NumberReader_startBody (D : va_G) (cC cI : ClassId) (a0_0 : Nat)  (out : O_NumberReader_startBody) (A : Nat → Prop) : Array Value → State → Outcome → State → Prop := va_Qv (fun _ : Unit => True) (fun _ t => va_P D classes (wd_NumberReader_startBody cC cI a0_0 out) t.heap ∧ va_D A (wd_NumberReader_startBody cC cI a0_0 out)) A
abbrev rm_NumberReader_startBody : Room := { frames := 0, cells := 0, slots := 0, locals := 0 }
def f_NumberReader_startBody (v0 : T_NumberReader) (v1 : Int32) (v2 : Int32) : Option O_NumberReader_startBody := some (v1, v2, v1, v0.2.2.2.1, (0 : Int32), (0 : Int32), (0 : Int32), (0 : Int64), (0 : Int32), (0 : Int32), v0.2.2.2.2.2.2.2.2.2.2)
set_option maxHeartbeats 4000000 in
set_option maxRecDepth 100000 in
theorem w_NumberReader_startBody {p : Program} {l : Launch} {e : Env} {s : State} {m : MethodId} {args : Array Value} {below : List Frame} {meth : Method} {c : Code} {A : Nat → Prop} {D : va_G} {cC cI : ClassId} {a0_0 : Nat} (X : xCX p s m args meth c A D cC cI b_NumberReader_startBody 3 R_NumberReader none) {out : O_NumberReader_startBody} (v0 : T_NumberReader) (v1 : Int32) (v2 : Int32) {ls : Array Slot} {H : Heap} {locs : List Loc} (h : f_NumberReader_startBody v0 v1 v2 = some out) (hl : lv_has ls 3 [(0, .ref a0_0), (1, .int v1), (2, .int v2)]) (hP : va_P D classes (wd_NumberReader_startBody cC cI a0_0 v0) H) (hD : va_D A (wd_NumberReader_startBody cC cI a0_0 v0)) (hS : va_S A s.heap H locs) : W p l e rm_NumberReader_startBody s m args below meth c H locs 0 0 (MQ below (q_NumberReader_startBody D cC cI a0_0 out A) args s 0 0 A) (F0 m 0 ls []) := by
  obtain ⟨hx, hb, hml, hown, htB, ⟨hK, hN⟩, hZ, hA, hr, hlocks⟩ := id X
  refine lv_aload_n hx hb d_NumberReader_startBody_0 rfl (lv_at hl 0 rfl) ?_
  refine lv_iload_n hx hb d_NumberReader_startBody_1 rfl (lv_at hl 1 rfl) ?_
  refine va_put (D := D) (ci := 9) (v := .int v1) (ty := .int) (C := R_NumberReader) (T := F_NumberReader) (N := 11) hx hb htB in_NumberReader t_NumberReader t_NumberReader_ok n_NumberReader hown hK hP hD hS 0 rfl rfl 0 (by decide) (htB _ b_216) (fun _ h9 => h9) rfl (by decide +kernel) rfl rfl (Nat.le_of_ble_eq_true rfl) d_NumberReader_startBody_2 (fun H locs hP hD hS => ?_)
  have hP : va_P D classes (wd_NumberReader_startBody cC cI a0_0 (v1, v0.2.1, v0.2.2.1, v0.2.2.2.1, v0.2.2.2.2.1, v0.2.2.2.2.2.1, v0.2.2.2.2.2.2.1, v0.2.2.2.2.2.2.2.1, v0.2.2.2.2.2.2.2.2.1, v0.2.2.2.2.2.2.2.2.2.1, v0.2.2.2.2.2.2.2.2.2.2)) H := hP
  have hD : va_D A (wd_NumberReader_startBody cC cI a0_0 (v1, v0.2.1, v0.2.2.1, v0.2.2.2.1, v0.2.2.2.2.1, v0.2.2.2.2.2.1, v0.2.2.2.2.2.2.1, v0.2.2.2.2.2.2.2.1, v0.2.2.2.2.2.2.2.2.1, v0.2.2.2.2.2.2.2.2.2.1, v0.2.2.2.2.2.2.2.2.2.2)) := hD
  refine lv_aload_n hx hb d_NumberReader_startBody_5 rfl (lv_at hl 0 rfl) ?_
  refine lv_iload_n hx hb d_NumberReader_startBody_6 rfl (lv_at hl 2 rfl) ?_
  refine va_put (D := D) (ci := 9) (v := .int v2) (ty := .int) (C := R_NumberReader) (T := F_NumberReader) (N := 11) hx hb htB in_NumberReader t_NumberReader t_NumberReader_ok n_NumberReader hown hK hP hD hS 0 rfl rfl 1 (by decide) (htB _ b_217) (fun _ h9 => h9) rfl (by decide +kernel) rfl rfl (Nat.le_of_ble_eq_true rfl) d_NumberReader_startBody_7 (fun H locs hP hD hS => ?_)
  have hP : va_P D classes (wd_NumberReader_startBody cC cI a0_0 (v1, v2, v0.2.2.1, v0.2.2.2.1, v0.2.2.2.2.1, v0.2.2.2.2.2.1, v0.2.2.2.2.2.2.1, v0.2.2.2.2.2.2.2.1, v0.2.2.2.2.2.2.2.2.1, v0.2.2.2.2.2.2.2.2.2.1, v0.2.2.2.2.2.2.2.2.2.2)) H := hP
  have hD : va_D A (wd_NumberReader_startBody cC cI a0_0 (v1, v2, v0.2.2.1, v0.2.2.2.1, v0.2.2.2.2.1, v0.2.2.2.2.2.1, v0.2.2.2.2.2.2.1, v0.2.2.2.2.2.2.2.1, v0.2.2.2.2.2.2.2.2.1, v0.2.2.2.2.2.2.2.2.2.1, v0.2.2.2.2.2.2.2.2.2.2)) := hD
  refine lv_aload_n hx hb d_NumberReader_startBody_10 rfl (lv_at hl 0 rfl) ?_
  refine lv_iload_n hx hb d_NumberReader_startBody_11 rfl (lv_at hl 1 rfl) ?_
  refine va_put (D := D) (ci := 9) (v := .int v1) (ty := .int) (C := R_NumberReader) (T := F_NumberReader) (N := 11) hx hb htB in_NumberReader t_NumberReader t_NumberReader_ok n_NumberReader hown hK hP hD hS 0 rfl rfl 2 (by decide) (htB _ b_218) (fun _ h9 => h9) rfl (by decide +kernel) rfl rfl (Nat.le_of_ble_eq_true rfl) d_NumberReader_startBody_12 (fun H locs hP hD hS => ?_)
  have hP : va_P D classes (wd_NumberReader_startBody cC cI a0_0 (v1, v2, v1, v0.2.2.2.1, v0.2.2.2.2.1, v0.2.2.2.2.2.1, v0.2.2.2.2.2.2.1, v0.2.2.2.2.2.2.2.1, v0.2.2.2.2.2.2.2.2.1, v0.2.2.2.2.2.2.2.2.2.1, v0.2.2.2.2.2.2.2.2.2.2)) H := hP
  have hD : va_D A (wd_NumberReader_startBody cC cI a0_0 (v1, v2, v1, v0.2.2.2.1, v0.2.2.2.2.1, v0.2.2.2.2.2.1, v0.2.2.2.2.2.2.1, v0.2.2.2.2.2.2.2.1, v0.2.2.2.2.2.2.2.2.1, v0.2.2.2.2.2.2.2.2.2.1, v0.2.2.2.2.2.2.2.2.2.2)) := hD
  refine lv_aload_n hx hb d_NumberReader_startBody_15 rfl (lv_at hl 0 rfl) ?_
  refine lv_iconst (v := 0) hx hb d_NumberReader_startBody_16 (by decide) ?_
  refine va_put (D := D) (ci := 9) (v := .int (0 : Int32)) (ty := .int) (C := R_NumberReader) (T := F_NumberReader) (N := 11) hx hb htB in_NumberReader t_NumberReader t_NumberReader_ok n_NumberReader hown hK hP hD hS 0 rfl rfl 4 (by decide) (htB _ b_219) (fun _ h9 => h9) rfl (by decide +kernel) rfl rfl (Nat.le_of_ble_eq_true rfl) d_NumberReader_startBody_17 (fun H locs hP hD hS => ?_)
  have hP : va_P D classes (wd_NumberReader_startBody cC cI a0_0 (v1, v2, v1, v0.2.2.2.1, (0 : Int32), v0.2.2.2.2.2.1, v0.2.2.2.2.2.2.1, v0.2.2.2.2.2.2.2.1, v0.2.2.2.2.2.2.2.2.1, v0.2.2.2.2.2.2.2.2.2.1, v0.2.2.2.2.2.2.2.2.2.2)) H := hP
  have hD : va_D A (wd_NumberReader_startBody cC cI a0_0 (v1, v2, v1, v0.2.2.2.1, (0 : Int32), v0.2.2.2.2.2.1, v0.2.2.2.2.2.2.1, v0.2.2.2.2.2.2.2.1, v0.2.2.2.2.2.2.2.2.1, v0.2.2.2.2.2.2.2.2.2.1, v0.2.2.2.2.2.2.2.2.2.2)) := hD
  refine lv_aload_n hx hb d_NumberReader_startBody_20 rfl (lv_at hl 0 rfl) ?_
  refine lv_iconst (v := 0) hx hb d_NumberReader_startBody_21 (by decide) ?_
  refine va_put (D := D) (ci := 9) (v := .int (0 : Int32)) (ty := .int) (C := R_NumberReader) (T := F_NumberReader) (N := 11) hx hb htB in_NumberReader t_NumberReader t_NumberReader_ok n_NumberReader hown hK hP hD hS 0 rfl rfl 5 (by decide) (htB _ b_220) (fun _ h9 => h9) rfl (by decide +kernel) rfl rfl (Nat.le_of_ble_eq_true rfl) d_NumberReader_startBody_22 (fun H locs hP hD hS => ?_)
  have hP : va_P D classes (wd_NumberReader_startBody cC cI a0_0 (v1, v2, v1, v0.2.2.2.1, (0 : Int32), (0 : Int32), v0.2.2.2.2.2.2.1, v0.2.2.2.2.2.2.2.1, v0.2.2.2.2.2.2.2.2.1, v0.2.2.2.2.2.2.2.2.2.1, v0.2.2.2.2.2.2.2.2.2.2)) H := hP
  have hD : va_D A (wd_NumberReader_startBody cC cI a0_0 (v1, v2, v1, v0.2.2.2.1, (0 : Int32), (0 : Int32), v0.2.2.2.2.2.2.1, v0.2.2.2.2.2.2.2.1, v0.2.2.2.2.2.2.2.2.1, v0.2.2.2.2.2.2.2.2.2.1, v0.2.2.2.2.2.2.2.2.2.2)) := hD
  refine lv_aload_n hx hb d_NumberReader_startBody_25 rfl (lv_at hl 0 rfl) ?_
  refine lv_iconst (v := 0) hx hb d_NumberReader_startBody_26 (by decide) ?_
  refine va_put (D := D) (ci := 9) (v := .int (0 : Int32)) (ty := .int) (C := R_NumberReader) (T := F_NumberReader) (N := 11) hx hb htB in_NumberReader t_NumberReader t_NumberReader_ok n_NumberReader hown hK hP hD hS 0 rfl rfl 6 (by decide) (htB _ b_221) (fun _ h9 => h9) rfl (by decide +kernel) rfl rfl (Nat.le_of_ble_eq_true rfl) d_NumberReader_startBody_27 (fun H locs hP hD hS => ?_)
  have hP : va_P D classes (wd_NumberReader_startBody cC cI a0_0 (v1, v2, v1, v0.2.2.2.1, (0 : Int32), (0 : Int32), (0 : Int32), v0.2.2.2.2.2.2.2.1, v0.2.2.2.2.2.2.2.2.1, v0.2.2.2.2.2.2.2.2.2.1, v0.2.2.2.2.2.2.2.2.2.2)) H := hP
  have hD : va_D A (wd_NumberReader_startBody cC cI a0_0 (v1, v2, v1, v0.2.2.2.1, (0 : Int32), (0 : Int32), (0 : Int32), v0.2.2.2.2.2.2.2.1, v0.2.2.2.2.2.2.2.2.1, v0.2.2.2.2.2.2.2.2.2.1, v0.2.2.2.2.2.2.2.2.2.2)) := hD
  refine lv_aload_n hx hb d_NumberReader_startBody_30 rfl (lv_at hl 0 rfl) ?_
  refine lv_lconst (v := 0) hx hb d_NumberReader_startBody_31 (by decide) ?_
  refine va_put (D := D) (ci := 9) (v := .long (0 : Int64)) (ty := .long) (C := R_NumberReader) (T := F_NumberReader) (N := 11) hx hb htB in_NumberReader t_NumberReader t_NumberReader_ok n_NumberReader hown hK hP hD hS 0 rfl rfl 7 (by decide) (htB _ b_222) (fun _ h9 => h9) rfl (by decide +kernel) rfl rfl (Nat.le_of_ble_eq_true rfl) d_NumberReader_startBody_32 (fun H locs hP hD hS => ?_)
  have hP : va_P D classes (wd_NumberReader_startBody cC cI a0_0 (v1, v2, v1, v0.2.2.2.1, (0 : Int32), (0 : Int32), (0 : Int32), (0 : Int64), v0.2.2.2.2.2.2.2.2.1, v0.2.2.2.2.2.2.2.2.2.1, v0.2.2.2.2.2.2.2.2.2.2)) H := hP
  have hD : va_D A (wd_NumberReader_startBody cC cI a0_0 (v1, v2, v1, v0.2.2.2.1, (0 : Int32), (0 : Int32), (0 : Int32), (0 : Int64), v0.2.2.2.2.2.2.2.2.1, v0.2.2.2.2.2.2.2.2.2.1, v0.2.2.2.2.2.2.2.2.2.2)) := hD
  refine lv_aload_n hx hb d_NumberReader_startBody_35 rfl (lv_at hl 0 rfl) ?_
  refine lv_iconst (v := 0) hx hb d_NumberReader_startBody_36 (by decide) ?_
  refine va_put (D := D) (ci := 9) (v := .int (0 : Int32)) (ty := .int) (C := R_NumberReader) (T := F_NumberReader) (N := 11) hx hb htB in_NumberReader t_NumberReader t_NumberReader_ok n_NumberReader hown hK hP hD hS 0 rfl rfl 8 (by decide) (htB _ b_223) (fun _ h9 => h9) rfl (by decide +kernel) rfl rfl (Nat.le_of_ble_eq_true rfl) d_NumberReader_startBody_37 (fun H locs hP hD hS => ?_)
  have hP : va_P D classes (wd_NumberReader_startBody cC cI a0_0 (v1, v2, v1, v0.2.2.2.1, (0 : Int32), (0 : Int32), (0 : Int32), (0 : Int64), (0 : Int32), v0.2.2.2.2.2.2.2.2.2.1, v0.2.2.2.2.2.2.2.2.2.2)) H := hP
  have hD : va_D A (wd_NumberReader_startBody cC cI a0_0 (v1, v2, v1, v0.2.2.2.1, (0 : Int32), (0 : Int32), (0 : Int32), (0 : Int64), (0 : Int32), v0.2.2.2.2.2.2.2.2.2.1, v0.2.2.2.2.2.2.2.2.2.2)) := hD
  refine lv_aload_n hx hb d_NumberReader_startBody_40 rfl (lv_at hl 0 rfl) ?_
  refine lv_iconst (v := 0) hx hb d_NumberReader_startBody_41 (by decide) ?_
  refine va_put (D := D) (ci := 9) (v := .int (0 : Int32)) (ty := .int) (C := R_NumberReader) (T := F_NumberReader) (N := 11) hx hb htB in_NumberReader t_NumberReader t_NumberReader_ok n_NumberReader hown hK hP hD hS 0 rfl rfl 9 (by decide) (htB _ b_224) (fun _ h9 => h9) rfl (by decide +kernel) rfl rfl (Nat.le_of_ble_eq_true rfl) d_NumberReader_startBody_42 (fun H locs hP hD hS => ?_)
  have hP : va_P D classes (wd_NumberReader_startBody cC cI a0_0 (v1, v2, v1, v0.2.2.2.1, (0 : Int32), (0 : Int32), (0 : Int32), (0 : Int64), (0 : Int32), (0 : Int32), v0.2.2.2.2.2.2.2.2.2.2)) H := hP
  have hD : va_D A (wd_NumberReader_startBody cC cI a0_0 (v1, v2, v1, v0.2.2.2.1, (0 : Int32), (0 : Int32), (0 : Int32), (0 : Int64), (0 : Int32), (0 : Int32), v0.2.2.2.2.2.2.2.2.2.2)) := hD
  obtain rfl := Option.some.inj h
  exact W.vret hx hb hr (fun t ht hW => ⟨⟨(), rfl, trivial, by rw [ht]; exact hP, hD⟩, hS.F ht⟩) hS.2.2 d_NumberReader_startBody_45 hlocks

set_option maxHeartbeats 4000000 in
set_option maxRecDepth 100000 in
theorem c_NumberReader_startBody (l : Launch) (D : va_G) (cC cI : ClassId) (sz : Nat) (a0_0 : Nat) (v0 : T_NumberReader) (v1 : Int32) (v2 : Int32) (out : O_NumberReader_startBody) (h : f_NumberReader_startBody v0 v1 v2 = some out) : Met l y_NumberReader_startBody (.code y_NumberReader_startBody b_NumberReader_startBody 3 none :: BIG) rm_NumberReader_startBody (va_Pc [.ref a0_0, .int v1, .int v2] (xPre D cC cI (wd_NumberReader_startBody cC cI a0_0 v0) sz)) (q_NumberReader_startBody D cC cI a0_0 out (va_A (wd_NumberReader_startBody cC cI a0_0 v0) sz)) 0 0 (va_A (wd_NumberReader_startBody cC cI a0_0 v0) sz) := by
  refine Met.ofW (cc := b_NumberReader_startBody) (maxL := 3) (ret := none) (by decide) rfl ?_
  intro p e s m args below meth c s₁ B hml hv
  obtain ⟨rfl, rfl, hP, hD0, hG, hZ⟩ := hv
  have hl := lv_entry [.ref a0_0, .int v1, .int v2] (n := 3) (Nat.le_of_ble_eq_true rfl)
  rw [lg_entry_eq]
  exact w_NumberReader_startBody (x_cx B hml hG hZ) v0 v1 v2 h hl hP hD0.self va_S.rf

abbrev wd_NumberReader_signedDigits (cC cI : ClassId) (a0_0 : Nat) (v0 : T_NumberReader) : va_W := [(a0_0, .inr (9, [.int v0.1, .int v0.2.1, .int v0.2.2.1, .int v0.2.2.2.1, .int v0.2.2.2.2.1, .int v0.2.2.2.2.2.1, .int v0.2.2.2.2.2.2.1, .long v0.2.2.2.2.2.2.2.1, .int v0.2.2.2.2.2.2.2.2.1, .int v0.2.2.2.2.2.2.2.2.2.1, .int v0.2.2.2.2.2.2.2.2.2.2]))]
abbrev O_NumberReader_signedDigits : Type := Int64
abbrev q_NumberReader_signedDigits (D : va_G) (cC cI : ClassId) (a0_0 : Nat) (v0 : T_NumberReader) (out : O_NumberReader_signedDigits) (A : Nat → Prop) : Array Value → State → Outcome → State → Prop := va_Ql (fun r (_ : Unit) => r = out) (fun _ t => va_P D classes (wd_NumberReader_signedDigits cC cI a0_0 v0) t.heap ∧ va_D A (wd_NumberReader_signedDigits cC cI a0_0 v0)) A
abbrev rm_NumberReader_signedDigits : Room := { frames := 0, cells := 0, slots := 0, locals := 0 }
def J_NumberReader_signedDigits_19 (p : Program) (l : Launch) (e : Env) (s : State) (m : MethodId) (args : Array Value) (below : List Frame) (meth : Method) (c : Code) (A : Nat → Prop) (D : va_G) (cC cI : ClassId) (a0_0 : Nat) (v0 : T_NumberReader) (out : O_NumberReader_signedDigits) (k : Int64 → Option O_NumberReader_signedDigits) : Prop := ∀ (s0 : Int64) (ls : Array Slot) (H : Heap) (locs : List Loc), k s0 = some out → lv_has ls 1 [] → va_P D classes (wd_NumberReader_signedDigits cC cI a0_0 v0) H → va_D A (wd_NumberReader_signedDigits cC cI a0_0 v0) → va_S A s.heap H locs → W p l e rm_NumberReader_signedDigits s m args below meth c H locs 0 0 (MQ below (q_NumberReader_signedDigits D cC cI a0_0 v0 out A) args s 0 0 A) (F0 m 19 ls [.long s0])
def f_NumberReader_signedDigits_19 (v0 : T_NumberReader) (s0 : Int64) : Option O_NumberReader_signedDigits := some s0
set_option maxHeartbeats 4000000 in
set_option maxRecDepth 100000 in
theorem w_NumberReader_signedDigits_19 {p : Program} {l : Launch} {e : Env} {s : State} {m : MethodId} {args : Array Value} {below : List Frame} {meth : Method} {c : Code} {A : Nat → Prop} {D : va_G} {cC cI : ClassId} {a0_0 : Nat} {v0 : T_NumberReader} (X : xCX p s m args meth c A D cC cI b_NumberReader_signedDigits 1 R_NumberReader (some .long)) {out : O_NumberReader_signedDigits}   : J_NumberReader_signedDigits_19 p l e s m args below meth c A D cC cI a0_0 v0 out (f_NumberReader_signedDigits_19 v0 ) := by
  obtain ⟨hx, hb, hml, hown, htB, ⟨hK, hN⟩, hZ, hA, hr, hlocks⟩ := id X
  intro s0 ls H locs h hl hP hD hS
  obtain rfl := Option.some.inj h
  exact W.lret (v := s0) hx hb hr (fun t ht hW => ⟨⟨s0, (), rfl, rfl, by rw [ht]; exact hP, hD⟩, hS.F ht⟩) hS.2.2 d_NumberReader_signedDigits_19 hlocks

def f_NumberReader_signedDigits (v0 : T_NumberReader) : Option O_NumberReader_signedDigits := (if v0.2.2.2.1 = 0 then f_NumberReader_signedDigits_19 v0 v0.2.2.2.2.2.2.2.1 else f_NumberReader_signedDigits_19 v0 (-v0.2.2.2.2.2.2.2.1))
set_option maxHeartbeats 4000000 in
set_option maxRecDepth 100000 in
theorem w_NumberReader_signedDigits {p : Program} {l : Launch} {e : Env} {s : State} {m : MethodId} {args : Array Value} {below : List Frame} {meth : Method} {c : Code} {A : Nat → Prop} {D : va_G} {cC cI : ClassId} {a0_0 : Nat} {v0 : T_NumberReader} (X : xCX p s m args meth c A D cC cI b_NumberReader_signedDigits 1 R_NumberReader (some .long)) {out : O_NumberReader_signedDigits}  {ls : Array Slot} {H : Heap} {locs : List Loc} (h : f_NumberReader_signedDigits v0 = some out) (hl : lv_has ls 1 [(0, .ref a0_0)]) (hP : va_P D classes (wd_NumberReader_signedDigits cC cI a0_0 v0) H) (hD : va_D A (wd_NumberReader_signedDigits cC cI a0_0 v0)) (hS : va_S A s.heap H locs) : W p l e rm_NumberReader_signedDigits s m args below meth c H locs 0 0 (MQ below (q_NumberReader_signedDigits D cC cI a0_0 v0 out A) args s 0 0 A) (F0 m 0 ls []) := by
  obtain ⟨hx, hb, hml, hown, htB, ⟨hK, hN⟩, hZ, hA, hr, hlocks⟩ := id X
  refine lv_aload_n hx hb d_NumberReader_signedDigits_0 rfl (lv_at hl 0 rfl) ?_
  refine va_get (D := D) (ci := 9) (v := .int v0.2.2.2.1) (C := R_NumberReader) (T := F_NumberReader) (N := 11) hx hb htB in_NumberReader hown hK hP 0 rfl rfl 3 (by decide) (htB _ b_225) (fun _ h9 => h9) rfl d_NumberReader_signedDigits_1 ?_
  refine lv_if_eq (tgt := 15) hx hb d_NumberReader_signedDigits_4 rfl (fun hc => ?_) (fun hc => ?_)
  · have h := (if_pos hc).symm.trans h
    refine lv_aload_n hx hb d_NumberReader_signedDigits_15 rfl (lv_at hl 0 rfl) ?_
    refine va_get (D := D) (ci := 9) (v := .long v0.2.2.2.2.2.2.2.1) (C := R_NumberReader) (T := F_NumberReader) (N := 11) hx hb htB in_NumberReader hown hK hP 0 rfl rfl 7 (by decide) (htB _ b_222) (fun _ h9 => h9) rfl d_NumberReader_signedDigits_16 ?_
    exact w_NumberReader_signedDigits_19 X v0.2.2.2.2.2.2.2.1 ls H locs h (lv_sub hl [] rfl) hP hD hS
  have h := (if_neg hc).symm.trans h
  refine lv_aload_n hx hb d_NumberReader_signedDigits_7 rfl (lv_at hl 0 rfl) ?_
  refine va_get (D := D) (ci := 9) (v := .long v0.2.2.2.2.2.2.2.1) (C := R_NumberReader) (T := F_NumberReader) (N := 11) hx hb htB in_NumberReader hown hK hP 0 rfl rfl 7 (by decide) (htB _ b_222) (fun _ h9 => h9) rfl d_NumberReader_signedDigits_8 ?_
  refine lv_lneg hx hb d_NumberReader_signedDigits_11 ?_
  refine lv_goto (tgt := 19) hx hb d_NumberReader_signedDigits_12 rfl ?_
  exact w_NumberReader_signedDigits_19 X (-v0.2.2.2.2.2.2.2.1) ls H locs h (lv_sub hl [] rfl) hP hD hS

set_option maxHeartbeats 4000000 in
set_option maxRecDepth 100000 in
theorem c_NumberReader_signedDigits (l : Launch) (D : va_G) (cC cI : ClassId) (sz : Nat) (a0_0 : Nat) (v0 : T_NumberReader) (out : O_NumberReader_signedDigits) (h : f_NumberReader_signedDigits v0 = some out) : Met l y_NumberReader_signedDigits (.code y_NumberReader_signedDigits b_NumberReader_signedDigits 1 (some .long) :: BIG) rm_NumberReader_signedDigits (va_Pc [.ref a0_0] (xPre D cC cI (wd_NumberReader_signedDigits cC cI a0_0 v0) sz)) (q_NumberReader_signedDigits D cC cI a0_0 v0 out (va_A (wd_NumberReader_signedDigits cC cI a0_0 v0) sz)) 0 0 (va_A (wd_NumberReader_signedDigits cC cI a0_0 v0) sz) := by
  refine Met.ofW (cc := b_NumberReader_signedDigits) (maxL := 1) (ret := (some .long)) (by decide) rfl ?_
  intro p e s m args below meth c s₁ B hml hv
  obtain ⟨rfl, rfl, hP, hD0, hG, hZ⟩ := hv
  have hl := lv_entry [.ref a0_0] (n := 1) (Nat.le_of_ble_eq_true rfl)
  rw [lg_entry_eq]
  exact w_NumberReader_signedDigits (x_cx B hml hG hZ) h hl hP hD0.self va_S.rf

abbrev wd_NumberReader_places (cC cI : ClassId) (a0_0 : Nat) (v0 : T_NumberReader) : va_W := [(a0_0, .inr (9, [.int v0.1, .int v0.2.1, .int v0.2.2.1, .int v0.2.2.2.1, .int v0.2.2.2.2.1, .int v0.2.2.2.2.2.1, .int v0.2.2.2.2.2.2.1, .long v0.2.2.2.2.2.2.2.1, .int v0.2.2.2.2.2.2.2.2.1, .int v0.2.2.2.2.2.2.2.2.2.1, .int v0.2.2.2.2.2.2.2.2.2.2]))]
abbrev O_NumberReader_places : Type := Int32
abbrev q_NumberReader_places (D : va_G) (cC cI : ClassId) (a0_0 : Nat) (v0 : T_NumberReader) (out : O_NumberReader_places) (A : Nat → Prop) : Array Value → State → Outcome → State → Prop := va_Qi (fun r (_ : Unit) => r = out) (fun _ t => va_P D classes (wd_NumberReader_places cC cI a0_0 v0) t.heap ∧ va_D A (wd_NumberReader_places cC cI a0_0 v0)) A
abbrev rm_NumberReader_places : Room := { frames := 0, cells := 0, slots := 0, locals := 0 }
def J_NumberReader_places_32 (p : Program) (l : Launch) (e : Env) (s : State) (m : MethodId) (args : Array Value) (below : List Frame) (meth : Method) (c : Code) (A : Nat → Prop) (D : va_G) (cC cI : ClassId) (a0_0 : Nat) (v0 : T_NumberReader) (out : O_NumberReader_places) (k : Int32 → Option O_NumberReader_places) : Prop := ∀ (s0 : Int32) (ls : Array Slot) (H : Heap) (locs : List Loc), k s0 = some out → lv_has ls 1 [] → va_P D classes (wd_NumberReader_places cC cI a0_0 v0) H → va_D A (wd_NumberReader_places cC cI a0_0 v0) → va_S A s.heap H locs → W p l e rm_NumberReader_places s m args below meth c H locs 0 0 (MQ below (q_NumberReader_places D cC cI a0_0 v0 out A) args s 0 0 A) (F0 m 32 ls [.int s0])
def f_NumberReader_places_32 (v0 : T_NumberReader) (s0 : Int32) : Option O_NumberReader_places := some s0
set_option maxHeartbeats 4000000 in
set_option maxRecDepth 100000 in
theorem w_NumberReader_places_32 {p : Program} {l : Launch} {e : Env} {s : State} {m : MethodId} {args : Array Value} {below : List Frame} {meth : Method} {c : Code} {A : Nat → Prop} {D : va_G} {cC cI : ClassId} {a0_0 : Nat} {v0 : T_NumberReader} (X : xCX p s m args meth c A D cC cI b_NumberReader_places 1 R_NumberReader (some .int)) {out : O_NumberReader_places}   : J_NumberReader_places_32 p l e s m args below meth c A D cC cI a0_0 v0 out (f_NumberReader_places_32 v0 ) := by
  obtain ⟨hx, hb, hml, hown, htB, ⟨hK, hN⟩, hZ, hA, hr, hlocks⟩ := id X
  intro s0 ls H locs h hl hP hD hS
  obtain rfl := Option.some.inj h
  exact W.iret (v := s0) hx hb hr (fun t ht hW => ⟨⟨s0, (), rfl, rfl, by rw [ht]; exact hP, hD⟩, hS.F ht⟩) hS.2.2 d_NumberReader_places_32 hlocks

def f_NumberReader_places (v0 : T_NumberReader) : Option O_NumberReader_places := (if (lg_cmp v0.2.2.2.2.2.2.2.1 (0 : Int64)) = 0 then f_NumberReader_places_32 v0 (0 : Int32) else f_NumberReader_places_32 v0 (((v0.2.2.2.2.2.1 - v0.2.2.2.2.2.2.2.2.2.1) - v0.2.2.2.2.2.2.1) + v0.2.2.2.2.2.2.2.2.2.2))
set_option maxHeartbeats 4000000 in
set_option maxRecDepth 100000 in
theorem w_NumberReader_places {p : Program} {l : Launch} {e : Env} {s : State} {m : MethodId} {args : Array Value} {below : List Frame} {meth : Method} {c : Code} {A : Nat → Prop} {D : va_G} {cC cI : ClassId} {a0_0 : Nat} {v0 : T_NumberReader} (X : xCX p s m args meth c A D cC cI b_NumberReader_places 1 R_NumberReader (some .int)) {out : O_NumberReader_places}  {ls : Array Slot} {H : Heap} {locs : List Loc} (h : f_NumberReader_places v0 = some out) (hl : lv_has ls 1 [(0, .ref a0_0)]) (hP : va_P D classes (wd_NumberReader_places cC cI a0_0 v0) H) (hD : va_D A (wd_NumberReader_places cC cI a0_0 v0)) (hS : va_S A s.heap H locs) : W p l e rm_NumberReader_places s m args below meth c H locs 0 0 (MQ below (q_NumberReader_places D cC cI a0_0 v0 out A) args s 0 0 A) (F0 m 0 ls []) := by
  obtain ⟨hx, hb, hml, hown, htB, ⟨hK, hN⟩, hZ, hA, hr, hlocks⟩ := id X
  refine lv_aload_n hx hb d_NumberReader_places_0 rfl (lv_at hl 0 rfl) ?_
  refine va_get (D := D) (ci := 9) (v := .long v0.2.2.2.2.2.2.2.1) (C := R_NumberReader) (T := F_NumberReader) (N := 11) hx hb htB in_NumberReader hown hK hP 0 rfl rfl 7 (by decide) (htB _ b_222) (fun _ h9 => h9) rfl d_NumberReader_places_1 ?_
  refine lv_lconst (v := 0) hx hb d_NumberReader_places_4 (by decide) ?_
  refine W.lcmp hx hb d_NumberReader_places_5 ?_
  refine lv_if_ne (tgt := 13) hx hb d_NumberReader_places_6 rfl (fun hc => ?_) (fun hc => ?_)
  · have h := (if_neg hc).symm.trans h
    refine lv_aload_n hx hb d_NumberReader_places_13 rfl (lv_at hl 0 rfl) ?_
    refine va_get (D := D) (ci := 9) (v := .int v0.2.2.2.2.2.1) (C := R_NumberReader) (T := F_NumberReader) (N := 11) hx hb htB in_NumberReader hown hK hP 0 rfl rfl 5 (by decide) (htB _ b_220) (fun _ h9 => h9) rfl d_NumberReader_places_14 ?_
    refine lv_aload_n hx hb d_NumberReader_places_17 rfl (lv_at hl 0 rfl) ?_
    refine va_get (D := D) (ci := 9) (v := .int v0.2.2.2.2.2.2.2.2.2.1) (C := R_NumberReader) (T := F_NumberReader) (N := 11) hx hb htB in_NumberReader hown hK hP 0 rfl rfl 9 (by decide) (htB _ b_224) (fun _ h9 => h9) rfl d_NumberReader_places_18 ?_
    refine lv_isub hx hb d_NumberReader_places_21 ?_
    refine lv_aload_n hx hb d_NumberReader_places_22 rfl (lv_at hl 0 rfl) ?_
    refine va_get (D := D) (ci := 9) (v := .int v0.2.2.2.2.2.2.1) (C := R_NumberReader) (T := F_NumberReader) (N := 11) hx hb htB in_NumberReader hown hK hP 0 rfl rfl 6 (by decide) (htB _ b_221) (fun _ h9 => h9) rfl d_NumberReader_places_23 ?_
    refine lv_isub hx hb d_NumberReader_places_26 ?_
    refine lv_aload_n hx hb d_NumberReader_places_27 rfl (lv_at hl 0 rfl) ?_
    refine va_get (D := D) (ci := 9) (v := .int v0.2.2.2.2.2.2.2.2.2.2) (C := R_NumberReader) (T := F_NumberReader) (N := 11) hx hb htB in_NumberReader hown hK hP 0 rfl rfl 10 (by decide) (htB _ b_226) (fun _ h9 => h9) rfl d_NumberReader_places_28 ?_
    refine lv_iadd hx hb d_NumberReader_places_31 ?_
    exact w_NumberReader_places_32 X (((v0.2.2.2.2.2.1 - v0.2.2.2.2.2.2.2.2.2.1) - v0.2.2.2.2.2.2.1) + v0.2.2.2.2.2.2.2.2.2.2) ls H locs h (lv_sub hl [] rfl) hP hD hS
  have h := (if_pos hc).symm.trans h
  refine lv_iconst (v := 0) hx hb d_NumberReader_places_9 (by decide) ?_
  refine lv_goto (tgt := 32) hx hb d_NumberReader_places_10 rfl ?_
  exact w_NumberReader_places_32 X (0 : Int32) ls H locs h (lv_sub hl [] rfl) hP hD hS

set_option maxHeartbeats 4000000 in
set_option maxRecDepth 100000 in
theorem c_NumberReader_places (l : Launch) (D : va_G) (cC cI : ClassId) (sz : Nat) (a0_0 : Nat) (v0 : T_NumberReader) (out : O_NumberReader_places) (h : f_NumberReader_places v0 = some out) : Met l y_NumberReader_places (.code y_NumberReader_places b_NumberReader_places 1 (some .int) :: BIG) rm_NumberReader_places (va_Pc [.ref a0_0] (xPre D cC cI (wd_NumberReader_places cC cI a0_0 v0) sz)) (q_NumberReader_places D cC cI a0_0 v0 out (va_A (wd_NumberReader_places cC cI a0_0 v0) sz)) 0 0 (va_A (wd_NumberReader_places cC cI a0_0 v0) sz) := by
  refine Met.ofW (cc := b_NumberReader_places) (maxL := 1) (ret := (some .int)) (by decide) rfl ?_
  intro p e s m args below meth c s₁ B hml hv
  obtain ⟨rfl, rfl, hP, hD0, hG, hZ⟩ := hv
  have hl := lv_entry [.ref a0_0] (n := 1) (Nat.le_of_ble_eq_true rfl)
  rw [lg_entry_eq]
  exact w_NumberReader_places (x_cx B hml hG hZ) h hl hP hD0.self va_S.rf

abbrev wd_NumberReader_startBetween (cC cI : ClassId) (a0_0 a1_0 a1_1 a2_0 a2_1 a2_2 a2_3 a2_4 a2_5 : Nat) (v0 : T_NumberReader) (v1 : T_Row) (v2 : T_Part) : va_W := [(a0_0, .inr (9, [.int v0.1, .int v0.2.1, .int v0.2.2.1, .int v0.2.2.2.1, .int v0.2.2.2.2.1, .int v0.2.2.2.2.2.1, .int v0.2.2.2.2.2.2.1, .long v0.2.2.2.2.2.2.2.1, .int v0.2.2.2.2.2.2.2.2.1, .int v0.2.2.2.2.2.2.2.2.2.1, .int v0.2.2.2.2.2.2.2.2.2.2])), (a1_0, .inr (0, [.ref a1_1, .int v1.2])), (a1_1, .inl (cC, 120, .inl v1.1)), (a2_0, .inr (3, [.ref a2_1, .ref a2_3, .ref a2_4])), (a2_1, .inr (1, [.ref a2_2, .int v2.1.2])), (a2_2, .inl (cI, 120, .inl v2.1.1)), (a2_3, .inr (2, [.int v2.2.1.1, .int v2.2.1.2.1, .int v2.2.1.2.2.1, .int v2.2.1.2.2.2.1, .int v2.2.1.2.2.2.2.1, .int v2.2.1.2.2.2.2.2.1, .int v2.2.1.2.2.2.2.2.2])), (a2_4, .inr (1, [.ref a2_5, .int v2.2.2.2])), (a2_5, .inl (cI, 120, .inl v2.2.2.1))]
abbrev O_NumberReader_startBetween : Type := Int32 × T_NumberReader
abbrev q_NumberReader_startBetween (D : va_G) (cC cI : ClassId) (a0_0 a1_0 a1_1 a2_0 a2_1 a2_2 a2_3 a2_4 a2_5 : Nat) (v1 : T_Row) (v2 : T_Part) (out : O_NumberReader_startBetween) (A : Nat → Prop) : Array Value → State → Outcome → State → Prop := va_Qi (fun r (_ : Unit) => r = out.1) (fun _ t => va_P D classes (wd_NumberReader_startBetween cC cI a0_0 a1_0 a1_1 a2_0 a2_1 a2_2 a2_3 a2_4 a2_5 out.2 v1 v2) t.heap ∧ va_D A (wd_NumberReader_startBetween cC cI a0_0 a1_0 a1_1 a2_0 a2_1 a2_2 a2_3 a2_4 a2_5 out.2 v1 v2)) A
abbrev rm_NumberReader_startBetween : Room := { frames := 3, cells := 0, slots := 0, locals := 66 }
def J_NumberReader_startBetween_64 (p : Program) (l : Launch) (e : Env) (s : State) (m : MethodId) (args : Array Value) (below : List Frame) (meth : Method) (c : Code) (A : Nat → Prop) (D : va_G) (cC cI : ClassId) (a0_0 a1_0 a1_1 a2_0 a2_1 a2_2 a2_3 a2_4 a2_5 : Nat) (v1 : T_Row) (v2 : T_Part) (out : O_NumberReader_startBetween) (k : T_NumberReader → Option O_NumberReader_startBetween) : Prop := ∀ (v0 : T_NumberReader) (ls : Array Slot) (H : Heap) (locs : List Loc), k v0 = some out → lv_has ls 5 [] → va_P D classes (wd_NumberReader_startBetween cC cI a0_0 a1_0 a1_1 a2_0 a2_1 a2_2 a2_3 a2_4 a2_5 v0 v1 v2) H → va_D A (wd_NumberReader_startBetween cC cI a0_0 a1_0 a1_1 a2_0 a2_1 a2_2 a2_3 a2_4 a2_5 v0 v1 v2) → va_S A s.heap H locs → W p l e rm_NumberReader_startBetween s m args below meth c H locs 0 0 (MQ below (q_NumberReader_startBetween D cC cI a0_0 a1_0 a1_1 a2_0 a2_1 a2_2 a2_3 a2_4 a2_5 v1 v2 out A) args s 0 0 A) (F0 m 64 ls [])
def J_NumberReader_startBetween_65 (p : Program) (l : Launch) (e : Env) (s : State) (m : MethodId) (args : Array Value) (below : List Frame) (meth : Method) (c : Code) (A : Nat → Prop) (D : va_G) (cC cI : ClassId) (a0_0 a1_0 a1_1 a2_0 a2_1 a2_2 a2_3 a2_4 a2_5 : Nat) (v1 : T_Row) (v2 : T_Part) (out : O_NumberReader_startBetween) (k : T_NumberReader → Int32 → Option O_NumberReader_startBetween) : Prop := ∀ (v0 : T_NumberReader) (s0 : Int32) (ls : Array Slot) (H : Heap) (locs : List Loc), k v0 s0 = some out → lv_has ls 5 [] → va_P D classes (wd_NumberReader_startBetween cC cI a0_0 a1_0 a1_1 a2_0 a2_1 a2_2 a2_3 a2_4 a2_5 v0 v1 v2) H → va_D A (wd_NumberReader_startBetween cC cI a0_0 a1_0 a1_1 a2_0 a2_1 a2_2 a2_3 a2_4 a2_5 v0 v1 v2) → va_S A s.heap H locs → W p l e rm_NumberReader_startBetween s m args below meth c H locs 0 0 (MQ below (q_NumberReader_startBetween D cC cI a0_0 a1_0 a1_1 a2_0 a2_1 a2_2 a2_3 a2_4 a2_5 v1 v2 out A) args s 0 0 A) (F0 m 65 ls [.int s0])
def f_NumberReader_startBetween_65 (v1 : T_Row) (v2 : T_Part) (v0 : T_NumberReader) (s0 : Int32) : Option O_NumberReader_startBetween := if (s0 = 0 ∨ s0 = 1) then some (s0, v0) else none
set_option maxHeartbeats 4000000 in
set_option maxRecDepth 100000 in
theorem w_NumberReader_startBetween_65 {p : Program} {l : Launch} {e : Env} {s : State} {m : MethodId} {args : Array Value} {below : List Frame} {meth : Method} {c : Code} {A : Nat → Prop} {D : va_G} {cC cI : ClassId} {a0_0 a1_0 a1_1 a2_0 a2_1 a2_2 a2_3 a2_4 a2_5 : Nat} {v1 : T_Row} {v2 : T_Part} (X : xCX p s m args meth c A D cC cI b_NumberReader_startBetween 5 R_NumberReader (some .boolean)) {out : O_NumberReader_startBetween}   : J_NumberReader_startBetween_65 p l e s m args below meth c A D cC cI a0_0 a1_0 a1_1 a2_0 a2_1 a2_2 a2_3 a2_4 a2_5 v1 v2 out (f_NumberReader_startBetween_65 v1 v2 ) := by
  obtain ⟨hx, hb, hml, hown, htB, ⟨hK, hN⟩, hZ, hA, hr, hlocks⟩ := id X
  intro v0 s0 ls H locs h hl hP hD hS
  obtain ⟨hc, h⟩ := x_chk h
  obtain rfl := Option.some.inj h
  exact W.zret (v := s0) (ty := .boolean) hx hb hr (x_zn hc) (fun t ht hW => ⟨⟨s0, (), rfl, rfl, by rw [ht]; exact hP, hD⟩, hS.F ht⟩) hS.2.2 d_NumberReader_startBetween_65 hlocks

def f_NumberReader_startBetween_64 (v1 : T_Row) (v2 : T_Part) (v0 : T_NumberReader) : Option O_NumberReader_startBetween := f_NumberReader_startBetween_65 v1 v2 v0 (0 : Int32)
set_option maxHeartbeats 4000000 in
set_option maxRecDepth 100000 in
theorem w_NumberReader_startBetween_64 {p : Program} {l : Launch} {e : Env} {s : State} {m : MethodId} {args : Array Value} {below : List Frame} {meth : Method} {c : Code} {A : Nat → Prop} {D : va_G} {cC cI : ClassId} {a0_0 a1_0 a1_1 a2_0 a2_1 a2_2 a2_3 a2_4 a2_5 : Nat} {v1 : T_Row} {v2 : T_Part} (X : xCX p s m args meth c A D cC cI b_NumberReader_startBetween 5 R_NumberReader (some .boolean)) {out : O_NumberReader_startBetween}   : J_NumberReader_startBetween_64 p l e s m args below meth c A D cC cI a0_0 a1_0 a1_1 a2_0 a2_1 a2_2 a2_3 a2_4 a2_5 v1 v2 out (f_NumberReader_startBetween_64 v1 v2 ) := by
  obtain ⟨hx, hb, hml, hown, htB, ⟨hK, hN⟩, hZ, hA, hr, hlocks⟩ := id X
  intro v0 ls H locs h hl hP hD hS
  refine lv_iconst (v := 0) hx hb d_NumberReader_startBetween_64 (by decide) ?_
  exact w_NumberReader_startBetween_65 X v0 (0 : Int32) ls H locs h (lv_sub hl [] rfl) hP hD hS

def f_NumberReader_startBetween (v0 : T_NumberReader) (v1 : T_Row) (v2 : T_Part) : Option O_NumberReader_startBetween := (f_Affix_size v2.1).bind (fun o4 => (f_Row_size v1).bind (fun o9 => (f_Affix_size v2.2.2).bind (fun o16 => (f_NumberReader_startBody v0 o4 (o9 - o16)).bind (fun o26 => (if (o9 - o16) < o4 then f_NumberReader_startBetween_64 v1 v2 o26 else (f_Affix_standsIn v2.1 v1 (0 : Int32)).bind (fun o41 => (if o41 = 0 then f_NumberReader_startBetween_64 v1 v2 o26 else (f_Affix_standsIn v2.2.2 v1 (o9 - o16)).bind (fun o54 => (if o54 = 0 then f_NumberReader_startBetween_64 v1 v2 o26 else f_NumberReader_startBetween_65 v1 v2 o26 (1 : Int32))))))))))
set_option maxHeartbeats 4000000 in
set_option maxRecDepth 100000 in
theorem w_NumberReader_startBetween {p : Program} {l : Launch} {e : Env} {s : State} {m : MethodId} {args : Array Value} {below : List Frame} {meth : Method} {c : Code} {A : Nat → Prop} {D : va_G} {cC cI : ClassId} {a0_0 a1_0 a1_1 a2_0 a2_1 a2_2 a2_3 a2_4 a2_5 : Nat} {v1 : T_Row} {v2 : T_Part} (X : xCX p s m args meth c A D cC cI b_NumberReader_startBetween 5 R_NumberReader (some .boolean)) {out : O_NumberReader_startBetween} (v0 : T_NumberReader) {ls : Array Slot} {H : Heap} {locs : List Loc} (h : f_NumberReader_startBetween v0 v1 v2 = some out) (hl : lv_has ls 5 [(0, .ref a0_0), (1, .ref a1_0), (2, .ref a2_0)]) (hP : va_P D classes (wd_NumberReader_startBetween cC cI a0_0 a1_0 a1_1 a2_0 a2_1 a2_2 a2_3 a2_4 a2_5 v0 v1 v2) H) (hD : va_D A (wd_NumberReader_startBetween cC cI a0_0 a1_0 a1_1 a2_0 a2_1 a2_2 a2_3 a2_4 a2_5 v0 v1 v2)) (hS : va_S A s.heap H locs) : W p l e rm_NumberReader_startBetween s m args below meth c H locs 0 0 (MQ below (q_NumberReader_startBetween D cC cI a0_0 a1_0 a1_1 a2_0 a2_1 a2_2 a2_3 a2_4 a2_5 v1 v2 out A) args s 0 0 A) (F0 m 0 ls []) := by
  obtain ⟨hx, hb, hml, hown, htB, ⟨hK, hN⟩, hZ, hA, hr, hlocks⟩ := id X
  refine lv_aload_n hx hb d_NumberReader_startBetween_0 rfl (lv_at hl 2 rfl) ?_
  refine va_getN (D := D) (ci := 3) (v := .ref a2_1) (C := R_Part) (T := F_Part) (N := 3) hx hb htB in_Part hown hK hP 3 rfl rfl 0 (by decide) (va_Nw.use rfl (hN _ n_70)) (fun _ h9 => h9) rfl d_NumberReader_startBetween_1 ?_
  obtain ⟨o4, ho4, h⟩ := x_bnd h
  refine x_calli (r0 := o4) (ws2 := (wd_NumberReader_startBetween cC cI a0_0 a1_0 a1_1 a2_0 a2_1 a2_2 a2_3 a2_4 a2_5 v0 v1 v2)) (x_runVN (As := []) (rest := []) X (c_Affix_size l D cC cI H.size a2_1 a2_2 v2.1 o4 ho4) b_99 0 (hN _ n_71) (htB _ b_100) (htB _ b_101) (htB _ b_9) ⟨by decide, by decide, by decide +kernel⟩ ⟨(Nat.le_of_ble_eq_true rfl), (Nat.le_of_ble_eq_true rfl)⟩ 4 rfl rfl hP hD hS [4, 5] rfl (by decide) rfl rfl hl.1 rfl rfl (Nat.le_of_ble_eq_true rfl) d_NumberReader_startBetween_4) hP hD hS hA [4, 5] [0, 1, 2, 3, 6, 7, 8] [0, 1, 2, 3, 7, 8, 4, 5, 6] rfl rfl (by decide) (by decide) rfl (by decide) (fun H locs hP hD hS => ?_)
  refine lv_istore_n (lv' := [(3, .int o4), (0, .ref a0_0), (1, .ref a1_0), (2, .ref a2_0)]) hx hb d_NumberReader_startBetween_7 rfl hl (by decide) rfl (fun ls hl => ?_)
  refine lv_aload_n hx hb d_NumberReader_startBetween_8 rfl (lv_at hl 2 rfl) ?_
  obtain ⟨o9, ho9, h⟩ := x_bnd h
  refine x_calli (r0 := o9) (ws2 := (wd_NumberReader_startBetween cC cI a0_0 a1_0 a1_1 a2_0 a2_1 a2_2 a2_3 a2_4 a2_5 v0 v1 v2)) (x_runVN (As := []) (rest := []) X (c_Row_size l D cC cI H.size a1_0 a1_1 v1 o9 ho9) b_51 0 (hN _ n_72) (htB _ b_52) (htB _ b_53) (htB _ b_22) ⟨by decide, by decide, by decide +kernel⟩ ⟨(Nat.le_of_ble_eq_true rfl), (Nat.le_of_ble_eq_true rfl)⟩ 1 rfl rfl hP hD hS [1, 2] rfl (by decide) rfl rfl hl.1 rfl rfl (Nat.le_of_ble_eq_true rfl) d_NumberReader_startBetween_9) hP hD hS hA [1, 2] [0, 3, 4, 5, 6, 7, 8] [0, 7, 8, 1, 2, 3, 4, 5, 6] rfl rfl (by decide) (by decide) rfl (by decide) (fun H locs hP hD hS => ?_)
  refine lv_aload_n hx hb d_NumberReader_startBetween_12 rfl (lv_at hl 3 rfl) ?_
  refine va_getN (D := D) (ci := 3) (v := .ref a2_4) (C := R_Part) (T := F_Part) (N := 3) hx hb htB in_Part hown hK hP 3 rfl rfl 2 (by decide) (va_Nw.use rfl (hN _ n_73)) (fun _ h9 => h9) rfl d_NumberReader_startBetween_13 ?_
  obtain ⟨o16, ho16, h⟩ := x_bnd h
  refine x_calli (r0 := o16) (ws2 := (wd_NumberReader_startBetween cC cI a0_0 a1_0 a1_1 a2_0 a2_1 a2_2 a2_3 a2_4 a2_5 v0 v1 v2)) (x_runVN (As := []) (rest := [.int o9]) X (c_Affix_size l D cC cI H.size a2_4 a2_5 v2.2.2 o16 ho16) b_99 0 (hN _ n_71) (htB _ b_100) (htB _ b_101) (htB _ b_9) ⟨by decide, by decide, by decide +kernel⟩ ⟨(Nat.le_of_ble_eq_true rfl), (Nat.le_of_ble_eq_true rfl)⟩ 7 rfl rfl hP hD hS [7, 8] rfl (by decide) rfl rfl hl.1 rfl rfl (Nat.le_of_ble_eq_true rfl) d_NumberReader_startBetween_16) hP hD hS hA [7, 8] [0, 1, 2, 3, 4, 5, 6] [0, 1, 2, 3, 4, 5, 6, 7, 8] rfl rfl (by decide) (by decide) rfl (by decide) (fun H locs hP hD hS => ?_)
  refine lv_isub hx hb d_NumberReader_startBetween_19 ?_
  refine lv_istore (lv' := [(4, .int (o9 - o16)), (3, .int o4), (0, .ref a0_0), (1, .ref a1_0), (2, .ref a2_0)]) hx hb d_NumberReader_startBetween_20 hl (by decide) rfl (fun ls hl => ?_)
  refine lv_aload_n hx hb d_NumberReader_startBetween_22 rfl (lv_at hl 2 rfl) ?_
  refine lv_iload_n hx hb d_NumberReader_startBetween_23 rfl (lv_at hl 1 rfl) ?_
  refine lv_iload hx hb d_NumberReader_startBetween_24 (lv_at hl 0 rfl) ?_
  obtain ⟨o26, ho26, h⟩ := x_bnd h
  refine x_callv (ws2 := (wd_NumberReader_startBetween cC cI a0_0 a1_0 a1_1 a2_0 a2_1 a2_2 a2_3 a2_4 a2_5 o26 v1 v2)) (x_runV (As := [.int o4, .int (o9 - o16)]) (rest := []) X (c_NumberReader_startBody l D cC cI H.size a0_0 v0 o4 (o9 - o16) o26 ho26) b_227 2 (htB _ b_231) (htB _ b_229) (htB _ b_230) (htB _ b_228) ⟨by decide, by decide, by decide +kernel⟩ ⟨(Nat.le_of_ble_eq_true rfl), (Nat.le_of_ble_eq_true rfl)⟩ 0 rfl rfl hP hD hS [0] rfl (by decide) rfl rfl hl.1 rfl rfl (Nat.le_of_ble_eq_true rfl) d_NumberReader_startBetween_26) hP hD hS hA [0] [1, 2, 3, 4, 5, 6, 7, 8] [8, 0, 1, 2, 3, 4, 5, 6, 7] rfl rfl (by decide) (by decide) rfl (by decide) (fun H locs hP hD hS => ?_)
  refine lv_iload_n hx hb d_NumberReader_startBetween_29 rfl (lv_at hl 1 rfl) ?_
  refine lv_iload hx hb d_NumberReader_startBetween_30 (lv_at hl 0 rfl) ?_
  refine lv_icmp_gt (tgt := 64) hx hb d_NumberReader_startBetween_32 rfl (fun hc => ?_) (fun hc => ?_)
  · have h := (if_pos hc).symm.trans h
    exact w_NumberReader_startBetween_64 X o26 ls H locs h (lv_sub hl [] rfl) hP hD hS
  have h := (if_neg hc).symm.trans h
  refine lv_aload_n hx hb d_NumberReader_startBetween_35 rfl (lv_at hl 4 rfl) ?_
  refine va_getN (D := D) (ci := 3) (v := .ref a2_1) (C := R_Part) (T := F_Part) (N := 3) hx hb htB in_Part hown hK hP 3 rfl rfl 0 (by decide) (va_Nw.use rfl (hN _ n_70)) (fun _ h9 => h9) rfl d_NumberReader_startBetween_36 ?_
  refine lv_aload_n hx hb d_NumberReader_startBetween_39 rfl (lv_at hl 3 rfl) ?_
  refine lv_iconst (v := 0) hx hb d_NumberReader_startBetween_40 (by decide) ?_
  obtain ⟨o41, ho41, h⟩ := x_bnd h
  refine x_calli (r0 := o41) (ws2 := (wd_NumberReader_startBetween cC cI a0_0 a1_0 a1_1 a2_0 a2_1 a2_2 a2_3 a2_4 a2_5 o26 v1 v2)) (x_runVN (As := [.ref a1_0, .int (0 : Int32)]) (rest := []) X (c_Affix_standsIn l D cC cI H.size a2_1 a2_2 a1_0 a1_1 v2.1 v1 (0 : Int32) o41 ho41) b_232 2 (hN _ n_74) (htB _ b_233) (htB _ b_234) (htB _ b_9) ⟨by decide, by decide, by decide +kernel⟩ ⟨(Nat.le_of_ble_eq_true rfl), (Nat.le_of_ble_eq_true rfl)⟩ 4 rfl rfl hP hD hS [4, 5, 1, 2] rfl (by decide) rfl rfl hl.1 rfl rfl (Nat.le_of_ble_eq_true rfl) d_NumberReader_startBetween_41) hP hD hS hA [4, 5, 1, 2] [0, 3, 6, 7, 8] [0, 7, 8, 1, 5, 6, 2, 3, 4] rfl rfl (by decide) (by decide) rfl (by decide) (fun H locs hP hD hS => ?_)
  refine lv_if_eq (tgt := 64) hx hb d_NumberReader_startBetween_44 rfl (fun hc => ?_) (fun hc => ?_)
  · have h := (if_pos hc).symm.trans h
    exact w_NumberReader_startBetween_64 X o26 ls H locs h (lv_sub hl [] rfl) hP hD hS
  have h := (if_neg hc).symm.trans h
  refine lv_aload_n hx hb d_NumberReader_startBetween_47 rfl (lv_at hl 4 rfl) ?_
  refine va_getN (D := D) (ci := 3) (v := .ref a2_4) (C := R_Part) (T := F_Part) (N := 3) hx hb htB in_Part hown hK hP 3 rfl rfl 2 (by decide) (va_Nw.use rfl (hN _ n_73)) (fun _ h9 => h9) rfl d_NumberReader_startBetween_48 ?_
  refine lv_aload_n hx hb d_NumberReader_startBetween_51 rfl (lv_at hl 3 rfl) ?_
  refine lv_iload hx hb d_NumberReader_startBetween_52 (lv_at hl 0 rfl) ?_
  obtain ⟨o54, ho54, h⟩ := x_bnd h
  refine x_calli (r0 := o54) (ws2 := (wd_NumberReader_startBetween cC cI a0_0 a1_0 a1_1 a2_0 a2_1 a2_2 a2_3 a2_4 a2_5 o26 v1 v2)) (x_runVN (As := [.ref a1_0, .int (o9 - o16)]) (rest := []) X (c_Affix_standsIn l D cC cI H.size a2_4 a2_5 a1_0 a1_1 v2.2.2 v1 (o9 - o16) o54 ho54) b_232 2 (hN _ n_74) (htB _ b_233) (htB _ b_234) (htB _ b_9) ⟨by decide, by decide, by decide +kernel⟩ ⟨(Nat.le_of_ble_eq_true rfl), (Nat.le_of_ble_eq_true rfl)⟩ 7 rfl rfl hP hD hS [7, 8, 1, 2] rfl (by decide) rfl rfl hl.1 rfl rfl (Nat.le_of_ble_eq_true rfl) d_NumberReader_startBetween_54) hP hD hS hA [7, 8, 1, 2] [0, 3, 4, 5, 6] [0, 7, 8, 1, 2, 3, 4, 5, 6] rfl rfl (by decide) (by decide) rfl (by decide) (fun H locs hP hD hS => ?_)
  refine lv_if_eq (tgt := 64) hx hb d_NumberReader_startBetween_57 rfl (fun hc => ?_) (fun hc => ?_)
  · have h := (if_pos hc).symm.trans h
    exact w_NumberReader_startBetween_64 X o26 ls H locs h (lv_sub hl [] rfl) hP hD hS
  have h := (if_neg hc).symm.trans h
  refine lv_iconst (v := 1) hx hb d_NumberReader_startBetween_60 (by decide) ?_
  refine lv_goto (tgt := 65) hx hb d_NumberReader_startBetween_61 rfl ?_
  exact w_NumberReader_startBetween_65 X o26 (1 : Int32) ls H locs h (lv_sub hl [] rfl) hP hD hS

set_option maxHeartbeats 4000000 in
set_option maxRecDepth 100000 in
theorem c_NumberReader_startBetween (l : Launch) (D : va_G) (cC cI : ClassId) (sz : Nat) (a0_0 a1_0 a1_1 a2_0 a2_1 a2_2 a2_3 a2_4 a2_5 : Nat) (v0 : T_NumberReader) (v1 : T_Row) (v2 : T_Part) (out : O_NumberReader_startBetween) (h : f_NumberReader_startBetween v0 v1 v2 = some out) : Met l y_NumberReader_startBetween (.code y_NumberReader_startBetween b_NumberReader_startBetween 5 (some .boolean) :: BIG) rm_NumberReader_startBetween (va_Pc [.ref a0_0, .ref a1_0, .ref a2_0] (xPre D cC cI (wd_NumberReader_startBetween cC cI a0_0 a1_0 a1_1 a2_0 a2_1 a2_2 a2_3 a2_4 a2_5 v0 v1 v2) sz)) (q_NumberReader_startBetween D cC cI a0_0 a1_0 a1_1 a2_0 a2_1 a2_2 a2_3 a2_4 a2_5 v1 v2 out (va_A (wd_NumberReader_startBetween cC cI a0_0 a1_0 a1_1 a2_0 a2_1 a2_2 a2_3 a2_4 a2_5 v0 v1 v2) sz)) 0 0 (va_A (wd_NumberReader_startBetween cC cI a0_0 a1_0 a1_1 a2_0 a2_1 a2_2 a2_3 a2_4 a2_5 v0 v1 v2) sz) := by
  refine Met.ofW (cc := b_NumberReader_startBetween) (maxL := 5) (ret := (some .boolean)) (by decide) rfl ?_
  intro p e s m args below meth c s₁ B hml hv
  obtain ⟨rfl, rfl, hP, hD0, hG, hZ⟩ := hv
  have hl := lv_entry [.ref a0_0, .ref a1_0, .ref a2_0] (n := 5) (Nat.le_of_ble_eq_true rfl)
  rw [lg_entry_eq]
  exact w_NumberReader_startBetween (x_cx B hml hG hZ) v0 h hl hP hD0.self va_S.rf

abbrev wd_NumberReader_bodyAt (cC cI : ClassId) (a0_0 a1_0 a1_1 : Nat) (v0 : T_NumberReader) (v1 : T_Row) : va_W := [(a0_0, .inr (9, [.int v0.1, .int v0.2.1, .int v0.2.2.1, .int v0.2.2.2.1, .int v0.2.2.2.2.1, .int v0.2.2.2.2.2.1, .int v0.2.2.2.2.2.2.1, .long v0.2.2.2.2.2.2.2.1, .int v0.2.2.2.2.2.2.2.2.1, .int v0.2.2.2.2.2.2.2.2.2.1, .int v0.2.2.2.2.2.2.2.2.2.2])), (a1_0, .inr (0, [.ref a1_1, .int v1.2])), (a1_1, .inl (cC, 120, .inl v1.1))]
abbrev O_NumberReader_bodyAt : Type := Int32
abbrev q_NumberReader_bodyAt (D : va_G) (cC cI : ClassId) (a0_0 a1_0 a1_1 : Nat) (v0 : T_NumberReader) (v1 : T_Row) (out : O_NumberReader_bodyAt) (A : Nat → Prop) : Array Value → State → Outcome → State → Prop := va_Qi (fun r (_ : Unit) => r = out) (fun _ t => va_P D classes (wd_NumberReader_bodyAt cC cI a0_0 a1_0 a1_1 v0 v1) t.heap ∧ va_D A (wd_NumberReader_bodyAt cC cI a0_0 a1_0 a1_1 v0 v1)) A
abbrev rm_NumberReader_bodyAt : Room := { frames := 1, cells := 0, slots := 0, locals := 21 }
def J_NumberReader_bodyAt_24 (p : Program) (l : Launch) (e : Env) (s : State) (m : MethodId) (args : Array Value) (below : List Frame) (meth : Method) (c : Code) (A : Nat → Prop) (D : va_G) (cC cI : ClassId) (a0_0 a1_0 a1_1 : Nat) (v0 : T_NumberReader) (v1 : T_Row) (out : O_NumberReader_bodyAt) (k : Option O_NumberReader_bodyAt) : Prop := ∀  (ls : Array Slot) (H : Heap) (locs : List Loc), k  = some out → lv_has ls 3 [] → va_P D classes (wd_NumberReader_bodyAt cC cI a0_0 a1_0 a1_1 v0 v1) H → va_D A (wd_NumberReader_bodyAt cC cI a0_0 a1_0 a1_1 v0 v1) → va_S A s.heap H locs → W p l e rm_NumberReader_bodyAt s m args below meth c H locs 0 0 (MQ below (q_NumberReader_bodyAt D cC cI a0_0 a1_0 a1_1 v0 v1 out A) args s 0 0 A) (F0 m 24 ls [])
def J_NumberReader_bodyAt_25 (p : Program) (l : Launch) (e : Env) (s : State) (m : MethodId) (args : Array Value) (below : List Frame) (meth : Method) (c : Code) (A : Nat → Prop) (D : va_G) (cC cI : ClassId) (a0_0 a1_0 a1_1 : Nat) (v0 : T_NumberReader) (v1 : T_Row) (out : O_NumberReader_bodyAt) (k : Int32 → Option O_NumberReader_bodyAt) : Prop := ∀ (s0 : Int32) (ls : Array Slot) (H : Heap) (locs : List Loc), k s0 = some out → lv_has ls 3 [] → va_P D classes (wd_NumberReader_bodyAt cC cI a0_0 a1_0 a1_1 v0 v1) H → va_D A (wd_NumberReader_bodyAt cC cI a0_0 a1_0 a1_1 v0 v1) → va_S A s.heap H locs → W p l e rm_NumberReader_bodyAt s m args below meth c H locs 0 0 (MQ below (q_NumberReader_bodyAt D cC cI a0_0 a1_0 a1_1 v0 v1 out A) args s 0 0 A) (F0 m 25 ls [.int s0])
def f_NumberReader_bodyAt_25 (v0 : T_NumberReader) (v1 : T_Row) (s0 : Int32) : Option O_NumberReader_bodyAt := some s0
set_option maxHeartbeats 4000000 in
set_option maxRecDepth 100000 in
theorem w_NumberReader_bodyAt_25 {p : Program} {l : Launch} {e : Env} {s : State} {m : MethodId} {args : Array Value} {below : List Frame} {meth : Method} {c : Code} {A : Nat → Prop} {D : va_G} {cC cI : ClassId} {a0_0 a1_0 a1_1 : Nat} {v0 : T_NumberReader} {v1 : T_Row} (X : xCX p s m args meth c A D cC cI b_NumberReader_bodyAt 3 R_NumberReader (some .int)) {out : O_NumberReader_bodyAt}   : J_NumberReader_bodyAt_25 p l e s m args below meth c A D cC cI a0_0 a1_0 a1_1 v0 v1 out (f_NumberReader_bodyAt_25 v0 v1 ) := by
  obtain ⟨hx, hb, hml, hown, htB, ⟨hK, hN⟩, hZ, hA, hr, hlocks⟩ := id X
  intro s0 ls H locs h hl hP hD hS
  obtain rfl := Option.some.inj h
  exact W.iret (v := s0) hx hb hr (fun t ht hW => ⟨⟨s0, (), rfl, rfl, by rw [ht]; exact hP, hD⟩, hS.F ht⟩) hS.2.2 d_NumberReader_bodyAt_25 hlocks

def f_NumberReader_bodyAt_24 (v0 : T_NumberReader) (v1 : T_Row) : Option O_NumberReader_bodyAt := f_NumberReader_bodyAt_25 v0 v1 (-1 : Int32)
set_option maxHeartbeats 4000000 in
set_option maxRecDepth 100000 in
theorem w_NumberReader_bodyAt_24 {p : Program} {l : Launch} {e : Env} {s : State} {m : MethodId} {args : Array Value} {below : List Frame} {meth : Method} {c : Code} {A : Nat → Prop} {D : va_G} {cC cI : ClassId} {a0_0 a1_0 a1_1 : Nat} {v0 : T_NumberReader} {v1 : T_Row} (X : xCX p s m args meth c A D cC cI b_NumberReader_bodyAt 3 R_NumberReader (some .int)) {out : O_NumberReader_bodyAt}   : J_NumberReader_bodyAt_24 p l e s m args below meth c A D cC cI a0_0 a1_0 a1_1 v0 v1 out (f_NumberReader_bodyAt_24 v0 v1 ) := by
  obtain ⟨hx, hb, hml, hown, htB, ⟨hK, hN⟩, hZ, hA, hr, hlocks⟩ := id X
  intro  ls H locs h hl hP hD hS
  refine lv_iconst (v := -1) hx hb d_NumberReader_bodyAt_24 (by decide) ?_
  exact w_NumberReader_bodyAt_25 X (-1 : Int32) ls H locs h (lv_sub hl [] rfl) hP hD hS

def f_NumberReader_bodyAt (v0 : T_NumberReader) (v1 : T_Row) (v2 : Int32) : Option O_NumberReader_bodyAt := (if v2 < v0.1 then f_NumberReader_bodyAt_24 v0 v1 else (if v0.2.1 ≤ v2 then f_NumberReader_bodyAt_24 v0 v1 else (f_Row_at v1 v2).bind (fun o18 => f_NumberReader_bodyAt_25 v0 v1 o18)))
set_option maxHeartbeats 4000000 in
set_option maxRecDepth 100000 in
theorem w_NumberReader_bodyAt {p : Program} {l : Launch} {e : Env} {s : State} {m : MethodId} {args : Array Value} {below : List Frame} {meth : Method} {c : Code} {A : Nat → Prop} {D : va_G} {cC cI : ClassId} {a0_0 a1_0 a1_1 : Nat} {v0 : T_NumberReader} {v1 : T_Row} (X : xCX p s m args meth c A D cC cI b_NumberReader_bodyAt 3 R_NumberReader (some .int)) {out : O_NumberReader_bodyAt} (v2 : Int32) {ls : Array Slot} {H : Heap} {locs : List Loc} (h : f_NumberReader_bodyAt v0 v1 v2 = some out) (hl : lv_has ls 3 [(0, .ref a0_0), (1, .ref a1_0), (2, .int v2)]) (hP : va_P D classes (wd_NumberReader_bodyAt cC cI a0_0 a1_0 a1_1 v0 v1) H) (hD : va_D A (wd_NumberReader_bodyAt cC cI a0_0 a1_0 a1_1 v0 v1)) (hS : va_S A s.heap H locs) : W p l e rm_NumberReader_bodyAt s m args below meth c H locs 0 0 (MQ below (q_NumberReader_bodyAt D cC cI a0_0 a1_0 a1_1 v0 v1 out A) args s 0 0 A) (F0 m 0 ls []) := by
  obtain ⟨hx, hb, hml, hown, htB, ⟨hK, hN⟩, hZ, hA, hr, hlocks⟩ := id X
  refine lv_iload_n hx hb d_NumberReader_bodyAt_0 rfl (lv_at hl 2 rfl) ?_
  refine lv_aload_n hx hb d_NumberReader_bodyAt_1 rfl (lv_at hl 0 rfl) ?_
  refine va_get (D := D) (ci := 9) (v := .int v0.1) (C := R_NumberReader) (T := F_NumberReader) (N := 11) hx hb htB in_NumberReader hown hK hP 0 rfl rfl 0 (by decide) (htB _ b_216) (fun _ h9 => h9) rfl d_NumberReader_bodyAt_2 ?_
  refine lv_icmp_lt (tgt := 24) hx hb d_NumberReader_bodyAt_5 rfl (fun hc => ?_) (fun hc => ?_)
  · have h := (if_pos hc).symm.trans h
    exact w_NumberReader_bodyAt_24 X ls H locs h (lv_sub hl [] rfl) hP hD hS
  have h := (if_neg hc).symm.trans h
  refine lv_iload_n hx hb d_NumberReader_bodyAt_8 rfl (lv_at hl 2 rfl) ?_
  refine lv_aload_n hx hb d_NumberReader_bodyAt_9 rfl (lv_at hl 0 rfl) ?_
  refine va_get (D := D) (ci := 9) (v := .int v0.2.1) (C := R_NumberReader) (T := F_NumberReader) (N := 11) hx hb htB in_NumberReader hown hK hP 0 rfl rfl 1 (by decide) (htB _ b_217) (fun _ h9 => h9) rfl d_NumberReader_bodyAt_10 ?_
  refine lv_icmp_ge (tgt := 24) hx hb d_NumberReader_bodyAt_13 rfl (fun hc => ?_) (fun hc => ?_)
  · have h := (if_pos hc).symm.trans h
    exact w_NumberReader_bodyAt_24 X ls H locs h (lv_sub hl [] rfl) hP hD hS
  have h := (if_neg hc).symm.trans h
  refine lv_aload_n hx hb d_NumberReader_bodyAt_16 rfl (lv_at hl 1 rfl) ?_
  refine lv_iload_n hx hb d_NumberReader_bodyAt_17 rfl (lv_at hl 2 rfl) ?_
  obtain ⟨o18, ho18, h⟩ := x_bnd h
  refine x_calli (r0 := o18) (ws2 := (wd_NumberReader_bodyAt cC cI a0_0 a1_0 a1_1 v0 v1)) (x_runVN (As := [.int v2]) (rest := []) X (c_Row_at l D cC cI H.size a1_0 a1_1 v1 v2 o18 ho18) b_25 1 (hN _ n_75) (htB _ b_26) (htB _ b_27) (htB _ b_22) ⟨by decide, by decide, by decide +kernel⟩ ⟨(Nat.le_of_ble_eq_true rfl), (Nat.le_of_ble_eq_true rfl)⟩ 1 rfl rfl hP hD hS [1, 2] rfl (by decide) rfl rfl hl.1 rfl rfl (Nat.le_of_ble_eq_true rfl) d_NumberReader_bodyAt_18) hP hD hS hA [1, 2] [0] [0, 1, 2] rfl rfl (by decide) (by decide) rfl (by decide) (fun H locs hP hD hS => ?_)
  refine lv_goto (tgt := 25) hx hb d_NumberReader_bodyAt_21 rfl ?_
  exact w_NumberReader_bodyAt_25 X o18 ls H locs h (lv_sub hl [] rfl) hP hD hS

set_option maxHeartbeats 4000000 in
set_option maxRecDepth 100000 in
theorem c_NumberReader_bodyAt (l : Launch) (D : va_G) (cC cI : ClassId) (sz : Nat) (a0_0 a1_0 a1_1 : Nat) (v0 : T_NumberReader) (v1 : T_Row) (v2 : Int32) (out : O_NumberReader_bodyAt) (h : f_NumberReader_bodyAt v0 v1 v2 = some out) : Met l y_NumberReader_bodyAt (.code y_NumberReader_bodyAt b_NumberReader_bodyAt 3 (some .int) :: BIG) rm_NumberReader_bodyAt (va_Pc [.ref a0_0, .ref a1_0, .int v2] (xPre D cC cI (wd_NumberReader_bodyAt cC cI a0_0 a1_0 a1_1 v0 v1) sz)) (q_NumberReader_bodyAt D cC cI a0_0 a1_0 a1_1 v0 v1 out (va_A (wd_NumberReader_bodyAt cC cI a0_0 a1_0 a1_1 v0 v1) sz)) 0 0 (va_A (wd_NumberReader_bodyAt cC cI a0_0 a1_0 a1_1 v0 v1) sz) := by
  refine Met.ofW (cc := b_NumberReader_bodyAt) (maxL := 3) (ret := (some .int)) (by decide) rfl ?_
  intro p e s m args below meth c s₁ B hml hv
  obtain ⟨rfl, rfl, hP, hD0, hG, hZ⟩ := hv
  have hl := lv_entry [.ref a0_0, .ref a1_0, .int v2] (n := 3) (Nat.le_of_ble_eq_true rfl)
  rw [lg_entry_eq]
  exact w_NumberReader_bodyAt (x_cx B hml hG hZ) v2 h hl hP hD0.self va_S.rf

abbrev wd_Deci_isDigit (cC cI : ClassId)  : va_W := []
abbrev O_Deci_isDigit : Type := Int32
abbrev q_Deci_isDigit (D : va_G) (cC cI : ClassId)  (out : O_Deci_isDigit) (A : Nat → Prop) : Array Value → State → Outcome → State → Prop := va_Qi (fun r (_ : Unit) => r = out) (fun _ t => va_P D classes (wd_Deci_isDigit cC cI ) t.heap ∧ va_D A (wd_Deci_isDigit cC cI )) A
abbrev rm_Deci_isDigit : Room := { frames := 0, cells := 0, slots := 0, locals := 0 }
def J_Deci_isDigit_16 (p : Program) (l : Launch) (e : Env) (s : State) (m : MethodId) (args : Array Value) (below : List Frame) (meth : Method) (c : Code) (A : Nat → Prop) (D : va_G) (cC cI : ClassId) (out : O_Deci_isDigit) (k : Option O_Deci_isDigit) : Prop := ∀  (ls : Array Slot) (H : Heap) (locs : List Loc), k  = some out → lv_has ls 1 [] → va_P D classes (wd_Deci_isDigit cC cI) H → va_D A (wd_Deci_isDigit cC cI) → va_S A s.heap H locs → W p l e rm_Deci_isDigit s m args below meth c H locs 0 0 (MQ below (q_Deci_isDigit D cC cI  out A) args s 0 0 A) (F0 m 16 ls [])
def J_Deci_isDigit_17 (p : Program) (l : Launch) (e : Env) (s : State) (m : MethodId) (args : Array Value) (below : List Frame) (meth : Method) (c : Code) (A : Nat → Prop) (D : va_G) (cC cI : ClassId) (out : O_Deci_isDigit) (k : Int32 → Option O_Deci_isDigit) : Prop := ∀ (s0 : Int32) (ls : Array Slot) (H : Heap) (locs : List Loc), k s0 = some out → lv_has ls 1 [] → va_P D classes (wd_Deci_isDigit cC cI) H → va_D A (wd_Deci_isDigit cC cI) → va_S A s.heap H locs → W p l e rm_Deci_isDigit s m args below meth c H locs 0 0 (MQ below (q_Deci_isDigit D cC cI  out A) args s 0 0 A) (F0 m 17 ls [.int s0])
def f_Deci_isDigit_17 (s0 : Int32) : Option O_Deci_isDigit := if (s0 = 0 ∨ s0 = 1) then some s0 else none
set_option maxHeartbeats 4000000 in
set_option maxRecDepth 100000 in
theorem w_Deci_isDigit_17 {p : Program} {l : Launch} {e : Env} {s : State} {m : MethodId} {args : Array Value} {below : List Frame} {meth : Method} {c : Code} {A : Nat → Prop} {D : va_G} {cC cI : ClassId} (X : xCX p s m args meth c A D cC cI b_Deci_isDigit 1 R_Deci (some .boolean)) {out : O_Deci_isDigit}   : J_Deci_isDigit_17 p l e s m args below meth c A D cC cI  out (f_Deci_isDigit_17  ) := by
  obtain ⟨hx, hb, hml, hown, htB, ⟨hK, hN⟩, hZ, hA, hr, hlocks⟩ := id X
  intro s0 ls H locs h hl hP hD hS
  obtain ⟨hc, h⟩ := x_chk h
  obtain rfl := Option.some.inj h
  exact W.zret (v := s0) (ty := .boolean) hx hb hr (x_zn hc) (fun t ht hW => ⟨⟨s0, (), rfl, rfl, by rw [ht]; exact hP, hD⟩, hS.F ht⟩) hS.2.2 d_Deci_isDigit_17 hlocks

def f_Deci_isDigit_16 : Option O_Deci_isDigit := f_Deci_isDigit_17 (0 : Int32)
set_option maxHeartbeats 4000000 in
set_option maxRecDepth 100000 in
theorem w_Deci_isDigit_16 {p : Program} {l : Launch} {e : Env} {s : State} {m : MethodId} {args : Array Value} {below : List Frame} {meth : Method} {c : Code} {A : Nat → Prop} {D : va_G} {cC cI : ClassId} (X : xCX p s m args meth c A D cC cI b_Deci_isDigit 1 R_Deci (some .boolean)) {out : O_Deci_isDigit}   : J_Deci_isDigit_16 p l e s m args below meth c A D cC cI  out (f_Deci_isDigit_16  ) := by
  obtain ⟨hx, hb, hml, hown, htB, ⟨hK, hN⟩, hZ, hA, hr, hlocks⟩ := id X
  intro  ls H locs h hl hP hD hS
  refine lv_iconst (v := 0) hx hb d_Deci_isDigit_16 (by decide) ?_
  exact w_Deci_isDigit_17 X (0 : Int32) ls H locs h (lv_sub hl [] rfl) hP hD hS

def f_Deci_isDigit (v0 : Int32) : Option O_Deci_isDigit := (if v0 < (48 : Int32) then f_Deci_isDigit_16 else (if (57 : Int32) < v0 then f_Deci_isDigit_16 else f_Deci_isDigit_17 (1 : Int32)))
set_option maxHeartbeats 4000000 in
set_option maxRecDepth 100000 in
theorem w_Deci_isDigit {p : Program} {l : Launch} {e : Env} {s : State} {m : MethodId} {args : Array Value} {below : List Frame} {meth : Method} {c : Code} {A : Nat → Prop} {D : va_G} {cC cI : ClassId} (X : xCX p s m args meth c A D cC cI b_Deci_isDigit 1 R_Deci (some .boolean)) {out : O_Deci_isDigit} (v0 : Int32) {ls : Array Slot} {H : Heap} {locs : List Loc} (h : f_Deci_isDigit v0 = some out) (hl : lv_has ls 1 [(0, .int v0)]) (hP : va_P D classes (wd_Deci_isDigit cC cI) H) (hD : va_D A (wd_Deci_isDigit cC cI)) (hS : va_S A s.heap H locs) : W p l e rm_Deci_isDigit s m args below meth c H locs 0 0 (MQ below (q_Deci_isDigit D cC cI  out A) args s 0 0 A) (F0 m 0 ls []) := by
  obtain ⟨hx, hb, hml, hown, htB, ⟨hK, hN⟩, hZ, hA, hr, hlocks⟩ := id X
  refine lv_iload_n hx hb d_Deci_isDigit_0 rfl (lv_at hl 0 rfl) ?_
  refine lv_bipush (v := 48) hx hb d_Deci_isDigit_1 (by decide) ?_
  refine lv_icmp_lt (tgt := 16) hx hb d_Deci_isDigit_3 rfl (fun hc => ?_) (fun hc => ?_)
  · have h := (if_pos hc).symm.trans h
    exact w_Deci_isDigit_16 X ls H locs h (lv_sub hl [] rfl) hP hD hS
  have h := (if_neg hc).symm.trans h
  refine lv_iload_n hx hb d_Deci_isDigit_6 rfl (lv_at hl 0 rfl) ?_
  refine lv_bipush (v := 57) hx hb d_Deci_isDigit_7 (by decide) ?_
  refine lv_icmp_gt (tgt := 16) hx hb d_Deci_isDigit_9 rfl (fun hc => ?_) (fun hc => ?_)
  · have h := (if_pos hc).symm.trans h
    exact w_Deci_isDigit_16 X ls H locs h (lv_sub hl [] rfl) hP hD hS
  have h := (if_neg hc).symm.trans h
  refine lv_iconst (v := 1) hx hb d_Deci_isDigit_12 (by decide) ?_
  refine lv_goto (tgt := 17) hx hb d_Deci_isDigit_13 rfl ?_
  exact w_Deci_isDigit_17 X (1 : Int32) ls H locs h (lv_sub hl [] rfl) hP hD hS

set_option maxHeartbeats 4000000 in
set_option maxRecDepth 100000 in
theorem c_Deci_isDigit (l : Launch) (D : va_G) (cC cI : ClassId) (sz : Nat) (v0 : Int32) (out : O_Deci_isDigit) (h : f_Deci_isDigit v0 = some out) : Met l y_Deci_isDigit (.code y_Deci_isDigit b_Deci_isDigit 1 (some .boolean) :: BIG) rm_Deci_isDigit (va_Pc [.int v0] (xPre D cC cI (wd_Deci_isDigit cC cI) sz)) (q_Deci_isDigit D cC cI  out (va_A (wd_Deci_isDigit cC cI) sz)) 0 0 (va_A (wd_Deci_isDigit cC cI) sz) := by
  refine Met.ofW (cc := b_Deci_isDigit) (maxL := 1) (ret := (some .boolean)) (by decide) rfl ?_
  intro p e s m args below meth c s₁ B hml hv
  obtain ⟨rfl, rfl, hP, hD0, hG, hZ⟩ := hv
  have hl := lv_entry [.int v0] (n := 1) (Nat.le_of_ble_eq_true rfl)
  rw [lg_entry_eq]
  exact w_Deci_isDigit (x_cx B hml hG hZ) v0 h hl hP hD0.self va_S.rf

abbrev wd_NumberReader_takeDigit (cC cI : ClassId) (a0_0 : Nat) (v0 : T_NumberReader) : va_W := [(a0_0, .inr (9, [.int v0.1, .int v0.2.1, .int v0.2.2.1, .int v0.2.2.2.1, .int v0.2.2.2.2.1, .int v0.2.2.2.2.2.1, .int v0.2.2.2.2.2.2.1, .long v0.2.2.2.2.2.2.2.1, .int v0.2.2.2.2.2.2.2.2.1, .int v0.2.2.2.2.2.2.2.2.2.1, .int v0.2.2.2.2.2.2.2.2.2.2]))]
abbrev O_NumberReader_takeDigit : Type := T_NumberReader
abbrev q_NumberReader_takeDigit (D : va_G) (cC cI : ClassId) (a0_0 : Nat)  (out : O_NumberReader_takeDigit) (A : Nat → Prop) : Array Value → State → Outcome → State → Prop := va_Qv (fun _ : Unit => True) (fun _ t => va_P D classes (wd_NumberReader_takeDigit cC cI a0_0 out) t.heap ∧ va_D A (wd_NumberReader_takeDigit cC cI a0_0 out)) A
abbrev rm_NumberReader_takeDigit : Room := { frames := 2, cells := 0, slots := 0, locals := 41 }
def J_NumberReader_takeDigit_77 (p : Program) (l : Launch) (e : Env) (s : State) (m : MethodId) (args : Array Value) (below : List Frame) (meth : Method) (c : Code) (A : Nat → Prop) (D : va_G) (cC cI : ClassId) (a0_0 : Nat) (out : O_NumberReader_takeDigit) (k : T_NumberReader → Option O_NumberReader_takeDigit) : Prop := ∀ (v0 : T_NumberReader) (ls : Array Slot) (H : Heap) (locs : List Loc), k v0 = some out → lv_has ls 2 [(0, .ref a0_0)] → va_P D classes (wd_NumberReader_takeDigit cC cI a0_0 v0) H → va_D A (wd_NumberReader_takeDigit cC cI a0_0 v0) → va_S A s.heap H locs → W p l e rm_NumberReader_takeDigit s m args below meth c H locs 0 0 (MQ below (q_NumberReader_takeDigit D cC cI a0_0 out A) args s 0 0 A) (F0 m 77 ls [])
def f_NumberReader_takeDigit_77 (v0 : T_NumberReader) : Option O_NumberReader_takeDigit := some (v0.1, v0.2.1, v0.2.2.1, v0.2.2.2.1, v0.2.2.2.2.1, v0.2.2.2.2.2.1, v0.2.2.2.2.2.2.1, v0.2.2.2.2.2.2.2.1, v0.2.2.2.2.2.2.2.2.1, (0 : Int32), v0.2.2.2.2.2.2.2.2.2.2)
set_option maxHeartbeats 4000000 in
set_option maxRecDepth 100000 in
theorem w_NumberReader_takeDigit_77 {p : Program} {l : Launch} {e : Env} {s : State} {m : MethodId} {args : Array Value} {below : List Frame} {meth : Method} {c : Code} {A : Nat → Prop} {D : va_G} {cC cI : ClassId} {a0_0 : Nat} (X : xCX p s m args meth c A D cC cI b_NumberReader_takeDigit 2 R_NumberReader none) {out : O_NumberReader_takeDigit}   : J_NumberReader_takeDigit_77 p l e s m args below meth c A D cC cI a0_0 out (f_NumberReader_takeDigit_77  ) := by
  obtain ⟨hx, hb, hml, hown, htB, ⟨hK, hN⟩, hZ, hA, hr, hlocks⟩ := id X
  intro v0 ls H locs h hl hP hD hS
  refine lv_aload_n hx hb d_NumberReader_takeDigit_77 rfl (lv_at hl 0 rfl) ?_
  refine lv_iconst (v := 0) hx hb d_NumberReader_takeDigit_78 (by decide) ?_
  refine va_put (D := D) (ci := 9) (v := .int (0 : Int32)) (ty := .int) (C := R_NumberReader) (T := F_NumberReader) (N := 11) hx hb htB in_NumberReader t_NumberReader t_NumberReader_ok n_NumberReader hown hK hP hD hS 0 rfl rfl 9 (by decide) (htB _ b_224) (fun _ h9 => h9) rfl (by decide +kernel) rfl rfl (Nat.le_of_ble_eq_true rfl) d_NumberReader_takeDigit_79 (fun H locs hP hD hS => ?_)
  have hP : va_P D classes (wd_NumberReader_takeDigit cC cI a0_0 (v0.1, v0.2.1, v0.2.2.1, v0.2.2.2.1, v0.2.2.2.2.1, v0.2.2.2.2.2.1, v0.2.2.2.2.2.2.1, v0.2.2.2.2.2.2.2.1, v0.2.2.2.2.2.2.2.2.1, (0 : Int32), v0.2.2.2.2.2.2.2.2.2.2)) H := hP
  have hD : va_D A (wd_NumberReader_takeDigit cC cI a0_0 (v0.1, v0.2.1, v0.2.2.1, v0.2.2.2.1, v0.2.2.2.2.1, v0.2.2.2.2.2.1, v0.2.2.2.2.2.2.1, v0.2.2.2.2.2.2.2.1, v0.2.2.2.2.2.2.2.2.1, (0 : Int32), v0.2.2.2.2.2.2.2.2.2.2)) := hD
  obtain rfl := Option.some.inj h
  exact W.vret hx hb hr (fun t ht hW => ⟨⟨(), rfl, trivial, by rw [ht]; exact hP, hD⟩, hS.F ht⟩) hS.2.2 d_NumberReader_takeDigit_82 hlocks

def J_NumberReader_takeDigit_31 (p : Program) (l : Launch) (e : Env) (s : State) (m : MethodId) (args : Array Value) (below : List Frame) (meth : Method) (c : Code) (A : Nat → Prop) (D : va_G) (cC cI : ClassId) (a0_0 : Nat) (out : O_NumberReader_takeDigit) (k : T_NumberReader → Option O_NumberReader_takeDigit) : Prop := ∀ (v0 : T_NumberReader) (ls : Array Slot) (H : Heap) (locs : List Loc), k v0 = some out → lv_has ls 2 [] → va_P D classes (wd_NumberReader_takeDigit cC cI a0_0 v0) H → va_D A (wd_NumberReader_takeDigit cC cI a0_0 v0) → va_S A s.heap H locs → W p l e rm_NumberReader_takeDigit s m args below meth c H locs 0 0 (MQ below (q_NumberReader_takeDigit D cC cI a0_0 out A) args s 0 0 A) (F0 m 31 ls [])
def f_NumberReader_takeDigit_31 (v0 : T_NumberReader) : Option O_NumberReader_takeDigit := some v0
set_option maxHeartbeats 4000000 in
set_option maxRecDepth 100000 in
theorem w_NumberReader_takeDigit_31 {p : Program} {l : Launch} {e : Env} {s : State} {m : MethodId} {args : Array Value} {below : List Frame} {meth : Method} {c : Code} {A : Nat → Prop} {D : va_G} {cC cI : ClassId} {a0_0 : Nat} (X : xCX p s m args meth c A D cC cI b_NumberReader_takeDigit 2 R_NumberReader none) {out : O_NumberReader_takeDigit}   : J_NumberReader_takeDigit_31 p l e s m args below meth c A D cC cI a0_0 out (f_NumberReader_takeDigit_31  ) := by
  obtain ⟨hx, hb, hml, hown, htB, ⟨hK, hN⟩, hZ, hA, hr, hlocks⟩ := id X
  intro v0 ls H locs h hl hP hD hS
  obtain rfl := Option.some.inj h
  exact W.vret hx hb hr (fun t ht hW => ⟨⟨(), rfl, trivial, by rw [ht]; exact hP, hD⟩, hS.F ht⟩) hS.2.2 d_NumberReader_takeDigit_31 hlocks

def f_NumberReader_takeDigit (v0 : T_NumberReader) (v1 : Int32) : Option O_NumberReader_takeDigit := (if v1 = 0 then (if v0.2.2.2.2.2.2.2.2.1 ≤ 0 then f_NumberReader_takeDigit_31 (v0.1, v0.2.1, v0.2.2.1, v0.2.2.2.1, (v0.2.2.2.2.1 + (1 : Int32)), v0.2.2.2.2.2.1, v0.2.2.2.2.2.2.1, v0.2.2.2.2.2.2.2.1, v0.2.2.2.2.2.2.2.2.1, v0.2.2.2.2.2.2.2.2.2.1, v0.2.2.2.2.2.2.2.2.2.2) else f_NumberReader_takeDigit_31 (v0.1, v0.2.1, v0.2.2.1, v0.2.2.2.1, (v0.2.2.2.2.1 + (1 : Int32)), v0.2.2.2.2.2.1, v0.2.2.2.2.2.2.1, v0.2.2.2.2.2.2.2.1, v0.2.2.2.2.2.2.2.2.1, (v0.2.2.2.2.2.2.2.2.2.1 + (1 : Int32)), v0.2.2.2.2.2.2.2.2.2.2)) else (if (17 : Int32) < ((v0.2.2.2.2.2.2.2.2.1 + v0.2.2.2.2.2.2.2.2.2.1) + (1 : Int32)) then f_NumberReader_takeDigit_77 (v0.1, v0.2.1, v0.2.2.1, v0.2.2.2.1, (v0.2.2.2.2.1 + (1 : Int32)), v0.2.2.2.2.2.1, v0.2.2.2.2.2.2.1, v0.2.2.2.2.2.2.2.1, ((v0.2.2.2.2.2.2.2.2.1 + v0.2.2.2.2.2.2.2.2.2.1) + (1 : Int32)), v0.2.2.2.2.2.2.2.2.2.1, v0.2.2.2.2.2.2.2.2.2.2) else (f_Deci_tenTo (v0.2.2.2.2.2.2.2.2.2.1 + (1 : Int32))).bind (fun o67 => f_NumberReader_takeDigit_77 (v0.1, v0.2.1, v0.2.2.1, v0.2.2.2.1, (v0.2.2.2.2.1 + (1 : Int32)), v0.2.2.2.2.2.1, v0.2.2.2.2.2.2.1, ((v0.2.2.2.2.2.2.2.1 * o67) + v1.toInt64), ((v0.2.2.2.2.2.2.2.2.1 + v0.2.2.2.2.2.2.2.2.2.1) + (1 : Int32)), v0.2.2.2.2.2.2.2.2.2.1, v0.2.2.2.2.2.2.2.2.2.2))))
set_option maxHeartbeats 4000000 in
set_option maxRecDepth 100000 in
theorem w_NumberReader_takeDigit {p : Program} {l : Launch} {e : Env} {s : State} {m : MethodId} {args : Array Value} {below : List Frame} {meth : Method} {c : Code} {A : Nat → Prop} {D : va_G} {cC cI : ClassId} {a0_0 : Nat} (X : xCX p s m args meth c A D cC cI b_NumberReader_takeDigit 2 R_NumberReader none) {out : O_NumberReader_takeDigit} (v0 : T_NumberReader) (v1 : Int32) {ls : Array Slot} {H : Heap} {locs : List Loc} (h : f_NumberReader_takeDigit v0 v1 = some out) (hl : lv_has ls 2 [(0, .ref a0_0), (1, .int v1)]) (hP : va_P D classes (wd_NumberReader_takeDigit cC cI a0_0 v0) H) (hD : va_D A (wd_NumberReader_takeDigit cC cI a0_0 v0)) (hS : va_S A s.heap H locs) : W p l e rm_NumberReader_takeDigit s m args below meth c H locs 0 0 (MQ below (q_NumberReader_takeDigit D cC cI a0_0 out A) args s 0 0 A) (F0 m 0 ls []) := by
  obtain ⟨hx, hb, hml, hown, htB, ⟨hK, hN⟩, hZ, hA, hr, hlocks⟩ := id X
  refine lv_aload_n hx hb d_NumberReader_takeDigit_0 rfl (lv_at hl 0 rfl) ?_
  refine lv_dup hx hb d_NumberReader_takeDigit_1 rfl ?_
  refine va_get (D := D) (ci := 9) (v := .int v0.2.2.2.2.1) (C := R_NumberReader) (T := F_NumberReader) (N := 11) hx hb htB in_NumberReader hown hK hP 0 rfl rfl 4 (by decide) (htB _ b_219) (fun _ h9 => h9) rfl d_NumberReader_takeDigit_2 ?_
  refine lv_iconst (v := 1) hx hb d_NumberReader_takeDigit_5 (by decide) ?_
  refine lv_iadd hx hb d_NumberReader_takeDigit_6 ?_
  refine va_put (D := D) (ci := 9) (v := .int (v0.2.2.2.2.1 + (1 : Int32))) (ty := .int) (C := R_NumberReader) (T := F_NumberReader) (N := 11) hx hb htB in_NumberReader t_NumberReader t_NumberReader_ok n_NumberReader hown hK hP hD hS 0 rfl rfl 4 (by decide) (htB _ b_219) (fun _ h9 => h9) rfl (by decide +kernel) rfl rfl (Nat.le_of_ble_eq_true rfl) d_NumberReader_takeDigit_7 (fun H locs hP hD hS => ?_)
  have hP : va_P D classes (wd_NumberReader_takeDigit cC cI a0_0 (v0.1, v0.2.1, v0.2.2.1, v0.2.2.2.1, (v0.2.2.2.2.1 + (1 : Int32)), v0.2.2.2.2.2.1, v0.2.2.2.2.2.2.1, v0.2.2.2.2.2.2.2.1, v0.2.2.2.2.2.2.2.2.1, v0.2.2.2.2.2.2.2.2.2.1, v0.2.2.2.2.2.2.2.2.2.2)) H := hP
  have hD : va_D A (wd_NumberReader_takeDigit cC cI a0_0 (v0.1, v0.2.1, v0.2.2.1, v0.2.2.2.1, (v0.2.2.2.2.1 + (1 : Int32)), v0.2.2.2.2.2.1, v0.2.2.2.2.2.2.1, v0.2.2.2.2.2.2.2.1, v0.2.2.2.2.2.2.2.2.1, v0.2.2.2.2.2.2.2.2.2.1, v0.2.2.2.2.2.2.2.2.2.2)) := hD
  refine lv_iload_n hx hb d_NumberReader_takeDigit_10 rfl (lv_at hl 1 rfl) ?_
  refine lv_if_ne (tgt := 32) hx hb d_NumberReader_takeDigit_11 rfl (fun hc => ?_) (fun hc => ?_)
  · have h := (if_neg hc).symm.trans h
    refine lv_aload_n hx hb d_NumberReader_takeDigit_32 rfl (lv_at hl 0 rfl) ?_
    refine lv_aload_n hx hb d_NumberReader_takeDigit_33 rfl (lv_at hl 0 rfl) ?_
    refine va_get (D := D) (ci := 9) (v := .int v0.2.2.2.2.2.2.2.2.1) (C := R_NumberReader) (T := F_NumberReader) (N := 11) hx hb htB in_NumberReader hown hK hP 0 rfl rfl 8 (by decide) (htB _ b_223) (fun _ h9 => h9) rfl d_NumberReader_takeDigit_34 ?_
    refine lv_aload_n hx hb d_NumberReader_takeDigit_37 rfl (lv_at hl 0 rfl) ?_
    refine va_get (D := D) (ci := 9) (v := .int v0.2.2.2.2.2.2.2.2.2.1) (C := R_NumberReader) (T := F_NumberReader) (N := 11) hx hb htB in_NumberReader hown hK hP 0 rfl rfl 9 (by decide) (htB _ b_224) (fun _ h9 => h9) rfl d_NumberReader_takeDigit_38 ?_
    refine lv_iadd hx hb d_NumberReader_takeDigit_41 ?_
    refine lv_iconst (v := 1) hx hb d_NumberReader_takeDigit_42 (by decide) ?_
    refine lv_iadd hx hb d_NumberReader_takeDigit_43 ?_
    refine va_put (D := D) (ci := 9) (v := .int ((v0.2.2.2.2.2.2.2.2.1 + v0.2.2.2.2.2.2.2.2.2.1) + (1 : Int32))) (ty := .int) (C := R_NumberReader) (T := F_NumberReader) (N := 11) hx hb htB in_NumberReader t_NumberReader t_NumberReader_ok n_NumberReader hown hK hP hD hS 0 rfl rfl 8 (by decide) (htB _ b_223) (fun _ h9 => h9) rfl (by decide +kernel) rfl rfl (Nat.le_of_ble_eq_true rfl) d_NumberReader_takeDigit_44 (fun H locs hP hD hS => ?_)
    have hP : va_P D classes (wd_NumberReader_takeDigit cC cI a0_0 (v0.1, v0.2.1, v0.2.2.1, v0.2.2.2.1, (v0.2.2.2.2.1 + (1 : Int32)), v0.2.2.2.2.2.1, v0.2.2.2.2.2.2.1, v0.2.2.2.2.2.2.2.1, ((v0.2.2.2.2.2.2.2.2.1 + v0.2.2.2.2.2.2.2.2.2.1) + (1 : Int32)), v0.2.2.2.2.2.2.2.2.2.1, v0.2.2.2.2.2.2.2.2.2.2)) H := hP
    have hD : va_D A (wd_NumberReader_takeDigit cC cI a0_0 (v0.1, v0.2.1, v0.2.2.1, v0.2.2.2.1, (v0.2.2.2.2.1 + (1 : Int32)), v0.2.2.2.2.2.1, v0.2.2.2.2.2.2.1, v0.2.2.2.2.2.2.2.1, ((v0.2.2.2.2.2.2.2.2.1 + v0.2.2.2.2.2.2.2.2.2.1) + (1 : Int32)), v0.2.2.2.2.2.2.2.2.2.1, v0.2.2.2.2.2.2.2.2.2.2)) := hD
    refine lv_aload_n hx hb d_NumberReader_takeDigit_47 rfl (lv_at hl 0 rfl) ?_
    refine va_get (D := D) (ci := 9) (v := .int ((v0.2.2.2.2.2.2.2.2.1 + v0.2.2.2.2.2.2.2.2.2.1) + (1 : Int32))) (C := R_NumberReader) (T := F_NumberReader) (N := 11) hx hb htB in_NumberReader hown hK hP 0 rfl rfl 8 (by decide) (htB _ b_223) (fun _ h9 => h9) rfl d_NumberReader_takeDigit_48 ?_
    refine lv_bipush (v := 17) hx hb d_NumberReader_takeDigit_51 (by decide) ?_
    refine lv_icmp_gt (tgt := 77) hx hb d_NumberReader_takeDigit_53 rfl (fun hc => ?_) (fun hc => ?_)
    · have h := (if_pos hc).symm.trans h
      exact w_NumberReader_takeDigit_77 X (v0.1, v0.2.1, v0.2.2.1, v0.2.2.2.1, (v0.2.2.2.2.1 + (1 : Int32)), v0.2.2.2.2.2.1, v0.2.2.2.2.2.2.1, v0.2.2.2.2.2.2.2.1, ((v0.2.2.2.2.2.2.2.2.1 + v0.2.2.2.2.2.2.2.2.2.1) + (1 : Int32)), v0.2.2.2.2.2.2.2.2.2.1, v0.2.2.2.2.2.2.2.2.2.2) ls H locs h (lv_sub hl [0] rfl) hP hD hS
    have h := (if_neg hc).symm.trans h
    refine lv_aload_n hx hb d_NumberReader_takeDigit_56 rfl (lv_at hl 0 rfl) ?_
    refine lv_aload_n hx hb d_NumberReader_takeDigit_57 rfl (lv_at hl 0 rfl) ?_
    refine va_get (D := D) (ci := 9) (v := .long v0.2.2.2.2.2.2.2.1) (C := R_NumberReader) (T := F_NumberReader) (N := 11) hx hb htB in_NumberReader hown hK hP 0 rfl rfl 7 (by decide) (htB _ b_222) (fun _ h9 => h9) rfl d_NumberReader_takeDigit_58 ?_
    refine lv_aload_n hx hb d_NumberReader_takeDigit_61 rfl (lv_at hl 0 rfl) ?_
    refine va_get (D := D) (ci := 9) (v := .int v0.2.2.2.2.2.2.2.2.2.1) (C := R_NumberReader) (T := F_NumberReader) (N := 11) hx hb htB in_NumberReader hown hK hP 0 rfl rfl 9 (by decide) (htB _ b_224) (fun _ h9 => h9) rfl d_NumberReader_takeDigit_62 ?_
    refine lv_iconst (v := 1) hx hb d_NumberReader_takeDigit_65 (by decide) ?_
    refine lv_iadd hx hb d_NumberReader_takeDigit_66 ?_
    obtain ⟨o67, ho67, h⟩ := x_bnd h
    refine x_calll (r0 := o67) (ws2 := (wd_NumberReader_takeDigit cC cI a0_0 (v0.1, v0.2.1, v0.2.2.1, v0.2.2.2.1, (v0.2.2.2.2.1 + (1 : Int32)), v0.2.2.2.2.2.1, v0.2.2.2.2.2.2.1, v0.2.2.2.2.2.2.2.1, ((v0.2.2.2.2.2.2.2.2.1 + v0.2.2.2.2.2.2.2.2.2.1) + (1 : Int32)), v0.2.2.2.2.2.2.2.2.2.1, v0.2.2.2.2.2.2.2.2.2.2))) (x_runSN (As := [.int (v0.2.2.2.2.2.2.2.2.2.1 + (1 : Int32))]) (rest := [.long v0.2.2.2.2.2.2.2.1, .ref a0_0]) X (c_Deci_tenTo l D cC cI H.size (v0.2.2.2.2.2.2.2.2.2.1 + (1 : Int32)) o67 ho67) b_143 1 (hN _ n_76) (htB _ b_144) (htB _ b_56) ⟨by decide, by decide, by decide +kernel⟩ ⟨(Nat.le_of_ble_eq_true rfl), (Nat.le_of_ble_eq_true rfl)⟩ hP hD hS [] rfl (by decide) rfl rfl hl.1 rfl rfl (Nat.le_of_ble_eq_true rfl) d_NumberReader_takeDigit_67) hP hD hS hA [] [0] [0] rfl rfl (by decide) (by decide) rfl (by decide) (fun H locs hP hD hS => ?_)
    refine lv_lmul hx hb d_NumberReader_takeDigit_70 ?_
    refine lv_iload_n hx hb d_NumberReader_takeDigit_71 rfl (lv_at hl 1 rfl) ?_
    refine lv_i2l hx hb d_NumberReader_takeDigit_72 rfl ?_
    refine lv_ladd hx hb d_NumberReader_takeDigit_73 ?_
    refine va_put (D := D) (ci := 9) (v := .long ((v0.2.2.2.2.2.2.2.1 * o67) + v1.toInt64)) (ty := .long) (C := R_NumberReader) (T := F_NumberReader) (N := 11) hx hb htB in_NumberReader t_NumberReader t_NumberReader_ok n_NumberReader hown hK hP hD hS 0 rfl rfl 7 (by decide) (htB _ b_222) (fun _ h9 => h9) rfl (by decide +kernel) rfl rfl (Nat.le_of_ble_eq_true rfl) d_NumberReader_takeDigit_74 (fun H locs hP hD hS => ?_)
    have hP : va_P D classes (wd_NumberReader_takeDigit cC cI a0_0 (v0.1, v0.2.1, v0.2.2.1, v0.2.2.2.1, (v0.2.2.2.2.1 + (1 : Int32)), v0.2.2.2.2.2.1, v0.2.2.2.2.2.2.1, ((v0.2.2.2.2.2.2.2.1 * o67) + v1.toInt64), ((v0.2.2.2.2.2.2.2.2.1 + v0.2.2.2.2.2.2.2.2.2.1) + (1 : Int32)), v0.2.2.2.2.2.2.2.2.2.1, v0.2.2.2.2.2.2.2.2.2.2)) H := hP
    have hD : va_D A (wd_NumberReader_takeDigit cC cI a0_0 (v0.1, v0.2.1, v0.2.2.1, v0.2.2.2.1, (v0.2.2.2.2.1 + (1 : Int32)), v0.2.2.2.2.2.1, v0.2.2.2.2.2.2.1, ((v0.2.2.2.2.2.2.2.1 * o67) + v1.toInt64), ((v0.2.2.2.2.2.2.2.2.1 + v0.2.2.2.2.2.2.2.2.2.1) + (1 : Int32)), v0.2.2.2.2.2.2.2.2.2.1, v0.2.2.2.2.2.2.2.2.2.2)) := hD
    exact w_NumberReader_takeDigit_77 X (v0.1, v0.2.1, v0.2.2.1, v0.2.2.2.1, (v0.2.2.2.2.1 + (1 : Int32)), v0.2.2.2.2.2.1, v0.2.2.2.2.2.2.1, ((v0.2.2.2.2.2.2.2.1 * o67) + v1.toInt64), ((v0.2.2.2.2.2.2.2.2.1 + v0.2.2.2.2.2.2.2.2.2.1) + (1 : Int32)), v0.2.2.2.2.2.2.2.2.2.1, v0.2.2.2.2.2.2.2.2.2.2) ls H locs h (lv_sub hl [0] rfl) hP hD hS
  have h := (if_pos hc).symm.trans h
  refine lv_aload_n hx hb d_NumberReader_takeDigit_14 rfl (lv_at hl 0 rfl) ?_
  refine va_get (D := D) (ci := 9) (v := .int v0.2.2.2.2.2.2.2.2.1) (C := R_NumberReader) (T := F_NumberReader) (N := 11) hx hb htB in_NumberReader hown hK hP 0 rfl rfl 8 (by decide) (htB _ b_223) (fun _ h9 => h9) rfl d_NumberReader_takeDigit_15 ?_
  refine lv_if_le (tgt := 31) hx hb d_NumberReader_takeDigit_18 rfl (fun hc => ?_) (fun hc => ?_)
  · have h := (if_pos hc).symm.trans h
    exact w_NumberReader_takeDigit_31 X (v0.1, v0.2.1, v0.2.2.1, v0.2.2.2.1, (v0.2.2.2.2.1 + (1 : Int32)), v0.2.2.2.2.2.1, v0.2.2.2.2.2.2.1, v0.2.2.2.2.2.2.2.1, v0.2.2.2.2.2.2.2.2.1, v0.2.2.2.2.2.2.2.2.2.1, v0.2.2.2.2.2.2.2.2.2.2) ls H locs h (lv_sub hl [] rfl) hP hD hS
  have h := (if_neg hc).symm.trans h
  refine lv_aload_n hx hb d_NumberReader_takeDigit_21 rfl (lv_at hl 0 rfl) ?_
  refine lv_dup hx hb d_NumberReader_takeDigit_22 rfl ?_
  refine va_get (D := D) (ci := 9) (v := .int v0.2.2.2.2.2.2.2.2.2.1) (C := R_NumberReader) (T := F_NumberReader) (N := 11) hx hb htB in_NumberReader hown hK hP 0 rfl rfl 9 (by decide) (htB _ b_224) (fun _ h9 => h9) rfl d_NumberReader_takeDigit_23 ?_
  refine lv_iconst (v := 1) hx hb d_NumberReader_takeDigit_26 (by decide) ?_
  refine lv_iadd hx hb d_NumberReader_takeDigit_27 ?_
  refine va_put (D := D) (ci := 9) (v := .int (v0.2.2.2.2.2.2.2.2.2.1 + (1 : Int32))) (ty := .int) (C := R_NumberReader) (T := F_NumberReader) (N := 11) hx hb htB in_NumberReader t_NumberReader t_NumberReader_ok n_NumberReader hown hK hP hD hS 0 rfl rfl 9 (by decide) (htB _ b_224) (fun _ h9 => h9) rfl (by decide +kernel) rfl rfl (Nat.le_of_ble_eq_true rfl) d_NumberReader_takeDigit_28 (fun H locs hP hD hS => ?_)
  have hP : va_P D classes (wd_NumberReader_takeDigit cC cI a0_0 (v0.1, v0.2.1, v0.2.2.1, v0.2.2.2.1, (v0.2.2.2.2.1 + (1 : Int32)), v0.2.2.2.2.2.1, v0.2.2.2.2.2.2.1, v0.2.2.2.2.2.2.2.1, v0.2.2.2.2.2.2.2.2.1, (v0.2.2.2.2.2.2.2.2.2.1 + (1 : Int32)), v0.2.2.2.2.2.2.2.2.2.2)) H := hP
  have hD : va_D A (wd_NumberReader_takeDigit cC cI a0_0 (v0.1, v0.2.1, v0.2.2.1, v0.2.2.2.1, (v0.2.2.2.2.1 + (1 : Int32)), v0.2.2.2.2.2.1, v0.2.2.2.2.2.2.1, v0.2.2.2.2.2.2.2.1, v0.2.2.2.2.2.2.2.2.1, (v0.2.2.2.2.2.2.2.2.2.1 + (1 : Int32)), v0.2.2.2.2.2.2.2.2.2.2)) := hD
  exact w_NumberReader_takeDigit_31 X (v0.1, v0.2.1, v0.2.2.1, v0.2.2.2.1, (v0.2.2.2.2.1 + (1 : Int32)), v0.2.2.2.2.2.1, v0.2.2.2.2.2.2.1, v0.2.2.2.2.2.2.2.1, v0.2.2.2.2.2.2.2.2.1, (v0.2.2.2.2.2.2.2.2.2.1 + (1 : Int32)), v0.2.2.2.2.2.2.2.2.2.2) ls H locs h (lv_sub hl [] rfl) hP hD hS

set_option maxHeartbeats 4000000 in
set_option maxRecDepth 100000 in
theorem c_NumberReader_takeDigit (l : Launch) (D : va_G) (cC cI : ClassId) (sz : Nat) (a0_0 : Nat) (v0 : T_NumberReader) (v1 : Int32) (out : O_NumberReader_takeDigit) (h : f_NumberReader_takeDigit v0 v1 = some out) : Met l y_NumberReader_takeDigit (.code y_NumberReader_takeDigit b_NumberReader_takeDigit 2 none :: BIG) rm_NumberReader_takeDigit (va_Pc [.ref a0_0, .int v1] (xPre D cC cI (wd_NumberReader_takeDigit cC cI a0_0 v0) sz)) (q_NumberReader_takeDigit D cC cI a0_0 out (va_A (wd_NumberReader_takeDigit cC cI a0_0 v0) sz)) 0 0 (va_A (wd_NumberReader_takeDigit cC cI a0_0 v0) sz) := by
  refine Met.ofW (cc := b_NumberReader_takeDigit) (maxL := 2) (ret := none) (by decide) rfl ?_
  intro p e s m args below meth c s₁ B hml hv
  obtain ⟨rfl, rfl, hP, hD0, hG, hZ⟩ := hv
  have hl := lv_entry [.ref a0_0, .int v1] (n := 2) (Nat.le_of_ble_eq_true rfl)
  rw [lg_entry_eq]
  exact w_NumberReader_takeDigit (x_cx B hml hG hZ) v0 v1 h hl hP hD0.self va_S.rf

abbrev wd_NumberReader_isBetweenDigits (cC cI : ClassId) (a0_0 a1_0 a1_1 : Nat) (v0 : T_NumberReader) (v1 : T_Row) : va_W := [(a0_0, .inr (9, [.int v0.1, .int v0.2.1, .int v0.2.2.1, .int v0.2.2.2.1, .int v0.2.2.2.2.1, .int v0.2.2.2.2.2.1, .int v0.2.2.2.2.2.2.1, .long v0.2.2.2.2.2.2.2.1, .int v0.2.2.2.2.2.2.2.2.1, .int v0.2.2.2.2.2.2.2.2.2.1, .int v0.2.2.2.2.2.2.2.2.2.2])), (a1_0, .inr (0, [.ref a1_1, .int v1.2])), (a1_1, .inl (cC, 120, .inl v1.1))]
abbrev O_NumberReader_isBetweenDigits : Type := Int32
abbrev q_NumberReader_isBetweenDigits (D : va_G) (cC cI : ClassId) (a0_0 a1_0 a1_1 : Nat) (v0 : T_NumberReader) (v1 : T_Row) (out : O_NumberReader_isBetweenDigits) (A : Nat → Prop) : Array Value → State → Outcome → State → Prop := va_Qi (fun r (_ : Unit) => r = out) (fun _ t => va_P D classes (wd_NumberReader_isBetweenDigits cC cI a0_0 a1_0 a1_1 v0 v1) t.heap ∧ va_D A (wd_NumberReader_isBetweenDigits cC cI a0_0 a1_0 a1_1 v0 v1)) A
abbrev rm_NumberReader_isBetweenDigits : Room := { frames := 2, cells := 0, slots := 0, locals := 43 }
def J_NumberReader_isBetweenDigits_38 (p : Program) (l : Launch) (e : Env) (s : State) (m : MethodId) (args : Array Value) (below : List Frame) (meth : Method) (c : Code) (A : Nat → Prop) (D : va_G) (cC cI : ClassId) (a0_0 a1_0 a1_1 : Nat) (v0 : T_NumberReader) (v1 : T_Row) (out : O_NumberReader_isBetweenDigits) (k : Option O_NumberReader_isBetweenDigits) : Prop := ∀  (ls : Array Slot) (H : Heap) (locs : List Loc), k  = some out → lv_has ls 2 [] → va_P D classes (wd_NumberReader_isBetweenDigits cC cI a0_0 a1_0 a1_1 v0 v1) H → va_D A (wd_NumberReader_isBetweenDigits cC cI a0_0 a1_0 a1_1 v0 v1) → va_S A s.heap H locs → W p l e rm_NumberReader_isBetweenDigits s m args below meth c H locs 0 0 (MQ below (q_NumberReader_isBetweenDigits D cC cI a0_0 a1_0 a1_1 v0 v1 out A) args s 0 0 A) (F0 m 38 ls [])
def J_NumberReader_isBetweenDigits_39 (p : Program) (l : Launch) (e : Env) (s : State) (m : MethodId) (args : Array Value) (below : List Frame) (meth : Method) (c : Code) (A : Nat → Prop) (D : va_G) (cC cI : ClassId) (a0_0 a1_0 a1_1 : Nat) (v0 : T_NumberReader) (v1 : T_Row) (out : O_NumberReader_isBetweenDigits) (k : Int32 → Option O_NumberReader_isBetweenDigits) : Prop := ∀ (s0 : Int32) (ls : Array Slot) (H : Heap) (locs : List Loc), k s0 = some out → lv_has ls 2 [] → va_P D classes (wd_NumberReader_isBetweenDigits cC cI a0_0 a1_0 a1_1 v0 v1) H → va_D A (wd_NumberReader_isBetweenDigits cC cI a0_0 a1_0 a1_1 v0 v1) → va_S A s.heap H locs → W p l e rm_NumberReader_isBetweenDigits s m args below meth c H locs 0 0 (MQ below (q_NumberReader_isBetweenDigits D cC cI a0_0 a1_0 a1_1 v0 v1 out A) args s 0 0 A) (F0 m 39 ls [.int s0])
def f_NumberReader_isBetweenDigits_39 (v0 : T_NumberReader) (v1 : T_Row) (s0 : Int32) : Option O_NumberReader_isBetweenDigits := if (s0 = 0 ∨ s0 = 1) then some s0 else none
set_option maxHeartbeats 4000000 in
set_option maxRecDepth 100000 in
theorem w_NumberReader_isBetweenDigits_39 {p : Program} {l : Launch} {e : Env} {s : State} {m : MethodId} {args : Array Value} {below : List Frame} {meth : Method} {c : Code} {A : Nat → Prop} {D : va_G} {cC cI : ClassId} {a0_0 a1_0 a1_1 : Nat} {v0 : T_NumberReader} {v1 : T_Row} (X : xCX p s m args meth c A D cC cI b_NumberReader_isBetweenDigits 2 R_NumberReader (some .boolean)) {out : O_NumberReader_isBetweenDigits}   : J_NumberReader_isBetweenDigits_39 p l e s m args below meth c A D cC cI a0_0 a1_0 a1_1 v0 v1 out (f_NumberReader_isBetweenDigits_39 v0 v1 ) := by
  obtain ⟨hx, hb, hml, hown, htB, ⟨hK, hN⟩, hZ, hA, hr, hlocks⟩ := id X
  intro s0 ls H locs h hl hP hD hS
  obtain ⟨hc, h⟩ := x_chk h
  obtain rfl := Option.some.inj h
  exact W.zret (v := s0) (ty := .boolean) hx hb hr (x_zn hc) (fun t ht hW => ⟨⟨s0, (), rfl, rfl, by rw [ht]; exact hP, hD⟩, hS.F ht⟩) hS.2.2 d_NumberReader_isBetweenDigits_39 hlocks

def f_NumberReader_isBetweenDigits_38 (v0 : T_NumberReader) (v1 : T_Row) : Option O_NumberReader_isBetweenDigits := f_NumberReader_isBetweenDigits_39 v0 v1 (0 : Int32)
set_option maxHeartbeats 4000000 in
set_option maxRecDepth 100000 in
theorem w_NumberReader_isBetweenDigits_38 {p : Program} {l : Launch} {e : Env} {s : State} {m : MethodId} {args : Array Value} {below : List Frame} {meth : Method} {c : Code} {A : Nat → Prop} {D : va_G} {cC cI : ClassId} {a0_0 a1_0 a1_1 : Nat} {v0 : T_NumberReader} {v1 : T_Row} (X : xCX p s m args meth c A D cC cI b_NumberReader_isBetweenDigits 2 R_NumberReader (some .boolean)) {out : O_NumberReader_isBetweenDigits}   : J_NumberReader_isBetweenDigits_38 p l e s m args below meth c A D cC cI a0_0 a1_0 a1_1 v0 v1 out (f_NumberReader_isBetweenDigits_38 v0 v1 ) := by
  obtain ⟨hx, hb, hml, hown, htB, ⟨hK, hN⟩, hZ, hA, hr, hlocks⟩ := id X
  intro  ls H locs h hl hP hD hS
  refine lv_iconst (v := 0) hx hb d_NumberReader_isBetweenDigits_38 (by decide) ?_
  exact w_NumberReader_isBetweenDigits_39 X (0 : Int32) ls H locs h (lv_sub hl [] rfl) hP hD hS

def f_NumberReader_isBetweenDigits (v0 : T_NumberReader) (v1 : T_Row) : Option O_NumberReader_isBetweenDigits := (f_NumberReader_bodyAt v0 v1 (v0.2.2.1 - (1 : Int32))).bind (fun o8 => (f_Deci_isDigit o8).bind (fun o11 => (if o11 = 0 then f_NumberReader_isBetweenDigits_38 v0 v1 else (f_NumberReader_bodyAt v0 v1 (v0.2.2.1 + (1 : Int32))).bind (fun o25 => (f_Deci_isDigit o25).bind (fun o28 => (if o28 = 0 then f_NumberReader_isBetweenDigits_38 v0 v1 else f_NumberReader_isBetweenDigits_39 v0 v1 (1 : Int32)))))))
set_option maxHeartbeats 4000000 in
set_option maxRecDepth 100000 in
theorem w_NumberReader_isBetweenDigits {p : Program} {l : Launch} {e : Env} {s : State} {m : MethodId} {args : Array Value} {below : List Frame} {meth : Method} {c : Code} {A : Nat → Prop} {D : va_G} {cC cI : ClassId} {a0_0 a1_0 a1_1 : Nat} {v0 : T_NumberReader} {v1 : T_Row} (X : xCX p s m args meth c A D cC cI b_NumberReader_isBetweenDigits 2 R_NumberReader (some .boolean)) {out : O_NumberReader_isBetweenDigits}  {ls : Array Slot} {H : Heap} {locs : List Loc} (h : f_NumberReader_isBetweenDigits v0 v1 = some out) (hl : lv_has ls 2 [(0, .ref a0_0), (1, .ref a1_0)]) (hP : va_P D classes (wd_NumberReader_isBetweenDigits cC cI a0_0 a1_0 a1_1 v0 v1) H) (hD : va_D A (wd_NumberReader_isBetweenDigits cC cI a0_0 a1_0 a1_1 v0 v1)) (hS : va_S A s.heap H locs) : W p l e rm_NumberReader_isBetweenDigits s m args below meth c H locs 0 0 (MQ below (q_NumberReader_isBetweenDigits D cC cI a0_0 a1_0 a1_1 v0 v1 out A) args s 0 0 A) (F0 m 0 ls []) := by
  obtain ⟨hx, hb, hml, hown, htB, ⟨hK, hN⟩, hZ, hA, hr, hlocks⟩ := id X
  refine lv_aload_n hx hb d_NumberReader_isBetweenDigits_0 rfl (lv_at hl 0 rfl) ?_
  refine lv_aload_n hx hb d_NumberReader_isBetweenDigits_1 rfl (lv_at hl 1 rfl) ?_
  refine lv_aload_n hx hb d_NumberReader_isBetweenDigits_2 rfl (lv_at hl 0 rfl) ?_
  refine va_get (D := D) (ci := 9) (v := .int v0.2.2.1) (C := R_NumberReader) (T := F_NumberReader) (N := 11) hx hb htB in_NumberReader hown hK hP 0 rfl rfl 2 (by decide) (htB _ b_218) (fun _ h9 => h9) rfl d_NumberReader_isBetweenDigits_3 ?_
  refine lv_iconst (v := 1) hx hb d_NumberReader_isBetweenDigits_6 (by decide) ?_
  refine lv_isub hx hb d_NumberReader_isBetweenDigits_7 ?_
  obtain ⟨o8, ho8, h⟩ := x_bnd h
  refine x_calli (r0 := o8) (ws2 := (wd_NumberReader_isBetweenDigits cC cI a0_0 a1_0 a1_1 v0 v1)) (x_runV (As := [.ref a1_0, .int (v0.2.2.1 - (1 : Int32))]) (rest := []) X (c_NumberReader_bodyAt l D cC cI H.size a0_0 a1_0 a1_1 v0 v1 (v0.2.2.1 - (1 : Int32)) o8 ho8) b_235 2 (htB _ b_238) (htB _ b_236) (htB _ b_237) (htB _ b_228) ⟨by decide, by decide, by decide +kernel⟩ ⟨(Nat.le_of_ble_eq_true rfl), (Nat.le_of_ble_eq_true rfl)⟩ 0 rfl rfl hP hD hS [0, 1, 2] rfl (by decide) rfl rfl hl.1 rfl rfl (Nat.le_of_ble_eq_true rfl) d_NumberReader_isBetweenDigits_8) hP hD hS hA [0, 1, 2] [] [0, 1, 2] rfl rfl (by decide) (by decide) rfl (by decide) (fun H locs hP hD hS => ?_)
  obtain ⟨o11, ho11, h⟩ := x_bnd h
  refine x_calli (r0 := o11) (ws2 := (wd_NumberReader_isBetweenDigits cC cI a0_0 a1_0 a1_1 v0 v1)) (x_runSN (As := [.int o8]) (rest := []) X (c_Deci_isDigit l D cC cI H.size o8 o11 ho11) b_239 1 (hN _ n_77) (htB _ b_240) (htB _ b_56) ⟨by decide, by decide, by decide +kernel⟩ ⟨(Nat.le_of_ble_eq_true rfl), (Nat.le_of_ble_eq_true rfl)⟩ hP hD hS [] rfl (by decide) rfl rfl hl.1 rfl rfl (Nat.le_of_ble_eq_true rfl) d_NumberReader_isBetweenDigits_11) hP hD hS hA [] [0, 1, 2] [0, 1, 2] rfl rfl (by decide) (by decide) rfl (by decide) (fun H locs hP hD hS => ?_)
  refine lv_if_eq (tgt := 38) hx hb d_NumberReader_isBetweenDigits_14 rfl (fun hc => ?_) (fun hc => ?_)
  · have h := (if_pos hc).symm.trans h
    exact w_NumberReader_isBetweenDigits_38 X ls H locs h (lv_sub hl [] rfl) hP hD hS
  have h := (if_neg hc).symm.trans h
  refine lv_aload_n hx hb d_NumberReader_isBetweenDigits_17 rfl (lv_at hl 0 rfl) ?_
  refine lv_aload_n hx hb d_NumberReader_isBetweenDigits_18 rfl (lv_at hl 1 rfl) ?_
  refine lv_aload_n hx hb d_NumberReader_isBetweenDigits_19 rfl (lv_at hl 0 rfl) ?_
  refine va_get (D := D) (ci := 9) (v := .int v0.2.2.1) (C := R_NumberReader) (T := F_NumberReader) (N := 11) hx hb htB in_NumberReader hown hK hP 0 rfl rfl 2 (by decide) (htB _ b_218) (fun _ h9 => h9) rfl d_NumberReader_isBetweenDigits_20 ?_
  refine lv_iconst (v := 1) hx hb d_NumberReader_isBetweenDigits_23 (by decide) ?_
  refine lv_iadd hx hb d_NumberReader_isBetweenDigits_24 ?_
  obtain ⟨o25, ho25, h⟩ := x_bnd h
  refine x_calli (r0 := o25) (ws2 := (wd_NumberReader_isBetweenDigits cC cI a0_0 a1_0 a1_1 v0 v1)) (x_runV (As := [.ref a1_0, .int (v0.2.2.1 + (1 : Int32))]) (rest := []) X (c_NumberReader_bodyAt l D cC cI H.size a0_0 a1_0 a1_1 v0 v1 (v0.2.2.1 + (1 : Int32)) o25 ho25) b_235 2 (htB _ b_238) (htB _ b_236) (htB _ b_237) (htB _ b_228) ⟨by decide, by decide, by decide +kernel⟩ ⟨(Nat.le_of_ble_eq_true rfl), (Nat.le_of_ble_eq_true rfl)⟩ 0 rfl rfl hP hD hS [0, 1, 2] rfl (by decide) rfl rfl hl.1 rfl rfl (Nat.le_of_ble_eq_true rfl) d_NumberReader_isBetweenDigits_25) hP hD hS hA [0, 1, 2] [] [0, 1, 2] rfl rfl (by decide) (by decide) rfl (by decide) (fun H locs hP hD hS => ?_)
  obtain ⟨o28, ho28, h⟩ := x_bnd h
  refine x_calli (r0 := o28) (ws2 := (wd_NumberReader_isBetweenDigits cC cI a0_0 a1_0 a1_1 v0 v1)) (x_runSN (As := [.int o25]) (rest := []) X (c_Deci_isDigit l D cC cI H.size o25 o28 ho28) b_239 1 (hN _ n_77) (htB _ b_240) (htB _ b_56) ⟨by decide, by decide, by decide +kernel⟩ ⟨(Nat.le_of_ble_eq_true rfl), (Nat.le_of_ble_eq_true rfl)⟩ hP hD hS [] rfl (by decide) rfl rfl hl.1 rfl rfl (Nat.le_of_ble_eq_true rfl) d_NumberReader_isBetweenDigits_28) hP hD hS hA [] [0, 1, 2] [0, 1, 2] rfl rfl (by decide) (by decide) rfl (by decide) (fun H locs hP hD hS => ?_)
  refine lv_if_eq (tgt := 38) hx hb d_NumberReader_isBetweenDigits_31 rfl (fun hc => ?_) (fun hc => ?_)
  · have h := (if_pos hc).symm.trans h
    exact w_NumberReader_isBetweenDigits_38 X ls H locs h (lv_sub hl [] rfl) hP hD hS
  have h := (if_neg hc).symm.trans h
  refine lv_iconst (v := 1) hx hb d_NumberReader_isBetweenDigits_34 (by decide) ?_
  refine lv_goto (tgt := 39) hx hb d_NumberReader_isBetweenDigits_35 rfl ?_
  exact w_NumberReader_isBetweenDigits_39 X (1 : Int32) ls H locs h (lv_sub hl [] rfl) hP hD hS

set_option maxHeartbeats 4000000 in
set_option maxRecDepth 100000 in
theorem c_NumberReader_isBetweenDigits (l : Launch) (D : va_G) (cC cI : ClassId) (sz : Nat) (a0_0 a1_0 a1_1 : Nat) (v0 : T_NumberReader) (v1 : T_Row) (out : O_NumberReader_isBetweenDigits) (h : f_NumberReader_isBetweenDigits v0 v1 = some out) : Met l y_NumberReader_isBetweenDigits (.code y_NumberReader_isBetweenDigits b_NumberReader_isBetweenDigits 2 (some .boolean) :: BIG) rm_NumberReader_isBetweenDigits (va_Pc [.ref a0_0, .ref a1_0] (xPre D cC cI (wd_NumberReader_isBetweenDigits cC cI a0_0 a1_0 a1_1 v0 v1) sz)) (q_NumberReader_isBetweenDigits D cC cI a0_0 a1_0 a1_1 v0 v1 out (va_A (wd_NumberReader_isBetweenDigits cC cI a0_0 a1_0 a1_1 v0 v1) sz)) 0 0 (va_A (wd_NumberReader_isBetweenDigits cC cI a0_0 a1_0 a1_1 v0 v1) sz) := by
  refine Met.ofW (cc := b_NumberReader_isBetweenDigits) (maxL := 2) (ret := (some .boolean)) (by decide) rfl ?_
  intro p e s m args below meth c s₁ B hml hv
  obtain ⟨rfl, rfl, hP, hD0, hG, hZ⟩ := hv
  have hl := lv_entry [.ref a0_0, .ref a1_0] (n := 2) (Nat.le_of_ble_eq_true rfl)
  rw [lg_entry_eq]
  exact w_NumberReader_isBetweenDigits (x_cx B hml hG hZ) h hl hP hD0.self va_S.rf

abbrev wd_NumberReader_readInteger (cC cI : ClassId) (a0_0 a1_0 a1_1 : Nat) (v0 : T_NumberReader) (v1 : T_Row) : va_W := [(a0_0, .inr (9, [.int v0.1, .int v0.2.1, .int v0.2.2.1, .int v0.2.2.2.1, .int v0.2.2.2.2.1, .int v0.2.2.2.2.2.1, .int v0.2.2.2.2.2.2.1, .long v0.2.2.2.2.2.2.2.1, .int v0.2.2.2.2.2.2.2.2.1, .int v0.2.2.2.2.2.2.2.2.2.1, .int v0.2.2.2.2.2.2.2.2.2.2])), (a1_0, .inr (0, [.ref a1_1, .int v1.2])), (a1_1, .inl (cC, 120, .inl v1.1))]
abbrev O_NumberReader_readInteger : Type := T_NumberReader
abbrev q_NumberReader_readInteger (D : va_G) (cC cI : ClassId) (a0_0 a1_0 a1_1 : Nat) (v1 : T_Row) (out : O_NumberReader_readInteger) (A : Nat → Prop) : Array Value → State → Outcome → State → Prop := va_Qv (fun _ : Unit => True) (fun _ t => va_P D classes (wd_NumberReader_readInteger cC cI a0_0 a1_0 a1_1 out v1) t.heap ∧ va_D A (wd_NumberReader_readInteger cC cI a0_0 a1_0 a1_1 out v1)) A
abbrev rm_NumberReader_readInteger : Room := { frames := 3, cells := 0, slots := 0, locals := 64 }
def J_NumberReader_readInteger_0 (p : Program) (l : Launch) (e : Env) (s : State) (m : MethodId) (args : Array Value) (below : List Frame) (meth : Method) (c : Code) (A : Nat → Prop) (D : va_G) (cC cI : ClassId) (a0_0 a1_0 a1_1 : Nat) (v1 : T_Row) (out : O_NumberReader_readInteger) (k : T_NumberReader → Int32 → Option O_NumberReader_readInteger) : Prop := ∀ (v0 : T_NumberReader) (x2 : Int32) (ls : Array Slot) (H : Heap) (locs : List Loc), k v0 x2 = some out → lv_has ls 4 [(0, .ref a0_0), (1, .ref a1_0), (2, .int x2)] → va_P D classes (wd_NumberReader_readInteger cC cI a0_0 a1_0 a1_1 v0 v1) H → va_D A (wd_NumberReader_readInteger cC cI a0_0 a1_0 a1_1 v0 v1) → va_S A s.heap H locs → W p l e rm_NumberReader_readInteger s m args below meth c H locs 0 0 (MQ below (q_NumberReader_readInteger D cC cI a0_0 a1_0 a1_1 v1 out A) args s 0 0 A) (F0 m 0 ls [])
def J_NumberReader_readInteger_57 (p : Program) (l : Launch) (e : Env) (s : State) (m : MethodId) (args : Array Value) (below : List Frame) (meth : Method) (c : Code) (A : Nat → Prop) (D : va_G) (cC cI : ClassId) (a0_0 a1_0 a1_1 : Nat) (v1 : T_Row) (out : O_NumberReader_readInteger) (k : T_NumberReader → Option O_NumberReader_readInteger) : Prop := ∀ (v0 : T_NumberReader) (ls : Array Slot) (H : Heap) (locs : List Loc), k v0 = some out → lv_has ls 4 [] → va_P D classes (wd_NumberReader_readInteger cC cI a0_0 a1_0 a1_1 v0 v1) H → va_D A (wd_NumberReader_readInteger cC cI a0_0 a1_0 a1_1 v0 v1) → va_S A s.heap H locs → W p l e rm_NumberReader_readInteger s m args below meth c H locs 0 0 (MQ below (q_NumberReader_readInteger D cC cI a0_0 a1_0 a1_1 v1 out A) args s 0 0 A) (F0 m 57 ls [])
def f_NumberReader_readInteger_57 (v1 : T_Row) (v0 : T_NumberReader) : Option O_NumberReader_readInteger := some v0
set_option maxHeartbeats 4000000 in
set_option maxRecDepth 100000 in
theorem w_NumberReader_readInteger_57 {p : Program} {l : Launch} {e : Env} {s : State} {m : MethodId} {args : Array Value} {below : List Frame} {meth : Method} {c : Code} {A : Nat → Prop} {D : va_G} {cC cI : ClassId} {a0_0 a1_0 a1_1 : Nat} {v1 : T_Row} (X : xCX p s m args meth c A D cC cI b_NumberReader_readInteger 4 R_NumberReader none) {out : O_NumberReader_readInteger}   : J_NumberReader_readInteger_57 p l e s m args below meth c A D cC cI a0_0 a1_0 a1_1 v1 out (f_NumberReader_readInteger_57 v1 ) := by
  obtain ⟨hx, hb, hml, hown, htB, ⟨hK, hN⟩, hZ, hA, hr, hlocks⟩ := id X
  intro v0 ls H locs h hl hP hD hS
  obtain rfl := Option.some.inj h
  exact W.vret hx hb hr (fun t ht hW => ⟨⟨(), rfl, trivial, by rw [ht]; exact hP, hD⟩, hS.F ht⟩) hS.2.2 d_NumberReader_readInteger_57 hlocks

def J_NumberReader_readInteger_58 (p : Program) (l : Launch) (e : Env) (s : State) (m : MethodId) (args : Array Value) (below : List Frame) (meth : Method) (c : Code) (A : Nat → Prop) (D : va_G) (cC cI : ClassId) (a0_0 a1_0 a1_1 : Nat) (v1 : T_Row) (out : O_NumberReader_readInteger) (k : T_NumberReader → Int32 → Option O_NumberReader_readInteger) : Prop := ∀ (v0 : T_NumberReader) (x2 : Int32) (ls : Array Slot) (H : Heap) (locs : List Loc), k v0 x2 = some out → lv_has ls 4 [(0, .ref a0_0), (1, .ref a1_0), (2, .int x2)] → va_P D classes (wd_NumberReader_readInteger cC cI a0_0 a1_0 a1_1 v0 v1) H → va_D A (wd_NumberReader_readInteger cC cI a0_0 a1_0 a1_1 v0 v1) → va_S A s.heap H locs → W p l e rm_NumberReader_readInteger s m args below meth c H locs 0 0 (MQ below (q_NumberReader_readInteger D cC cI a0_0 a1_0 a1_1 v1 out A) args s 0 0 A) (F0 m 58 ls [])
def f_NumberReader_readInteger_58 (v1 : T_Row) (k0 : T_NumberReader → Int32 → Option O_NumberReader_readInteger) (v0 : T_NumberReader) (x2 : Int32) : Option O_NumberReader_readInteger := k0 (v0.1, v0.2.1, (v0.2.2.1 + (1 : Int32)), v0.2.2.2.1, v0.2.2.2.2.1, v0.2.2.2.2.2.1, v0.2.2.2.2.2.2.1, v0.2.2.2.2.2.2.2.1, v0.2.2.2.2.2.2.2.2.1, v0.2.2.2.2.2.2.2.2.2.1, v0.2.2.2.2.2.2.2.2.2.2) x2
set_option maxHeartbeats 4000000 in
set_option maxRecDepth 100000 in
theorem w_NumberReader_readInteger_58 {p : Program} {l : Launch} {e : Env} {s : State} {m : MethodId} {args : Array Value} {below : List Frame} {meth : Method} {c : Code} {A : Nat → Prop} {D : va_G} {cC cI : ClassId} {a0_0 a1_0 a1_1 : Nat} {v1 : T_Row} (X : xCX p s m args meth c A D cC cI b_NumberReader_readInteger 4 R_NumberReader none) {out : O_NumberReader_readInteger} {k0 : T_NumberReader → Int32 → Option O_NumberReader_readInteger} (hk0 : J_NumberReader_readInteger_0 p l e s m args below meth c A D cC cI a0_0 a1_0 a1_1 v1 out k0) : J_NumberReader_readInteger_58 p l e s m args below meth c A D cC cI a0_0 a1_0 a1_1 v1 out (f_NumberReader_readInteger_58 v1 k0) := by
  obtain ⟨hx, hb, hml, hown, htB, ⟨hK, hN⟩, hZ, hA, hr, hlocks⟩ := id X
  intro v0 x2 ls H locs h hl hP hD hS
  refine lv_aload_n hx hb d_NumberReader_readInteger_58 rfl (lv_at hl 0 rfl) ?_
  refine lv_dup hx hb d_NumberReader_readInteger_59 rfl ?_
  refine va_get (D := D) (ci := 9) (v := .int v0.2.2.1) (C := R_NumberReader) (T := F_NumberReader) (N := 11) hx hb htB in_NumberReader hown hK hP 0 rfl rfl 2 (by decide) (htB _ b_218) (fun _ h9 => h9) rfl d_NumberReader_readInteger_60 ?_
  refine lv_iconst (v := 1) hx hb d_NumberReader_readInteger_63 (by decide) ?_
  refine lv_iadd hx hb d_NumberReader_readInteger_64 ?_
  refine va_put (D := D) (ci := 9) (v := .int (v0.2.2.1 + (1 : Int32))) (ty := .int) (C := R_NumberReader) (T := F_NumberReader) (N := 11) hx hb htB in_NumberReader t_NumberReader t_NumberReader_ok n_NumberReader hown hK hP hD hS 0 rfl rfl 2 (by decide) (htB _ b_218) (fun _ h9 => h9) rfl (by decide +kernel) rfl rfl (Nat.le_of_ble_eq_true rfl) d_NumberReader_readInteger_65 (fun H locs hP hD hS => ?_)
  have hP : va_P D classes (wd_NumberReader_readInteger cC cI a0_0 a1_0 a1_1 (v0.1, v0.2.1, (v0.2.2.1 + (1 : Int32)), v0.2.2.2.1, v0.2.2.2.2.1, v0.2.2.2.2.2.1, v0.2.2.2.2.2.2.1, v0.2.2.2.2.2.2.2.1, v0.2.2.2.2.2.2.2.2.1, v0.2.2.2.2.2.2.2.2.2.1, v0.2.2.2.2.2.2.2.2.2.2) v1) H := hP
  have hD : va_D A (wd_NumberReader_readInteger cC cI a0_0 a1_0 a1_1 (v0.1, v0.2.1, (v0.2.2.1 + (1 : Int32)), v0.2.2.2.1, v0.2.2.2.2.1, v0.2.2.2.2.2.1, v0.2.2.2.2.2.2.1, v0.2.2.2.2.2.2.2.1, v0.2.2.2.2.2.2.2.2.1, v0.2.2.2.2.2.2.2.2.2.1, v0.2.2.2.2.2.2.2.2.2.2) v1) := hD
  refine lv_goto (tgt := 0) hx hb d_NumberReader_readInteger_68 rfl ?_
  exact hk0 (v0.1, v0.2.1, (v0.2.2.1 + (1 : Int32)), v0.2.2.2.1, v0.2.2.2.2.1, v0.2.2.2.2.2.1, v0.2.2.2.2.2.2.1, v0.2.2.2.2.2.2.2.1, v0.2.2.2.2.2.2.2.2.1, v0.2.2.2.2.2.2.2.2.2.1, v0.2.2.2.2.2.2.2.2.2.2) x2 ls H locs h (lv_sub hl [0, 1, 2] rfl) hP hD hS

def f_NumberReader_readInteger_0 (v1 : T_Row)  : Nat → T_NumberReader → Int32 → Option O_NumberReader_readInteger
  | 0, _, _ => none
  | n + 1, v0, x2 => (if v0.2.1 ≤ v0.2.2.1 then some v0 else (f_NumberReader_bodyAt v0 v1 v0.2.2.1).bind (fun o17 => (f_Deci_isDigit o17).bind (fun o22 => (if o22 = 0 then (if x2 = 0 then f_NumberReader_readInteger_57 v1 v0 else (if o17 = (44 : Int32) then (f_NumberReader_isBetweenDigits v0 v1).bind (fun o51 => (if o51 = 0 then f_NumberReader_readInteger_57 v1 v0 else f_NumberReader_readInteger_58 v1 (f_NumberReader_readInteger_0 v1 n) v0 x2)) else f_NumberReader_readInteger_57 v1 v0)) else (f_NumberReader_takeDigit v0 (o17 - (48 : Int32))).bind (fun o33 => f_NumberReader_readInteger_58 v1 (f_NumberReader_readInteger_0 v1 n) o33 x2)))))
set_option maxHeartbeats 4000000 in
set_option maxRecDepth 100000 in
theorem w_NumberReader_readInteger_0 {p : Program} {l : Launch} {e : Env} {s : State} {m : MethodId} {args : Array Value} {below : List Frame} {meth : Method} {c : Code} {A : Nat → Prop} {D : va_G} {cC cI : ClassId} {a0_0 a1_0 a1_1 : Nat} {v1 : T_Row} (X : xCX p s m args meth c A D cC cI b_NumberReader_readInteger 4 R_NumberReader none) {out : O_NumberReader_readInteger}   : ∀ n : Nat, J_NumberReader_readInteger_0 p l e s m args below meth c A D cC cI a0_0 a1_0 a1_1 v1 out (f_NumberReader_readInteger_0 v1  n) := by
  obtain ⟨hx, hb, hml, hown, htB, ⟨hK, hN⟩, hZ, hA, hr, hlocks⟩ := id X
  intro n
  induction n with
  | zero =>
    intro v0 x2 ls H locs h hl hP hD hS
    cases h
  | succ n ih =>
    intro v0 x2 ls H locs h hl hP hD hS
    refine lv_aload_n hx hb d_NumberReader_readInteger_0 rfl (lv_at hl 0 rfl) ?_
    refine va_get (D := D) (ci := 9) (v := .int v0.2.2.1) (C := R_NumberReader) (T := F_NumberReader) (N := 11) hx hb htB in_NumberReader hown hK hP 0 rfl rfl 2 (by decide) (htB _ b_218) (fun _ h9 => h9) rfl d_NumberReader_readInteger_1 ?_
    refine lv_aload_n hx hb d_NumberReader_readInteger_4 rfl (lv_at hl 0 rfl) ?_
    refine va_get (D := D) (ci := 9) (v := .int v0.2.1) (C := R_NumberReader) (T := F_NumberReader) (N := 11) hx hb htB in_NumberReader hown hK hP 0 rfl rfl 1 (by decide) (htB _ b_217) (fun _ h9 => h9) rfl d_NumberReader_readInteger_5 ?_
    refine lv_icmp_ge (tgt := 71) hx hb d_NumberReader_readInteger_8 rfl (fun hc => ?_) (fun hc => ?_)
    · have h := (if_pos hc).symm.trans h
      obtain rfl := Option.some.inj h
      exact W.vret hx hb hr (fun t ht hW => ⟨⟨(), rfl, trivial, by rw [ht]; exact hP, hD⟩, hS.F ht⟩) hS.2.2 d_NumberReader_readInteger_71 hlocks
    have h := (if_neg hc).symm.trans h
    refine lv_aload_n hx hb d_NumberReader_readInteger_11 rfl (lv_at hl 0 rfl) ?_
    refine lv_aload_n hx hb d_NumberReader_readInteger_12 rfl (lv_at hl 1 rfl) ?_
    refine lv_aload_n hx hb d_NumberReader_readInteger_13 rfl (lv_at hl 0 rfl) ?_
    refine va_get (D := D) (ci := 9) (v := .int v0.2.2.1) (C := R_NumberReader) (T := F_NumberReader) (N := 11) hx hb htB in_NumberReader hown hK hP 0 rfl rfl 2 (by decide) (htB _ b_218) (fun _ h9 => h9) rfl d_NumberReader_readInteger_14 ?_
    obtain ⟨o17, ho17, h⟩ := x_bnd h
    refine x_calli (r0 := o17) (ws2 := (wd_NumberReader_readInteger cC cI a0_0 a1_0 a1_1 v0 v1)) (x_runV (As := [.ref a1_0, .int v0.2.2.1]) (rest := []) X (c_NumberReader_bodyAt l D cC cI H.size a0_0 a1_0 a1_1 v0 v1 v0.2.2.1 o17 ho17) b_235 2 (htB _ b_238) (htB _ b_236) (htB _ b_237) (htB _ b_228) ⟨by decide, by decide, by decide +kernel⟩ ⟨(Nat.le_of_ble_eq_true rfl), (Nat.le_of_ble_eq_true rfl)⟩ 0 rfl rfl hP hD hS [0, 1, 2] rfl (by decide) rfl rfl hl.1 rfl rfl (Nat.le_of_ble_eq_true rfl) d_NumberReader_readInteger_17) hP hD hS hA [0, 1, 2] [] [0, 1, 2] rfl rfl (by decide) (by decide) rfl (by decide) (fun H locs hP hD hS => ?_)
    refine lv_istore_n (lv' := [(3, .int o17), (0, .ref a0_0), (1, .ref a1_0), (2, .int x2)]) hx hb d_NumberReader_readInteger_20 rfl hl (by decide) rfl (fun ls hl => ?_)
    refine lv_iload_n hx hb d_NumberReader_readInteger_21 rfl (lv_at hl 0 rfl) ?_
    obtain ⟨o22, ho22, h⟩ := x_bnd h
    refine x_calli (r0 := o22) (ws2 := (wd_NumberReader_readInteger cC cI a0_0 a1_0 a1_1 v0 v1)) (x_runSN (As := [.int o17]) (rest := []) X (c_Deci_isDigit l D cC cI H.size o17 o22 ho22) b_239 1 (hN _ n_77) (htB _ b_240) (htB _ b_56) ⟨by decide, by decide, by decide +kernel⟩ ⟨(Nat.le_of_ble_eq_true rfl), (Nat.le_of_ble_eq_true rfl)⟩ hP hD hS [] rfl (by decide) rfl rfl hl.1 rfl rfl (Nat.le_of_ble_eq_true rfl) d_NumberReader_readInteger_22) hP hD hS hA [] [0, 1, 2] [0, 1, 2] rfl rfl (by decide) (by decide) rfl (by decide) (fun H locs hP hD hS => ?_)
    refine lv_if_eq (tgt := 39) hx hb d_NumberReader_readInteger_25 rfl (fun hc => ?_) (fun hc => ?_)
    · have h := (if_pos hc).symm.trans h
      refine lv_iload_n hx hb d_NumberReader_readInteger_39 rfl (lv_at hl 3 rfl) ?_
      refine lv_if_eq (tgt := 57) hx hb d_NumberReader_readInteger_40 rfl (fun hc => ?_) (fun hc => ?_)
      · have h := (if_pos hc).symm.trans h
        exact w_NumberReader_readInteger_57 X v0 ls H locs h (lv_sub hl [] rfl) hP hD hS
      have h := (if_neg hc).symm.trans h
      refine lv_iload_n hx hb d_NumberReader_readInteger_43 rfl (lv_at hl 0 rfl) ?_
      refine lv_bipush (v := 44) hx hb d_NumberReader_readInteger_44 (by decide) ?_
      refine lv_icmp_ne (tgt := 57) hx hb d_NumberReader_readInteger_46 rfl (fun hc => ?_) (fun hc => ?_)
      · have h := (if_neg hc).symm.trans h
        exact w_NumberReader_readInteger_57 X v0 ls H locs h (lv_sub hl [] rfl) hP hD hS
      have h := (if_pos hc).symm.trans h
      refine lv_aload_n hx hb d_NumberReader_readInteger_49 rfl (lv_at hl 1 rfl) ?_
      refine lv_aload_n hx hb d_NumberReader_readInteger_50 rfl (lv_at hl 2 rfl) ?_
      obtain ⟨o51, ho51, h⟩ := x_bnd h
      refine x_calli (r0 := o51) (ws2 := (wd_NumberReader_readInteger cC cI a0_0 a1_0 a1_1 v0 v1)) (x_runV (As := [.ref a1_0]) (rest := []) X (c_NumberReader_isBetweenDigits l D cC cI H.size a0_0 a1_0 a1_1 v0 v1 o51 ho51) b_241 1 (htB _ b_244) (htB _ b_242) (htB _ b_243) (htB _ b_228) ⟨by decide, by decide, by decide +kernel⟩ ⟨(Nat.le_of_ble_eq_true rfl), (Nat.le_of_ble_eq_true rfl)⟩ 0 rfl rfl hP hD hS [0, 1, 2] rfl (by decide) rfl rfl hl.1 rfl rfl (Nat.le_of_ble_eq_true rfl) d_NumberReader_readInteger_51) hP hD hS hA [0, 1, 2] [] [0, 1, 2] rfl rfl (by decide) (by decide) rfl (by decide) (fun H locs hP hD hS => ?_)
      refine lv_if_ne (tgt := 58) hx hb d_NumberReader_readInteger_54 rfl (fun hc => ?_) (fun hc => ?_)
      · have h := (if_neg hc).symm.trans h
        exact w_NumberReader_readInteger_58 X ih v0 x2 ls H locs h (lv_sub hl [1, 2, 3] rfl) hP hD hS
      have h := (if_pos hc).symm.trans h
      exact w_NumberReader_readInteger_57 X v0 ls H locs h (lv_sub hl [] rfl) hP hD hS
    have h := (if_neg hc).symm.trans h
    refine lv_aload_n hx hb d_NumberReader_readInteger_28 rfl (lv_at hl 1 rfl) ?_
    refine lv_iload_n hx hb d_NumberReader_readInteger_29 rfl (lv_at hl 0 rfl) ?_
    refine lv_bipush (v := 48) hx hb d_NumberReader_readInteger_30 (by decide) ?_
    refine lv_isub hx hb d_NumberReader_readInteger_32 ?_
    obtain ⟨o33, ho33, h⟩ := x_bnd h
    refine x_callv (ws2 := (wd_NumberReader_readInteger cC cI a0_0 a1_0 a1_1 o33 v1)) (x_runV (As := [.int (o17 - (48 : Int32))]) (rest := []) X (c_NumberReader_takeDigit l D cC cI H.size a0_0 v0 (o17 - (48 : Int32)) o33 ho33) b_245 1 (htB _ b_248) (htB _ b_246) (htB _ b_247) (htB _ b_228) ⟨by decide, by decide, by decide +kernel⟩ ⟨(Nat.le_of_ble_eq_true rfl), (Nat.le_of_ble_eq_true rfl)⟩ 0 rfl rfl hP hD hS [0] rfl (by decide) rfl rfl hl.1 rfl rfl (Nat.le_of_ble_eq_true rfl) d_NumberReader_readInteger_33) hP hD hS hA [0] [1, 2] [2, 0, 1] rfl rfl (by decide) (by decide) rfl (by decide) (fun H locs hP hD hS => ?_)
    refine lv_goto (tgt := 58) hx hb d_NumberReader_readInteger_36 rfl ?_
    exact w_NumberReader_readInteger_58 X ih o33 x2 ls H locs h (lv_sub hl [1, 2, 3] rfl) hP hD hS

def f_NumberReader_readInteger (v0 : T_NumberReader) (v1 : T_Row) (v2 : Int32) : Option O_NumberReader_readInteger := f_NumberReader_readInteger_0 v1 FU v0 v2
set_option maxHeartbeats 4000000 in
set_option maxRecDepth 100000 in
theorem w_NumberReader_readInteger {p : Program} {l : Launch} {e : Env} {s : State} {m : MethodId} {args : Array Value} {below : List Frame} {meth : Method} {c : Code} {A : Nat → Prop} {D : va_G} {cC cI : ClassId} {a0_0 a1_0 a1_1 : Nat} {v1 : T_Row} (X : xCX p s m args meth c A D cC cI b_NumberReader_readInteger 4 R_NumberReader none) {out : O_NumberReader_readInteger} (v0 : T_NumberReader) (v2 : Int32) {ls : Array Slot} {H : Heap} {locs : List Loc} (h : f_NumberReader_readInteger v0 v1 v2 = some out) (hl : lv_has ls 4 [(0, .ref a0_0), (1, .ref a1_0), (2, .int v2)]) (hP : va_P D classes (wd_NumberReader_readInteger cC cI a0_0 a1_0 a1_1 v0 v1) H) (hD : va_D A (wd_NumberReader_readInteger cC cI a0_0 a1_0 a1_1 v0 v1)) (hS : va_S A s.heap H locs) : W p l e rm_NumberReader_readInteger s m args below meth c H locs 0 0 (MQ below (q_NumberReader_readInteger D cC cI a0_0 a1_0 a1_1 v1 out A) args s 0 0 A) (F0 m 0 ls []) := by
  obtain ⟨hx, hb, hml, hown, htB, ⟨hK, hN⟩, hZ, hA, hr, hlocks⟩ := id X
  exact w_NumberReader_readInteger_0 X FU v0 v2 ls H locs h (lv_sub hl [0, 1, 2] rfl) hP hD hS

set_option maxHeartbeats 4000000 in
set_option maxRecDepth 100000 in
theorem c_NumberReader_readInteger (l : Launch) (D : va_G) (cC cI : ClassId) (sz : Nat) (a0_0 a1_0 a1_1 : Nat) (v0 : T_NumberReader) (v1 : T_Row) (v2 : Int32) (out : O_NumberReader_readInteger) (h : f_NumberReader_readInteger v0 v1 v2 = some out) : Met l y_NumberReader_readInteger (.code y_NumberReader_readInteger b_NumberReader_readInteger 4 none :: BIG) rm_NumberReader_readInteger (va_Pc [.ref a0_0, .ref a1_0, .int v2] (xPre D cC cI (wd_NumberReader_readInteger cC cI a0_0 a1_0 a1_1 v0 v1) sz)) (q_NumberReader_readInteger D cC cI a0_0 a1_0 a1_1 v1 out (va_A (wd_NumberReader_readInteger cC cI a0_0 a1_0 a1_1 v0 v1) sz)) 0 0 (va_A (wd_NumberReader_readInteger cC cI a0_0 a1_0 a1_1 v0 v1) sz) := by
  refine Met.ofW (cc := b_NumberReader_readInteger) (maxL := 4) (ret := none) (by decide) rfl ?_
  intro p e s m args below meth c s₁ B hml hv
  obtain ⟨rfl, rfl, hP, hD0, hG, hZ⟩ := hv
  have hl := lv_entry [.ref a0_0, .ref a1_0, .int v2] (n := 4) (Nat.le_of_ble_eq_true rfl)
  rw [lg_entry_eq]
  exact w_NumberReader_readInteger (x_cx B hml hG hZ) v0 v2 h hl hP hD0.self va_S.rf

abbrev wd_NumberReader_readFraction (cC cI : ClassId) (a0_0 a1_0 a1_1 : Nat) (v0 : T_NumberReader) (v1 : T_Row) : va_W := [(a0_0, .inr (9, [.int v0.1, .int v0.2.1, .int v0.2.2.1, .int v0.2.2.2.1, .int v0.2.2.2.2.1, .int v0.2.2.2.2.2.1, .int v0.2.2.2.2.2.2.1, .long v0.2.2.2.2.2.2.2.1, .int v0.2.2.2.2.2.2.2.2.1, .int v0.2.2.2.2.2.2.2.2.2.1, .int v0.2.2.2.2.2.2.2.2.2.2])), (a1_0, .inr (0, [.ref a1_1, .int v1.2])), (a1_1, .inl (cC, 120, .inl v1.1))]
abbrev O_NumberReader_readFraction : Type := T_NumberReader
abbrev q_NumberReader_readFraction (D : va_G) (cC cI : ClassId) (a0_0 a1_0 a1_1 : Nat) (v1 : T_Row) (out : O_NumberReader_readFraction) (A : Nat → Prop) : Array Value → State → Outcome → State → Prop := va_Qv (fun _ : Unit => True) (fun _ t => va_P D classes (wd_NumberReader_readFraction cC cI a0_0 a1_0 a1_1 out v1) t.heap ∧ va_D A (wd_NumberReader_readFraction cC cI a0_0 a1_0 a1_1 out v1)) A
abbrev rm_NumberReader_readFraction : Room := { frames := 3, cells := 0, slots := 0, locals := 62 }
def J_NumberReader_readFraction_0 (p : Program) (l : Launch) (e : Env) (s : State) (m : MethodId) (args : Array Value) (below : List Frame) (meth : Method) (c : Code) (A : Nat → Prop) (D : va_G) (cC cI : ClassId) (a0_0 a1_0 a1_1 : Nat) (v1 : T_Row) (out : O_NumberReader_readFraction) (k : T_NumberReader → Option O_NumberReader_readFraction) : Prop := ∀ (v0 : T_NumberReader) (ls : Array Slot) (H : Heap) (locs : List Loc), k v0 = some out → lv_has ls 2 [(0, .ref a0_0), (1, .ref a1_0)] → va_P D classes (wd_NumberReader_readFraction cC cI a0_0 a1_0 a1_1 v0 v1) H → va_D A (wd_NumberReader_readFraction cC cI a0_0 a1_0 a1_1 v0 v1) → va_S A s.heap H locs → W p l e rm_NumberReader_readFraction s m args below meth c H locs 0 0 (MQ below (q_NumberReader_readFraction D cC cI a0_0 a1_0 a1_1 v1 out A) args s 0 0 A) (F0 m 0 ls [])
def J_NumberReader_readFraction_65 (p : Program) (l : Launch) (e : Env) (s : State) (m : MethodId) (args : Array Value) (below : List Frame) (meth : Method) (c : Code) (A : Nat → Prop) (D : va_G) (cC cI : ClassId) (a0_0 a1_0 a1_1 : Nat) (v1 : T_Row) (out : O_NumberReader_readFraction) (k : T_NumberReader → Option O_NumberReader_readFraction) : Prop := ∀ (v0 : T_NumberReader) (ls : Array Slot) (H : Heap) (locs : List Loc), k v0 = some out → lv_has ls 2 [] → va_P D classes (wd_NumberReader_readFraction cC cI a0_0 a1_0 a1_1 v0 v1) H → va_D A (wd_NumberReader_readFraction cC cI a0_0 a1_0 a1_1 v0 v1) → va_S A s.heap H locs → W p l e rm_NumberReader_readFraction s m args below meth c H locs 0 0 (MQ below (q_NumberReader_readFraction D cC cI a0_0 a1_0 a1_1 v1 out A) args s 0 0 A) (F0 m 65 ls [])
def f_NumberReader_readFraction_65 (v1 : T_Row) (v0 : T_NumberReader) : Option O_NumberReader_readFraction := some v0
set_option maxHeartbeats 4000000 in
set_option maxRecDepth 100000 in
theorem w_NumberReader_readFraction_65 {p : Program} {l : Launch} {e : Env} {s : State} {m : MethodId} {args : Array Value} {below : List Frame} {meth : Method} {c : Code} {A : Nat → Prop} {D : va_G} {cC cI : ClassId} {a0_0 a1_0 a1_1 : Nat} {v1 : T_Row} (X : xCX p s m args meth c A D cC cI b_NumberReader_readFraction 2 R_NumberReader none) {out : O_NumberReader_readFraction}   : J_NumberReader_readFraction_65 p l e s m args below meth c A D cC cI a0_0 a1_0 a1_1 v1 out (f_NumberReader_readFraction_65 v1 ) := by
  obtain ⟨hx, hb, hml, hown, htB, ⟨hK, hN⟩, hZ, hA, hr, hlocks⟩ := id X
  intro v0 ls H locs h hl hP hD hS
  obtain rfl := Option.some.inj h
  exact W.vret hx hb hr (fun t ht hW => ⟨⟨(), rfl, trivial, by rw [ht]; exact hP, hD⟩, hS.F ht⟩) hS.2.2 d_NumberReader_readFraction_65 hlocks

def f_NumberReader_readFraction_0 (v1 : T_Row)  : Nat → T_NumberReader → Option O_NumberReader_readFraction
  | 0, _ => none
  | n + 1, v0 => (if v0.2.1 ≤ v0.2.2.1 then f_NumberReader_readFraction_65 v1 v0 else (f_NumberReader_bodyAt v0 v1 v0.2.2.1).bind (fun o17 => (f_Deci_isDigit o17).bind (fun o20 => (if o20 = 0 then f_NumberReader_readFraction_65 v1 v0 else (f_NumberReader_bodyAt v0 v1 v0.2.2.1).bind (fun o33 => (f_NumberReader_takeDigit v0 (o33 - (48 : Int32))).bind (fun o39 => (f_NumberReader_readFraction_0 v1 n) (o39.1, o39.2.1, (o39.2.2.1 + (1 : Int32)), o39.2.2.2.1, o39.2.2.2.2.1, (o39.2.2.2.2.2.1 + (1 : Int32)), o39.2.2.2.2.2.2.1, o39.2.2.2.2.2.2.2.1, o39.2.2.2.2.2.2.2.2.1, o39.2.2.2.2.2.2.2.2.2.1, o39.2.2.2.2.2.2.2.2.2.2)))))))
set_option maxHeartbeats 4000000 in
set_option maxRecDepth 100000 in
theorem w_NumberReader_readFraction_0 {p : Program} {l : Launch} {e : Env} {s : State} {m : MethodId} {args : Array Value} {below : List Frame} {meth : Method} {c : Code} {A : Nat → Prop} {D : va_G} {cC cI : ClassId} {a0_0 a1_0 a1_1 : Nat} {v1 : T_Row} (X : xCX p s m args meth c A D cC cI b_NumberReader_readFraction 2 R_NumberReader none) {out : O_NumberReader_readFraction}   : ∀ n : Nat, J_NumberReader_readFraction_0 p l e s m args below meth c A D cC cI a0_0 a1_0 a1_1 v1 out (f_NumberReader_readFraction_0 v1  n) := by
  obtain ⟨hx, hb, hml, hown, htB, ⟨hK, hN⟩, hZ, hA, hr, hlocks⟩ := id X
  intro n
  induction n with
  | zero =>
    intro v0 ls H locs h hl hP hD hS
    cases h
  | succ n ih =>
    intro v0 ls H locs h hl hP hD hS
    refine lv_aload_n hx hb d_NumberReader_readFraction_0 rfl (lv_at hl 0 rfl) ?_
    refine va_get (D := D) (ci := 9) (v := .int v0.2.2.1) (C := R_NumberReader) (T := F_NumberReader) (N := 11) hx hb htB in_NumberReader hown hK hP 0 rfl rfl 2 (by decide) (htB _ b_218) (fun _ h9 => h9) rfl d_NumberReader_readFraction_1 ?_
    refine lv_aload_n hx hb d_NumberReader_readFraction_4 rfl (lv_at hl 0 rfl) ?_
    refine va_get (D := D) (ci := 9) (v := .int v0.2.1) (C := R_NumberReader) (T := F_NumberReader) (N := 11) hx hb htB in_NumberReader hown hK hP 0 rfl rfl 1 (by decide) (htB _ b_217) (fun _ h9 => h9) rfl d_NumberReader_readFraction_5 ?_
    refine lv_icmp_ge (tgt := 65) hx hb d_NumberReader_readFraction_8 rfl (fun hc => ?_) (fun hc => ?_)
    · have h := (if_pos hc).symm.trans h
      exact w_NumberReader_readFraction_65 X v0 ls H locs h (lv_sub hl [] rfl) hP hD hS
    have h := (if_neg hc).symm.trans h
    refine lv_aload_n hx hb d_NumberReader_readFraction_11 rfl (lv_at hl 0 rfl) ?_
    refine lv_aload_n hx hb d_NumberReader_readFraction_12 rfl (lv_at hl 1 rfl) ?_
    refine lv_aload_n hx hb d_NumberReader_readFraction_13 rfl (lv_at hl 0 rfl) ?_
    refine va_get (D := D) (ci := 9) (v := .int v0.2.2.1) (C := R_NumberReader) (T := F_NumberReader) (N := 11) hx hb htB in_NumberReader hown hK hP 0 rfl rfl 2 (by decide) (htB _ b_218) (fun _ h9 => h9) rfl d_NumberReader_readFraction_14 ?_
    obtain ⟨o17, ho17, h⟩ := x_bnd h
    refine x_calli (r0 := o17) (ws2 := (wd_NumberReader_readFraction cC cI a0_0 a1_0 a1_1 v0 v1)) (x_runV (As := [.ref a1_0, .int v0.2.2.1]) (rest := []) X (c_NumberReader_bodyAt l D cC cI H.size a0_0 a1_0 a1_1 v0 v1 v0.2.2.1 o17 ho17) b_235 2 (htB _ b_238) (htB _ b_236) (htB _ b_237) (htB _ b_228) ⟨by decide, by decide, by decide +kernel⟩ ⟨(Nat.le_of_ble_eq_true rfl), (Nat.le_of_ble_eq_true rfl)⟩ 0 rfl rfl hP hD hS [0, 1, 2] rfl (by decide) rfl rfl hl.1 rfl rfl (Nat.le_of_ble_eq_true rfl) d_NumberReader_readFraction_17) hP hD hS hA [0, 1, 2] [] [0, 1, 2] rfl rfl (by decide) (by decide) rfl (by decide) (fun H locs hP hD hS => ?_)
    obtain ⟨o20, ho20, h⟩ := x_bnd h
    refine x_calli (r0 := o20) (ws2 := (wd_NumberReader_readFraction cC cI a0_0 a1_0 a1_1 v0 v1)) (x_runSN (As := [.int o17]) (rest := []) X (c_Deci_isDigit l D cC cI H.size o17 o20 ho20) b_239 1 (hN _ n_77) (htB _ b_240) (htB _ b_56) ⟨by decide, by decide, by decide +kernel⟩ ⟨(Nat.le_of_ble_eq_true rfl), (Nat.le_of_ble_eq_true rfl)⟩ hP hD hS [] rfl (by decide) rfl rfl hl.1 rfl rfl (Nat.le_of_ble_eq_true rfl) d_NumberReader_readFraction_20) hP hD hS hA [] [0, 1, 2] [0, 1, 2] rfl rfl (by decide) (by decide) rfl (by decide) (fun H locs hP hD hS => ?_)
    refine lv_if_eq (tgt := 65) hx hb d_NumberReader_readFraction_23 rfl (fun hc => ?_) (fun hc => ?_)
    · have h := (if_pos hc).symm.trans h
      exact w_NumberReader_readFraction_65 X v0 ls H locs h (lv_sub hl [] rfl) hP hD hS
    have h := (if_neg hc).symm.trans h
    refine lv_aload_n hx hb d_NumberReader_readFraction_26 rfl (lv_at hl 0 rfl) ?_
    refine lv_aload_n hx hb d_NumberReader_readFraction_27 rfl (lv_at hl 0 rfl) ?_
    refine lv_aload_n hx hb d_NumberReader_readFraction_28 rfl (lv_at hl 1 rfl) ?_
    refine lv_aload_n hx hb d_NumberReader_readFraction_29 rfl (lv_at hl 0 rfl) ?_
    refine va_get (D := D) (ci := 9) (v := .int v0.2.2.1) (C := R_NumberReader) (T := F_NumberReader) (N := 11) hx hb htB in_NumberReader hown hK hP 0 rfl rfl 2 (by decide) (htB _ b_218) (fun _ h9 => h9) rfl d_NumberReader_readFraction_30 ?_
    obtain ⟨o33, ho33, h⟩ := x_bnd h
    refine x_calli (r0 := o33) (ws2 := (wd_NumberReader_readFraction cC cI a0_0 a1_0 a1_1 v0 v1)) (x_runV (As := [.ref a1_0, .int v0.2.2.1]) (rest := [.ref a0_0]) X (c_NumberReader_bodyAt l D cC cI H.size a0_0 a1_0 a1_1 v0 v1 v0.2.2.1 o33 ho33) b_235 2 (htB _ b_238) (htB _ b_236) (htB _ b_237) (htB _ b_228) ⟨by decide, by decide, by decide +kernel⟩ ⟨(Nat.le_of_ble_eq_true rfl), (Nat.le_of_ble_eq_true rfl)⟩ 0 rfl rfl hP hD hS [0, 1, 2] rfl (by decide) rfl rfl hl.1 rfl rfl (Nat.le_of_ble_eq_true rfl) d_NumberReader_readFraction_33) hP hD hS hA [0, 1, 2] [] [0, 1, 2] rfl rfl (by decide) (by decide) rfl (by decide) (fun H locs hP hD hS => ?_)
    refine lv_bipush (v := 48) hx hb d_NumberReader_readFraction_36 (by decide) ?_
    refine lv_isub hx hb d_NumberReader_readFraction_38 ?_
    obtain ⟨o39, ho39, h⟩ := x_bnd h
    refine x_callv (ws2 := (wd_NumberReader_readFraction cC cI a0_0 a1_0 a1_1 o39 v1)) (x_runV (As := [.int (o33 - (48 : Int32))]) (rest := []) X (c_NumberReader_takeDigit l D cC cI H.size a0_0 v0 (o33 - (48 : Int32)) o39 ho39) b_245 1 (htB _ b_248) (htB _ b_246) (htB _ b_247) (htB _ b_228) ⟨by decide, by decide, by decide +kernel⟩ ⟨(Nat.le_of_ble_eq_true rfl), (Nat.le_of_ble_eq_true rfl)⟩ 0 rfl rfl hP hD hS [0] rfl (by decide) rfl rfl hl.1 rfl rfl (Nat.le_of_ble_eq_true rfl) d_NumberReader_readFraction_39) hP hD hS hA [0] [1, 2] [2, 0, 1] rfl rfl (by decide) (by decide) rfl (by decide) (fun H locs hP hD hS => ?_)
    refine lv_aload_n hx hb d_NumberReader_readFraction_42 rfl (lv_at hl 0 rfl) ?_
    refine lv_dup hx hb d_NumberReader_readFraction_43 rfl ?_
    refine va_get (D := D) (ci := 9) (v := .int o39.2.2.2.2.2.1) (C := R_NumberReader) (T := F_NumberReader) (N := 11) hx hb htB in_NumberReader hown hK hP 0 rfl rfl 5 (by decide) (htB _ b_220) (fun _ h9 => h9) rfl d_NumberReader_readFraction_44 ?_
    refine lv_iconst (v := 1) hx hb d_NumberReader_readFraction_47 (by decide) ?_
    refine lv_iadd hx hb d_NumberReader_readFraction_48 ?_
    refine va_put (D := D) (ci := 9) (v := .int (o39.2.2.2.2.2.1 + (1 : Int32))) (ty := .int) (C := R_NumberReader) (T := F_NumberReader) (N := 11) hx hb htB in_NumberReader t_NumberReader t_NumberReader_ok n_NumberReader hown hK hP hD hS 0 rfl rfl 5 (by decide) (htB _ b_220) (fun _ h9 => h9) rfl (by decide +kernel) rfl rfl (Nat.le_of_ble_eq_true rfl) d_NumberReader_readFraction_49 (fun H locs hP hD hS => ?_)
    have hP : va_P D classes (wd_NumberReader_readFraction cC cI a0_0 a1_0 a1_1 (o39.1, o39.2.1, o39.2.2.1, o39.2.2.2.1, o39.2.2.2.2.1, (o39.2.2.2.2.2.1 + (1 : Int32)), o39.2.2.2.2.2.2.1, o39.2.2.2.2.2.2.2.1, o39.2.2.2.2.2.2.2.2.1, o39.2.2.2.2.2.2.2.2.2.1, o39.2.2.2.2.2.2.2.2.2.2) v1) H := hP
    have hD : va_D A (wd_NumberReader_readFraction cC cI a0_0 a1_0 a1_1 (o39.1, o39.2.1, o39.2.2.1, o39.2.2.2.1, o39.2.2.2.2.1, (o39.2.2.2.2.2.1 + (1 : Int32)), o39.2.2.2.2.2.2.1, o39.2.2.2.2.2.2.2.1, o39.2.2.2.2.2.2.2.2.1, o39.2.2.2.2.2.2.2.2.2.1, o39.2.2.2.2.2.2.2.2.2.2) v1) := hD
    refine lv_aload_n hx hb d_NumberReader_readFraction_52 rfl (lv_at hl 0 rfl) ?_
    refine lv_dup hx hb d_NumberReader_readFraction_53 rfl ?_
    refine va_get (D := D) (ci := 9) (v := .int o39.2.2.1) (C := R_NumberReader) (T := F_NumberReader) (N := 11) hx hb htB in_NumberReader hown hK hP 0 rfl rfl 2 (by decide) (htB _ b_218) (fun _ h9 => h9) rfl d_NumberReader_readFraction_54 ?_
    refine lv_iconst (v := 1) hx hb d_NumberReader_readFraction_57 (by decide) ?_
    refine lv_iadd hx hb d_NumberReader_readFraction_58 ?_
    refine va_put (D := D) (ci := 9) (v := .int (o39.2.2.1 + (1 : Int32))) (ty := .int) (C := R_NumberReader) (T := F_NumberReader) (N := 11) hx hb htB in_NumberReader t_NumberReader t_NumberReader_ok n_NumberReader hown hK hP hD hS 0 rfl rfl 2 (by decide) (htB _ b_218) (fun _ h9 => h9) rfl (by decide +kernel) rfl rfl (Nat.le_of_ble_eq_true rfl) d_NumberReader_readFraction_59 (fun H locs hP hD hS => ?_)
    have hP : va_P D classes (wd_NumberReader_readFraction cC cI a0_0 a1_0 a1_1 (o39.1, o39.2.1, (o39.2.2.1 + (1 : Int32)), o39.2.2.2.1, o39.2.2.2.2.1, (o39.2.2.2.2.2.1 + (1 : Int32)), o39.2.2.2.2.2.2.1, o39.2.2.2.2.2.2.2.1, o39.2.2.2.2.2.2.2.2.1, o39.2.2.2.2.2.2.2.2.2.1, o39.2.2.2.2.2.2.2.2.2.2) v1) H := hP
    have hD : va_D A (wd_NumberReader_readFraction cC cI a0_0 a1_0 a1_1 (o39.1, o39.2.1, (o39.2.2.1 + (1 : Int32)), o39.2.2.2.1, o39.2.2.2.2.1, (o39.2.2.2.2.2.1 + (1 : Int32)), o39.2.2.2.2.2.2.1, o39.2.2.2.2.2.2.2.1, o39.2.2.2.2.2.2.2.2.1, o39.2.2.2.2.2.2.2.2.2.1, o39.2.2.2.2.2.2.2.2.2.2) v1) := hD
    refine lv_goto (tgt := 0) hx hb d_NumberReader_readFraction_62 rfl ?_
    exact ih (o39.1, o39.2.1, (o39.2.2.1 + (1 : Int32)), o39.2.2.2.1, o39.2.2.2.2.1, (o39.2.2.2.2.2.1 + (1 : Int32)), o39.2.2.2.2.2.2.1, o39.2.2.2.2.2.2.2.1, o39.2.2.2.2.2.2.2.2.1, o39.2.2.2.2.2.2.2.2.2.1, o39.2.2.2.2.2.2.2.2.2.2) ls H locs h (lv_sub hl [0, 1] rfl) hP hD hS

def f_NumberReader_readFraction (v0 : T_NumberReader) (v1 : T_Row) : Option O_NumberReader_readFraction := f_NumberReader_readFraction_0 v1 FU v0
set_option maxHeartbeats 4000000 in
set_option maxRecDepth 100000 in
theorem w_NumberReader_readFraction {p : Program} {l : Launch} {e : Env} {s : State} {m : MethodId} {args : Array Value} {below : List Frame} {meth : Method} {c : Code} {A : Nat → Prop} {D : va_G} {cC cI : ClassId} {a0_0 a1_0 a1_1 : Nat} {v1 : T_Row} (X : xCX p s m args meth c A D cC cI b_NumberReader_readFraction 2 R_NumberReader none) {out : O_NumberReader_readFraction} (v0 : T_NumberReader) {ls : Array Slot} {H : Heap} {locs : List Loc} (h : f_NumberReader_readFraction v0 v1 = some out) (hl : lv_has ls 2 [(0, .ref a0_0), (1, .ref a1_0)]) (hP : va_P D classes (wd_NumberReader_readFraction cC cI a0_0 a1_0 a1_1 v0 v1) H) (hD : va_D A (wd_NumberReader_readFraction cC cI a0_0 a1_0 a1_1 v0 v1)) (hS : va_S A s.heap H locs) : W p l e rm_NumberReader_readFraction s m args below meth c H locs 0 0 (MQ below (q_NumberReader_readFraction D cC cI a0_0 a1_0 a1_1 v1 out A) args s 0 0 A) (F0 m 0 ls []) := by
  obtain ⟨hx, hb, hml, hown, htB, ⟨hK, hN⟩, hZ, hA, hr, hlocks⟩ := id X
  exact w_NumberReader_readFraction_0 X FU v0 ls H locs h (lv_sub hl [0, 1] rfl) hP hD hS

set_option maxHeartbeats 4000000 in
set_option maxRecDepth 100000 in
theorem c_NumberReader_readFraction (l : Launch) (D : va_G) (cC cI : ClassId) (sz : Nat) (a0_0 a1_0 a1_1 : Nat) (v0 : T_NumberReader) (v1 : T_Row) (out : O_NumberReader_readFraction) (h : f_NumberReader_readFraction v0 v1 = some out) : Met l y_NumberReader_readFraction (.code y_NumberReader_readFraction b_NumberReader_readFraction 2 none :: BIG) rm_NumberReader_readFraction (va_Pc [.ref a0_0, .ref a1_0] (xPre D cC cI (wd_NumberReader_readFraction cC cI a0_0 a1_0 a1_1 v0 v1) sz)) (q_NumberReader_readFraction D cC cI a0_0 a1_0 a1_1 v1 out (va_A (wd_NumberReader_readFraction cC cI a0_0 a1_0 a1_1 v0 v1) sz)) 0 0 (va_A (wd_NumberReader_readFraction cC cI a0_0 a1_0 a1_1 v0 v1) sz) := by
  refine Met.ofW (cc := b_NumberReader_readFraction) (maxL := 2) (ret := none) (by decide) rfl ?_
  intro p e s m args below meth c s₁ B hml hv
  obtain ⟨rfl, rfl, hP, hD0, hG, hZ⟩ := hv
  have hl := lv_entry [.ref a0_0, .ref a1_0] (n := 2) (Nat.le_of_ble_eq_true rfl)
  rw [lg_entry_eq]
  exact w_NumberReader_readFraction (x_cx B hml hG hZ) v0 h hl hP hD0.self va_S.rf

