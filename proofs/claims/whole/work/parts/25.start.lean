set_option maxHeartbeats 4000000 in
set_option maxRecDepth 100000 in
theorem lc_tail {Inv : T_Deci → T_Model → Prop} {p : Program} {l : Launch} {e : Env} {s : State} {m : MethodId} {below : List Frame} {meth : Method} {c : Code} {A : Nat → Prop} {D : va_G} {cC cI : ClassId} {b : Nat} (X : xCX p s m #[Value.ref b] meth c A D cC cI code 4 R_Law ret) {L k : Nat} {xs : Nat → Int32} (hXs : va_X b L xs s s.heap) (hbl : b < s.heap.size) (hbA : ¬ A b) (h18 : LJ Inv p l e s m below meth c A D cC cI b (k + 4) 18) : LJ Inv p l e s m below meth c A D cC cI b k 411 := by
  obtain ⟨hx, hb, hml, hown, htB, ⟨hK, hN⟩, hZ, hA, hr, hlocks⟩ := id X
  intro a0_0 a0_1 a0_2 a0_3 a0_4 a0_5 a0_6 a0_7 a0_8 a0_9 a0_10 a0_11 a0_12 a0_13 a0_14 a0_15 a0_16 a0_17 a0_18 a0_19 a0_20 a0_21 a0_22 a0_23 a0_24 a0_25 a0_26 a0_27 a0_28 a0_29 a0_30 a0_31 a0_32 a0_33 a0_34 a0_35 a0_36 a1_0 a1_1 a1_2 a1_3 a1_4 a1_5 a1_6 a1_7 v0 v1 ls H locs hI hl hP hD hS
  refine lv_iinc (k := 3) (v := nI (k + 4)) (lv' := [(3, .int (nI (k + 4))), (0, .ref b), (1, .ref a0_0), (2, .ref a1_0)]) hx hb d_Law_411 hl rfl ((congrArg (fun z => nI k + z) (by decide : Int32.ofInt 4 = nI 4)).trans (nI_add k 4)) (by decide) rfl (fun ls hl => ?_)
  refine lv_goto (tgt := 18) hx hb d_Law_414 rfl ?_
  exact h18 a0_0 a0_1 a0_2 a0_3 a0_4 a0_5 a0_6 a0_7 a0_8 a0_9 a0_10 a0_11 a0_12 a0_13 a0_14 a0_15 a0_16 a0_17 a0_18 a0_19 a0_20 a0_21 a0_22 a0_23 a0_24 a0_25 a0_26 a0_27 a0_28 a0_29 a0_30 a0_31 a0_32 a0_33 a0_34 a0_35 a0_36 a1_0 a1_1 a1_2 a1_3 a1_4 a1_5 a1_6 a1_7 v0 v1 ls H locs hI (lv_sub hl [1, 2, 3, 0] rfl) hP hD hS

set_option maxHeartbeats 4000000 in
set_option maxRecDepth 100000 in
theorem lc_head {Inv : T_Deci → T_Model → Prop} (hO : Ops Inv) {p : Program} {l : Launch} {e : Env} {s : State} {m : MethodId} {below : List Frame} {meth : Method} {c : Code} {A : Nat → Prop} {D : va_G} {cC cI : ClassId} {b : Nat} (X : xCX p s m #[Value.ref b] meth c A D cC cI code 4 R_Law ret) {L k : Nat} {xs : Nat → Int32} (hXs : va_X b L xs s s.heap) (hbl : b < s.heap.size) (hbA : ¬ A b) (hL : L ≤ 2048) (hk : k ≤ L) (hAe : ∀ q, A q → s.heap.size ≤ q) (h18 : k + 4 ≤ L → LJ Inv p l e s m below meth c A D cC cI b (k + 4) 18) : LJ Inv p l e s m below meth c A D cC cI b k 18 := by
  obtain ⟨hx, hb, hml, hown, htB, ⟨hK, hN⟩, hZ, hA, hr, hlocks⟩ := id X
  obtain ⟨o0, o1, o2, o3, o4, o5, o6, o7, o8, o9, o10, o11, o12, o13⟩ := hO
  intro a0_0 a0_1 a0_2 a0_3 a0_4 a0_5 a0_6 a0_7 a0_8 a0_9 a0_10 a0_11 a0_12 a0_13 a0_14 a0_15 a0_16 a0_17 a0_18 a0_19 a0_20 a0_21 a0_22 a0_23 a0_24 a0_25 a0_26 a0_27 a0_28 a0_29 a0_30 a0_31 a0_32 a0_33 a0_34 a0_35 a0_36 a1_0 a1_1 a1_2 a1_3 a1_4 a1_5 a1_6 a1_7 v0 v1 ls H locs hI hl hP hD hS
  refine lv_iload_n hx hb d_Law_18 rfl (lv_at hl 3 rfl) ?_
  refine lv_aload_n hx hb d_Law_19 rfl (lv_at hl 0 rfl) ?_
  refine va_slen hx hb hXs hbl hbA hS d_Law_20 ?_
  refine lv_iconst (v := 4) hx hb d_Law_21 (by decide) ?_
  refine lv_isub hx hb d_Law_22 ?_
  refine lv_icmp_gt (tgt := 417) hx hb d_Law_23 rfl (fun hc => ?_) (fun hc => ?_)
  · refine lv_iconst (v := 1) hx hb d_Law_417 (by decide) ?_
    refine va_forget (fun q hq => hAe _ (hS.2.2 q hq)) ?_
    exact lw_ret hx hb hr hlocks d_Law_418
  have hk4 := law_le hk hL hc
  have h411 := lc_tail X hXs hbl hbA (h18 hk4)
  have hi0 : vp_in (nI k) L := vp_in_nI (by omega) (by omega)
  have hi1 : vp_in (nI k + (1 : Int32)) L := law_in (j := 1) hk4 hL (by decide)
  have hi2 : vp_in (nI k + (2 : Int32)) L := law_in (j := 2) hk4 hL (by decide)
  have hi3 : vp_in (nI k + (3 : Int32)) L := law_in (j := 3) hk4 hL (by decide)
  refine lv_aload_n hx hb d_Law_26 rfl (lv_at hl 0 rfl) ?_
  refine lv_iload_n hx hb d_Law_27 rfl (lv_at hl 3 rfl) ?_
  refine va_sld hx hb hXs hbl hbA hS hi0 d_Law_28 ?_
  refine lv_bipush (v := 15) hx hb d_Law_29 (by decide) ?_
  refine lv_iand hx hb d_Law_31 ?_
  generalize (xs (nI k).toNatClampNeg &&& 15) = z
  by_cases hc : z = (0 : Int32)
  · refine lv_tableIn (tgt := 104) (off := 72) hx hb d_Law_32 (by rw [hc]; decide) (by rw [hc]; decide) (by rw [hc]; rfl) rfl ?_
    exact lc_type o0 X hXs hbl hbA hi0 hi1 hi2 hi3 h411 a0_0 a0_1 a0_2 a0_3 a0_4 a0_5 a0_6 a0_7 a0_8 a0_9 a0_10 a0_11 a0_12 a0_13 a0_14 a0_15 a0_16 a0_17 a0_18 a0_19 a0_20 a0_21 a0_22 a0_23 a0_24 a0_25 a0_26 a0_27 a0_28 a0_29 a0_30 a0_31 a0_32 a0_33 a0_34 a0_35 a0_36 a1_0 a1_1 a1_2 a1_3 a1_4 a1_5 a1_6 a1_7 v0 v1 ls H locs hI hl hP hD hS
  have hc0 := lv_neT (a := 0) hc (by decide)
  by_cases hc : z = (1 : Int32)
  · refine lv_tableIn (tgt := 129) (off := 97) hx hb d_Law_32 (by rw [hc]; decide) (by rw [hc]; decide) (by rw [hc]; rfl) rfl ?_
    exact lc_wipe o1 X hXs hbl hbA hi0 hi1 hi2 hi3 h411 a0_0 a0_1 a0_2 a0_3 a0_4 a0_5 a0_6 a0_7 a0_8 a0_9 a0_10 a0_11 a0_12 a0_13 a0_14 a0_15 a0_16 a0_17 a0_18 a0_19 a0_20 a0_21 a0_22 a0_23 a0_24 a0_25 a0_26 a0_27 a0_28 a0_29 a0_30 a0_31 a0_32 a0_33 a0_34 a0_35 a0_36 a1_0 a1_1 a1_2 a1_3 a1_4 a1_5 a1_6 a1_7 v0 v1 ls H locs hI hl hP hD hS
  have hc1 := lv_neT (a := 1) hc (by decide)
  by_cases hc : z = (2 : Int32)
  · refine lv_tableIn (tgt := 140) (off := 108) hx hb d_Law_32 (by rw [hc]; decide) (by rw [hc]; decide) (by rw [hc]; rfl) rfl ?_
    exact lc_length o2 X hXs hbl hbA hi0 hi1 hi2 hi3 h411 a0_0 a0_1 a0_2 a0_3 a0_4 a0_5 a0_6 a0_7 a0_8 a0_9 a0_10 a0_11 a0_12 a0_13 a0_14 a0_15 a0_16 a0_17 a0_18 a0_19 a0_20 a0_21 a0_22 a0_23 a0_24 a0_25 a0_26 a0_27 a0_28 a0_29 a0_30 a0_31 a0_32 a0_33 a0_34 a0_35 a0_36 a1_0 a1_1 a1_2 a1_3 a1_4 a1_5 a1_6 a1_7 v0 v1 ls H locs hI hl hP hD hS
  have hc2 := lv_neT (a := 2) hc (by decide)
  by_cases hc : z = (3 : Int32)
  · refine lv_tableIn (tgt := 153) (off := 121) hx hb d_Law_32 (by rw [hc]; decide) (by rw [hc]; decide) (by rw [hc]; rfl) rfl ?_
    exact lc_apply o3 X hXs hbl hbA hi0 hi1 hi2 hi3 h411 a0_0 a0_1 a0_2 a0_3 a0_4 a0_5 a0_6 a0_7 a0_8 a0_9 a0_10 a0_11 a0_12 a0_13 a0_14 a0_15 a0_16 a0_17 a0_18 a0_19 a0_20 a0_21 a0_22 a0_23 a0_24 a0_25 a0_26 a0_27 a0_28 a0_29 a0_30 a0_31 a0_32 a0_33 a0_34 a0_35 a0_36 a1_0 a1_1 a1_2 a1_3 a1_4 a1_5 a1_6 a1_7 v0 v1 ls H locs hI hl hP hD hS
  have hc3 := lv_neT (a := 3) hc (by decide)
  by_cases hc : z = (4 : Int32)
  · refine lv_tableIn (tgt := 166) (off := 134) hx hb d_Law_32 (by rw [hc]; decide) (by rw [hc]; decide) (by rw [hc]; rfl) rfl ?_
    exact lc_mode o4 X hXs hbl hbA hi0 hi1 hi2 hi3 h411 a0_0 a0_1 a0_2 a0_3 a0_4 a0_5 a0_6 a0_7 a0_8 a0_9 a0_10 a0_11 a0_12 a0_13 a0_14 a0_15 a0_16 a0_17 a0_18 a0_19 a0_20 a0_21 a0_22 a0_23 a0_24 a0_25 a0_26 a0_27 a0_28 a0_29 a0_30 a0_31 a0_32 a0_33 a0_34 a0_35 a0_36 a1_0 a1_1 a1_2 a1_3 a1_4 a1_5 a1_6 a1_7 v0 v1 ls H locs hI hl hP hD hS
  have hc4 := lv_neT (a := 4) hc (by decide)
  by_cases hc : z = (5 : Int32)
  · refine lv_tableIn (tgt := 189) (off := 157) hx hb d_Law_32 (by rw [hc]; decide) (by rw [hc]; decide) (by rw [hc]; rfl) rfl ?_
    exact lc_setting o5 X hXs hbl hbA hi0 hi1 hi2 hi3 h411 a0_0 a0_1 a0_2 a0_3 a0_4 a0_5 a0_6 a0_7 a0_8 a0_9 a0_10 a0_11 a0_12 a0_13 a0_14 a0_15 a0_16 a0_17 a0_18 a0_19 a0_20 a0_21 a0_22 a0_23 a0_24 a0_25 a0_26 a0_27 a0_28 a0_29 a0_30 a0_31 a0_32 a0_33 a0_34 a0_35 a0_36 a1_0 a1_1 a1_2 a1_3 a1_4 a1_5 a1_6 a1_7 v0 v1 ls H locs hI hl hP hD hS
  have hc5 := lv_neT (a := 5) hc (by decide)
  by_cases hc : z = (6 : Int32)
  · refine lv_tableIn (tgt := 212) (off := 180) hx hb d_Law_32 (by rw [hc]; decide) (by rw [hc]; decide) (by rw [hc]; rfl) rfl ?_
    exact lc_format o6 X hXs hbl hbA hi0 hi1 hi2 hi3 h411 a0_0 a0_1 a0_2 a0_3 a0_4 a0_5 a0_6 a0_7 a0_8 a0_9 a0_10 a0_11 a0_12 a0_13 a0_14 a0_15 a0_16 a0_17 a0_18 a0_19 a0_20 a0_21 a0_22 a0_23 a0_24 a0_25 a0_26 a0_27 a0_28 a0_29 a0_30 a0_31 a0_32 a0_33 a0_34 a0_35 a0_36 a1_0 a1_1 a1_2 a1_3 a1_4 a1_5 a1_6 a1_7 v0 v1 ls H locs hI hl hP hD hS
  have hc6 := lv_neT (a := 6) hc (by decide)
  by_cases hc : z = (7 : Int32)
  · refine lv_tableIn (tgt := 275) (off := 243) hx hb d_Law_32 (by rw [hc]; decide) (by rw [hc]; decide) (by rw [hc]; rfl) rfl ?_
    exact lc_print o7 X hXs hbl hbA hi0 hi1 hi2 hi3 h411 a0_0 a0_1 a0_2 a0_3 a0_4 a0_5 a0_6 a0_7 a0_8 a0_9 a0_10 a0_11 a0_12 a0_13 a0_14 a0_15 a0_16 a0_17 a0_18 a0_19 a0_20 a0_21 a0_22 a0_23 a0_24 a0_25 a0_26 a0_27 a0_28 a0_29 a0_30 a0_31 a0_32 a0_33 a0_34 a0_35 a0_36 a1_0 a1_1 a1_2 a1_3 a1_4 a1_5 a1_6 a1_7 v0 v1 ls H locs hI hl hP hD hS
  have hc7 := lv_neT (a := 7) hc (by decide)
  by_cases hc : z = (8 : Int32)
  · refine lv_tableIn (tgt := 288) (off := 256) hx hb d_Law_32 (by rw [hc]; decide) (by rw [hc]; decide) (by rw [hc]; rfl) rfl ?_
    exact lc_out o8 X hXs hbl hbA hi0 hi1 hi2 hi3 h411 a0_0 a0_1 a0_2 a0_3 a0_4 a0_5 a0_6 a0_7 a0_8 a0_9 a0_10 a0_11 a0_12 a0_13 a0_14 a0_15 a0_16 a0_17 a0_18 a0_19 a0_20 a0_21 a0_22 a0_23 a0_24 a0_25 a0_26 a0_27 a0_28 a0_29 a0_30 a0_31 a0_32 a0_33 a0_34 a0_35 a0_36 a1_0 a1_1 a1_2 a1_3 a1_4 a1_5 a1_6 a1_7 v0 v1 ls H locs hI hl hP hD hS
  have hc8 := lv_neT (a := 8) hc (by decide)
  by_cases hc : z = (9 : Int32)
  · refine lv_tableIn (tgt := 311) (off := 279) hx hb d_Law_32 (by rw [hc]; decide) (by rw [hc]; decide) (by rw [hc]; rfl) rfl ?_
    exact lc_field o9 X hXs hbl hbA hi0 hi1 hi2 hi3 h411 a0_0 a0_1 a0_2 a0_3 a0_4 a0_5 a0_6 a0_7 a0_8 a0_9 a0_10 a0_11 a0_12 a0_13 a0_14 a0_15 a0_16 a0_17 a0_18 a0_19 a0_20 a0_21 a0_22 a0_23 a0_24 a0_25 a0_26 a0_27 a0_28 a0_29 a0_30 a0_31 a0_32 a0_33 a0_34 a0_35 a0_36 a1_0 a1_1 a1_2 a1_3 a1_4 a1_5 a1_6 a1_7 v0 v1 ls H locs hI hl hP hD hS
  have hc9 := lv_neT (a := 9) hc (by decide)
  by_cases hc : z = (10 : Int32)
  · refine lv_tableIn (tgt := 360) (off := 328) hx hb d_Law_32 (by rw [hc]; decide) (by rw [hc]; decide) (by rw [hc]; rfl) rfl ?_
    exact lc_copy o10 X hXs hbl hbA hi0 hi1 hi2 hi3 h411 a0_0 a0_1 a0_2 a0_3 a0_4 a0_5 a0_6 a0_7 a0_8 a0_9 a0_10 a0_11 a0_12 a0_13 a0_14 a0_15 a0_16 a0_17 a0_18 a0_19 a0_20 a0_21 a0_22 a0_23 a0_24 a0_25 a0_26 a0_27 a0_28 a0_29 a0_30 a0_31 a0_32 a0_33 a0_34 a0_35 a0_36 a1_0 a1_1 a1_2 a1_3 a1_4 a1_5 a1_6 a1_7 v0 v1 ls H locs hI hl hP hD hS
  have hc10 := lv_neT (a := 10) hc (by decide)
  by_cases hc : z = (11 : Int32)
  · refine lv_tableIn (tgt := 371) (off := 339) hx hb d_Law_32 (by rw [hc]; decide) (by rw [hc]; decide) (by rw [hc]; rfl) rfl ?_
    exact lc_parse o11 X hXs hbl hbA hi0 hi1 hi2 hi3 h411 a0_0 a0_1 a0_2 a0_3 a0_4 a0_5 a0_6 a0_7 a0_8 a0_9 a0_10 a0_11 a0_12 a0_13 a0_14 a0_15 a0_16 a0_17 a0_18 a0_19 a0_20 a0_21 a0_22 a0_23 a0_24 a0_25 a0_26 a0_27 a0_28 a0_29 a0_30 a0_31 a0_32 a0_33 a0_34 a0_35 a0_36 a1_0 a1_1 a1_2 a1_3 a1_4 a1_5 a1_6 a1_7 v0 v1 ls H locs hI hl hP hD hS
  have hc11 := lv_neT (a := 11) hc (by decide)
  by_cases hc : z = (12 : Int32)
  · refine lv_tableIn (tgt := 384) (off := 352) hx hb d_Law_32 (by rw [hc]; decide) (by rw [hc]; decide) (by rw [hc]; rfl) rfl ?_
    exact lc_value o12 X hXs hbl hbA hi0 hi1 hi2 hi3 h411 a0_0 a0_1 a0_2 a0_3 a0_4 a0_5 a0_6 a0_7 a0_8 a0_9 a0_10 a0_11 a0_12 a0_13 a0_14 a0_15 a0_16 a0_17 a0_18 a0_19 a0_20 a0_21 a0_22 a0_23 a0_24 a0_25 a0_26 a0_27 a0_28 a0_29 a0_30 a0_31 a0_32 a0_33 a0_34 a0_35 a0_36 a1_0 a1_1 a1_2 a1_3 a1_4 a1_5 a1_6 a1_7 v0 v1 ls H locs hI hl hP hD hS
  have hc12 := lv_neT (a := 12) hc (by decide)
  by_cases hc : z = (13 : Int32)
  · refine lv_tableIn (tgt := 398) (off := 366) hx hb d_Law_32 (by rw [hc]; decide) (by rw [hc]; decide) (by rw [hc]; rfl) rfl ?_
    exact lc_scale o13 X hXs hbl hbA hi0 hi1 hi2 hi3 h411 a0_0 a0_1 a0_2 a0_3 a0_4 a0_5 a0_6 a0_7 a0_8 a0_9 a0_10 a0_11 a0_12 a0_13 a0_14 a0_15 a0_16 a0_17 a0_18 a0_19 a0_20 a0_21 a0_22 a0_23 a0_24 a0_25 a0_26 a0_27 a0_28 a0_29 a0_30 a0_31 a0_32 a0_33 a0_34 a0_35 a0_36 a1_0 a1_1 a1_2 a1_3 a1_4 a1_5 a1_6 a1_7 v0 v1 ls H locs hI hl hP hD hS
  have hc13 := lv_neT (a := 13) hc (by decide)
  refine lv_tableOut (tgt := 411) hx hb d_Law_32 (by omega) rfl ?_
  exact h411 a0_0 a0_1 a0_2 a0_3 a0_4 a0_5 a0_6 a0_7 a0_8 a0_9 a0_10 a0_11 a0_12 a0_13 a0_14 a0_15 a0_16 a0_17 a0_18 a0_19 a0_20 a0_21 a0_22 a0_23 a0_24 a0_25 a0_26 a0_27 a0_28 a0_29 a0_30 a0_31 a0_32 a0_33 a0_34 a0_35 a0_36 a1_0 a1_1 a1_2 a1_3 a1_4 a1_5 a1_6 a1_7 v0 v1 ls H locs hI hl hP hD hS

set_option maxHeartbeats 4000000 in
set_option maxRecDepth 100000 in
theorem lc_loop {Inv : T_Deci → T_Model → Prop} (hO : Ops Inv) {p : Program} {l : Launch} {e : Env} {s : State} {m : MethodId} {below : List Frame} {meth : Method} {c : Code} {A : Nat → Prop} {D : va_G} {cC cI : ClassId} {b : Nat} (X : xCX p s m #[Value.ref b] meth c A D cC cI code 4 R_Law ret) {L : Nat} {xs : Nat → Int32} (hXs : va_X b L xs s s.heap) (hbl : b < s.heap.size) (hbA : ¬ A b) (hL : L ≤ 2048) (hAe : ∀ q, A q → s.heap.size ≤ q) : ∀ (n k : Nat), L - k < n → k ≤ L → LJ Inv p l e s m below meth c A D cC cI b k 18 := by
  intro n
  induction n with
  | zero => intro k h; omega
  | succ n ih =>
    intro k h hk
    exact lc_head hO X hXs hbl hbA hL hk hAe (fun h4 => ih (k + 4) (by omega) h4)

theorem nest_on {w : Cond} (h : isNest w = true) : w.onTables = true := by
  cases w <;> first | rfl | cases h
set_option maxHeartbeats 4000000 in
set_option maxRecDepth 100000 in
theorem law_ctx {p : Program} {s : State} {m : MethodId} {meth : Method} {c : Code} {b L : Nat} {xs : Nat → Int32} (C0 : lw_At p s m meth c b L xs) : ∃ (D : va_G) (cC cI : ClassId), xCX p s m #[Value.ref b] meth c (fun q => s.heap.size ≤ q) D cC cI code 4 R_Law ret := by
  obtain ⟨hx, hb, hr, hml, hown, hts, hX, hbl, hlocks, hgv⟩ := C0
  have htB : ∀ w ∈ BIG, w.before #[Value.ref b] s = true := fun w hw => hts w (List.mem_filter.mp hw).1
  obtain ⟨c0, i0, k0⟩ := u_known htB in_Row (htB _ b_510)
  obtain ⟨c1, i1, k1⟩ := u_known htB in_Affix (htB _ b_487)
  obtain ⟨c2, i2, k2⟩ := u_known htB in_Shape (htB _ b_492)
  obtain ⟨c3, i3, k3⟩ := u_known htB in_Part (htB _ b_499)
  obtain ⟨c4, i4, k4⟩ := u_known htB in_Pattern (htB _ b_530)
  obtain ⟨c5, i5, k5⟩ := u_known htB in_PatternReader (htB _ b_514)
  obtain ⟨c6, i6, k6⟩ := u_known htB in_PatternWriter (htB _ b_518)
  obtain ⟨c7, i7, k7⟩ := u_known htB in_Decimal (htB _ b_505)
  obtain ⟨c8, i8, k8⟩ := u_known htB in_NumberWriter (htB _ b_522)
  obtain ⟨c9, i9, k9⟩ := u_known htB in_NumberReader (htB _ b_526)
  obtain ⟨c10, i10, k10⟩ := u_known htB in_Deci (htB _ b_647)
  obtain ⟨c11, i11, k11⟩ := u_known htB in_Model (htB _ b_648)
  obtain ⟨cC, kC, xC, e1, e2, e3⟩ := Cond.arrayClass_spec (htB _ b_475)
  obtain ⟨cI, kI, xI, f1, f2, f3⟩ := Cond.arrayClass_spec (htB _ b_477)
  have hg := flat_of_before _ hgv
  have hA0 : ∀ a : Nat, a < s.heap.size → ¬ (fun q : Nat => s.heap.size ≤ q) a := fun a h q => absurd q (Nat.not_le.mpr h)
  have harr : (Cond.arrayOf (.static "PatternedDecimals" "POWERS" "[J") .long).before #[Value.ref b] s = true := hg _ (by decide +kernel)
  have hlen : (Term.length (.static "PatternedDecimals" "POWERS" "[J")).eval #[Value.ref b] s none [] s = some (.int (Int32.ofNat 19)) := va_eqt (z := 19) (hg (.eq (.length (.static "PatternedDecimals" "POWERS" "[J")) (.int 19)) (by decide +kernel))
  have g0 : (Term.elem (.static "PatternedDecimals" "POWERS" "[J") (.int (Int32.ofNat 0))).eval #[Value.ref b] s none [] s = some (.long (pw 0)) := by
    rw [show pw 0 = 1 by decide]
    exact va_eqtl (hg (.eq (.elem (.static "PatternedDecimals" "POWERS" "[J") (.int 0)) (.long 1)) (by decide +kernel))
  have g1 : (Term.elem (.static "PatternedDecimals" "POWERS" "[J") (.int (Int32.ofNat 1))).eval #[Value.ref b] s none [] s = some (.long (pw 1)) := by
    rw [show pw 1 = 10 by decide]
    exact va_eqtl (hg (.eq (.elem (.static "PatternedDecimals" "POWERS" "[J") (.int 1)) (.long 10)) (by decide +kernel))
  have g2 : (Term.elem (.static "PatternedDecimals" "POWERS" "[J") (.int (Int32.ofNat 2))).eval #[Value.ref b] s none [] s = some (.long (pw 2)) := by
    rw [show pw 2 = 100 by decide]
    exact va_eqtl (hg (.eq (.elem (.static "PatternedDecimals" "POWERS" "[J") (.int 2)) (.long 100)) (by decide +kernel))
  have g3 : (Term.elem (.static "PatternedDecimals" "POWERS" "[J") (.int (Int32.ofNat 3))).eval #[Value.ref b] s none [] s = some (.long (pw 3)) := by
    rw [show pw 3 = 1000 by decide]
    exact va_eqtl (hg (.eq (.elem (.static "PatternedDecimals" "POWERS" "[J") (.int 3)) (.long 1000)) (by decide +kernel))
  have g4 : (Term.elem (.static "PatternedDecimals" "POWERS" "[J") (.int (Int32.ofNat 4))).eval #[Value.ref b] s none [] s = some (.long (pw 4)) := by
    rw [show pw 4 = 10000 by decide]
    exact va_eqtl (hg (.eq (.elem (.static "PatternedDecimals" "POWERS" "[J") (.int 4)) (.long 10000)) (by decide +kernel))
  have g5 : (Term.elem (.static "PatternedDecimals" "POWERS" "[J") (.int (Int32.ofNat 5))).eval #[Value.ref b] s none [] s = some (.long (pw 5)) := by
    rw [show pw 5 = 100000 by decide]
    exact va_eqtl (hg (.eq (.elem (.static "PatternedDecimals" "POWERS" "[J") (.int 5)) (.long 100000)) (by decide +kernel))
  have g6 : (Term.elem (.static "PatternedDecimals" "POWERS" "[J") (.int (Int32.ofNat 6))).eval #[Value.ref b] s none [] s = some (.long (pw 6)) := by
    rw [show pw 6 = 1000000 by decide]
    exact va_eqtl (hg (.eq (.elem (.static "PatternedDecimals" "POWERS" "[J") (.int 6)) (.long 1000000)) (by decide +kernel))
  have g7 : (Term.elem (.static "PatternedDecimals" "POWERS" "[J") (.int (Int32.ofNat 7))).eval #[Value.ref b] s none [] s = some (.long (pw 7)) := by
    rw [show pw 7 = 10000000 by decide]
    exact va_eqtl (hg (.eq (.elem (.static "PatternedDecimals" "POWERS" "[J") (.int 7)) (.long 10000000)) (by decide +kernel))
  have g8 : (Term.elem (.static "PatternedDecimals" "POWERS" "[J") (.int (Int32.ofNat 8))).eval #[Value.ref b] s none [] s = some (.long (pw 8)) := by
    rw [show pw 8 = 100000000 by decide]
    exact va_eqtl (hg (.eq (.elem (.static "PatternedDecimals" "POWERS" "[J") (.int 8)) (.long 100000000)) (by decide +kernel))
  have g9 : (Term.elem (.static "PatternedDecimals" "POWERS" "[J") (.int (Int32.ofNat 9))).eval #[Value.ref b] s none [] s = some (.long (pw 9)) := by
    rw [show pw 9 = 1000000000 by decide]
    exact va_eqtl (hg (.eq (.elem (.static "PatternedDecimals" "POWERS" "[J") (.int 9)) (.long 1000000000)) (by decide +kernel))
  have g10 : (Term.elem (.static "PatternedDecimals" "POWERS" "[J") (.int (Int32.ofNat 10))).eval #[Value.ref b] s none [] s = some (.long (pw 10)) := by
    rw [show pw 10 = 10000000000 by decide]
    exact va_eqtl (hg (.eq (.elem (.static "PatternedDecimals" "POWERS" "[J") (.int 10)) (.long 10000000000)) (by decide +kernel))
  have g11 : (Term.elem (.static "PatternedDecimals" "POWERS" "[J") (.int (Int32.ofNat 11))).eval #[Value.ref b] s none [] s = some (.long (pw 11)) := by
    rw [show pw 11 = 100000000000 by decide]
    exact va_eqtl (hg (.eq (.elem (.static "PatternedDecimals" "POWERS" "[J") (.int 11)) (.long 100000000000)) (by decide +kernel))
  have g12 : (Term.elem (.static "PatternedDecimals" "POWERS" "[J") (.int (Int32.ofNat 12))).eval #[Value.ref b] s none [] s = some (.long (pw 12)) := by
    rw [show pw 12 = 1000000000000 by decide]
    exact va_eqtl (hg (.eq (.elem (.static "PatternedDecimals" "POWERS" "[J") (.int 12)) (.long 1000000000000)) (by decide +kernel))
  have g13 : (Term.elem (.static "PatternedDecimals" "POWERS" "[J") (.int (Int32.ofNat 13))).eval #[Value.ref b] s none [] s = some (.long (pw 13)) := by
    rw [show pw 13 = 10000000000000 by decide]
    exact va_eqtl (hg (.eq (.elem (.static "PatternedDecimals" "POWERS" "[J") (.int 13)) (.long 10000000000000)) (by decide +kernel))
  have g14 : (Term.elem (.static "PatternedDecimals" "POWERS" "[J") (.int (Int32.ofNat 14))).eval #[Value.ref b] s none [] s = some (.long (pw 14)) := by
    rw [show pw 14 = 100000000000000 by decide]
    exact va_eqtl (hg (.eq (.elem (.static "PatternedDecimals" "POWERS" "[J") (.int 14)) (.long 100000000000000)) (by decide +kernel))
  have g15 : (Term.elem (.static "PatternedDecimals" "POWERS" "[J") (.int (Int32.ofNat 15))).eval #[Value.ref b] s none [] s = some (.long (pw 15)) := by
    rw [show pw 15 = 1000000000000000 by decide]
    exact va_eqtl (hg (.eq (.elem (.static "PatternedDecimals" "POWERS" "[J") (.int 15)) (.long 1000000000000000)) (by decide +kernel))
  have g16 : (Term.elem (.static "PatternedDecimals" "POWERS" "[J") (.int (Int32.ofNat 16))).eval #[Value.ref b] s none [] s = some (.long (pw 16)) := by
    rw [show pw 16 = 10000000000000000 by decide]
    exact va_eqtl (hg (.eq (.elem (.static "PatternedDecimals" "POWERS" "[J") (.int 16)) (.long 10000000000000000)) (by decide +kernel))
  have g17 : (Term.elem (.static "PatternedDecimals" "POWERS" "[J") (.int (Int32.ofNat 17))).eval #[Value.ref b] s none [] s = some (.long (pw 17)) := by
    rw [show pw 17 = 100000000000000000 by decide]
    exact va_eqtl (hg (.eq (.elem (.static "PatternedDecimals" "POWERS" "[J") (.int 17)) (.long 100000000000000000)) (by decide +kernel))
  have g18 : (Term.elem (.static "PatternedDecimals" "POWERS" "[J") (.int (Int32.ofNat 18))).eval #[Value.ref b] s none [] s = some (.long (pw 18)) := by
    rw [show pw 18 = 1000000000000000000 by decide]
    exact va_eqtl (hg (.eq (.elem (.static "PatternedDecimals" "POWERS" "[J") (.int 18)) (.long 1000000000000000000)) (by decide +kernel))
  have hel : ∀ j : Nat, j < 19 → (Term.elem (.static "PatternedDecimals" "POWERS" "[J") (.int (Int32.ofNat j))).eval #[Value.ref b] s none [] s = some (.long (pw j)) := by
    intro j hj
    rcases (show j = 0 ∨ j = 1 ∨ j = 2 ∨ j = 3 ∨ j = 4 ∨ j = 5 ∨ j = 6 ∨ j = 7 ∨ j = 8 ∨ j = 9 ∨ j = 10 ∨ j = 11 ∨ j = 12 ∨ j = 13 ∨ j = 14 ∨ j = 15 ∨ j = 16 ∨ j = 17 ∨ j = 18 by omega) with rfl | rfl | rfl | rfl | rfl | rfl | rfl | rfl | rfl | rfl | rfl | rfl | rfl | rfl | rfl | rfl | rfl | rfl | rfl
    · exact g0
    · exact g1
    · exact g2
    · exact g3
    · exact g4
    · exact g5
    · exact g6
    · exact g7
    · exact g8
    · exact g9
    · exact g10
    · exact g11
    · exact g12
    · exact g13
    · exact g14
    · exact g15
    · exact g16
    · exact g17
    · exact g18
  obtain ⟨t, ht, hT⟩ := va_Tof (tm := (.static "PatternedDecimals" "POWERS" "[J")) (ty := .long) (N := 19) (f := fun j => .long (pw j)) (A := fun q => s.heap.size ≤ q) (by decide) harr hlen hel hA0
  have hZ := va_Zof (A := fun q => s.heap.size ≤ q) (hts (.laysStatic R_Deci "POWERS" "[J") (List.mem_append_right _ (List.mem_append_right _ (List.mem_append_left _ (List.mem_of_getElem? (i := 204) rfl))))) (htB _ b_56) ht hA0
  refine ⟨(fun k => match k with | 0 => c0 | 1 => c1 | 2 => c2 | 3 => c3 | 4 => c4 | 5 => c5 | 6 => c6 | 7 => c7 | 8 => c8 | 9 => c9 | 10 => c10 | _ => c11, fun k => match k with | 0 => i0 | 1 => i1 | 2 => i2 | 3 => i3 | 4 => i4 | 5 => i5 | 6 => i6 | 7 => i7 | 8 => i8 | 9 => i9 | 10 => i10 | _ => i11), cC, cI, hx, hb, hml, hown, htB, ⟨⟨?_, ?_⟩, fun w hw => va_Nw.of (nest_on (nests_ok w hw)) (hts w (List.mem_filter.mp hw).1)⟩, ⟨t, hZ, hT⟩, fun q h => h, hr, hlocks⟩
  · intro c q hq
    match c, hq with
    | 0, hq => obtain rfl := Option.some.inj (hq : some (R_Row, F_Row, 2) = some q); exact k0
    | 1, hq => obtain rfl := Option.some.inj (hq : some (R_Affix, F_Affix, 2) = some q); exact k1
    | 2, hq => obtain rfl := Option.some.inj (hq : some (R_Shape, F_Shape, 7) = some q); exact k2
    | 3, hq => obtain rfl := Option.some.inj (hq : some (R_Part, F_Part, 3) = some q); exact k3
    | 4, hq => obtain rfl := Option.some.inj (hq : some (R_Pattern, F_Pattern, 4) = some q); exact k4
    | 5, hq => obtain rfl := Option.some.inj (hq : some (R_PatternReader, F_PatternReader, 1) = some q); exact k5
    | 6, hq => obtain rfl := Option.some.inj (hq : some (R_PatternWriter, F_PatternWriter, 0) = some q); exact k6
    | 7, hq => obtain rfl := Option.some.inj (hq : some (R_Decimal, F_Decimal, 3) = some q); exact k7
    | 8, hq => obtain rfl := Option.some.inj (hq : some (R_NumberWriter, F_NumberWriter, 4) = some q); exact k8
    | 9, hq => obtain rfl := Option.some.inj (hq : some (R_NumberReader, F_NumberReader, 11) = some q); exact k9
    | 10, hq => obtain rfl := Option.some.inj (hq : some (R_Deci, F_Deci, 12) = some q); exact k10
    | 11, hq => obtain rfl := Option.some.inj (hq : some (R_Model, F_Model, 23) = some q); exact k11
    | n + 12, hq => exact absurd (hq : (none : Option vw_C) = some q) (by intro h; cases h)
  · intro k q hq
    match k, hq with
    | 0, hq => obtain rfl := Option.some.inj (hq : some (cC, FieldType.char) = some q); exact ⟨fun n z => ⟨fun k h => (by cases h), kC, e2, xC, e3⟩, e1⟩
    | 1, hq => obtain rfl := Option.some.inj (hq : some (cI, FieldType.int) = some q); exact ⟨fun n z => ⟨fun k h => (by cases h), kI, f2, xI, f3⟩, f1⟩
    | n + 2, hq => exact absurd (hq : (none : Option (ClassId × FieldType)) = some q) (by intro h; cases h)

def i_Deci : T_Deci := (((fun _ => (0 : Int32)), (0 : Int32)), ((fun _ => (0 : Int32)), (0 : Int32)), (0 : Int32), (), (((0 : Int32), (0 : Int64), (0 : Int32)), (0 : Int32), (fun _ => (0 : Int32)), (0 : Int32)), ((0 : Int32), (0 : Int32), (0 : Int32), (0 : Int32), (0 : Int32), (0 : Int32), (0 : Int32), (0 : Int64), (0 : Int32), (0 : Int32), (0 : Int32)), ((((fun _ => (0 : Int32)), (0 : Int32)), ((0 : Int32), (0 : Int32), (0 : Int32), (0 : Int32), (0 : Int32), (0 : Int32), (0 : Int32)), ((fun _ => (0 : Int32)), (0 : Int32))), (((fun _ => (0 : Int32)), (0 : Int32)), ((0 : Int32), (0 : Int32), (0 : Int32), (0 : Int32), (0 : Int32), (0 : Int32), (0 : Int32)), ((fun _ => (0 : Int32)), (0 : Int32))), (0 : Int32), (0 : Int32)), ((((fun _ => (0 : Int32)), (0 : Int32)), ((0 : Int32), (0 : Int32), (0 : Int32), (0 : Int32), (0 : Int32), (0 : Int32), (0 : Int32)), ((fun _ => (0 : Int32)), (0 : Int32))), (((fun _ => (0 : Int32)), (0 : Int32)), ((0 : Int32), (0 : Int32), (0 : Int32), (0 : Int32), (0 : Int32), (0 : Int32), (0 : Int32)), ((fun _ => (0 : Int32)), (0 : Int32))), (0 : Int32), (0 : Int32)), (0 : Int32), (6 : Int32), (0 : Int64), (0 : Int32))
def i_Model : T_Model := ((fun _ => (0 : Int32)), (0 : Int32), (fun _ => (0 : Int32)), (0 : Int32), (6 : Int32), (0 : Int32), (fun _ => (0 : Int32)), (fun _ => (0 : Int32)), (fun _ => (0 : Int32)), (0 : Int32), (0 : Int32), (0 : Int32), (0 : Int32), (fun _ => (0 : Int32)), (0 : Int32), (0 : Int32), (0 : Int32), (fun _ => (0 : Int32)), (0 : Int64), (0 : Int32), (0 : Int64), (0 : Int32), (0 : Int32))
set_option maxHeartbeats 4000000 in
set_option maxRecDepth 100000 in
theorem whole_open {Inv : T_Deci → T_Model → Prop} (hO : Ops Inv) (h0 : Inv i_Deci i_Model) {p : Program} {e : Env} {s : State} {m : MethodId} {below : List Frame} {meth : Method} {c : Code} (l : Launch) {b L : Nat} {xs : Nat → Int32} (hL : L ≤ 2048) (C0 : lw_At p s m meth c b L xs) : W p l e room_1 s m #[Value.ref b] below meth c s.heap [] 0 0 (lw_Z below #[Value.ref b] s) (entryFrame m ([Value.ref b] : List Value).toArray 4) := by
  have hbl : b < s.heap.size := C0.2.2.2.2.2.2.2.1
  have hXs : va_X b L xs s s.heap := C0.2.2.2.2.2.2.1
  obtain ⟨D, cC, cI, X⟩ := law_ctx C0
  have hbA : ¬ (fun q : Nat => s.heap.size ≤ q) b := fun q => absurd q (Nat.not_le.mpr hbl)
  have hAe : ∀ q, (fun q : Nat => s.heap.size ≤ q) q → s.heap.size ≤ q := fun q h => h
  generalize (fun q : Nat => s.heap.size ≤ q) = A at X hbA hAe
  obtain ⟨hx, hb, hml, hown, htB, ⟨hK, hN⟩, hZ, hA, hr, hlocks⟩ := id X
  have hP : va_P D classes [] s.heap := fun k q h => by cases h
  have hD : va_D A [] := ⟨fun i j p q h => (by cases h), fun k q h => (by cases h)⟩
  have hS : va_S A s.heap s.heap [] := va_S.rf
  have hl := lv_entry ([.ref b]) (n := 4) (Nat.le_of_ble_eq_true rfl)
  rw [lg_entry_eq]
  generalize (lg_sl ([.ref b]) ++ List.replicate (4 - (lg_sl ([.ref b])).length) Slot.unset).toArray = ls at hl ⊢
  have hl : lv_has ls 4 [(0, .ref b)] := hl
  refine va_new (ci := 10) (fs := [.null, .null, .null, .null, .null, .null, .null, .null, .int 0, .int 0, .long 0, .int 0]) (C := R_Deci) (T := F_Deci) (N := 12) hx hb htB in_Deci t_Deci t_Deci_ok hown (htB _ b_649) (htB _ b_647) (htB _ b_56) hK hP hD hS hA rfl (x_bl_Deci) (Nat.le_of_ble_eq_true rfl) (Nat.le_of_ble_eq_true rfl) d_Law_0 (fun q0 H hP hD hS => ?_)
  have hP : va_P D classes [(q0, .inr (10, [.null, .null, .null, .null, .null, .null, .null, .null, .int 0, .int 0, .long 0, .int 0]))] H := hP
  have hD : va_D A [(q0, .inr (10, [.null, .null, .null, .null, .null, .null, .null, .null, .int 0, .int 0, .long 0, .int 0]))] := hD
  refine lv_dup hx hb d_Law_3 rfl ?_
  refine x_callI (wr := []) (x_runI (rest := [.ref q0]) X (c_Deci_init l D cC cI H.size q0) b_650 (htB _ b_651) (htB _ b_652) (htB _ b_56) rfl ⟨by decide, by decide, by decide +kernel⟩ ⟨(Nat.le_of_ble_eq_true rfl), (Nat.le_of_ble_eq_true rfl)⟩ hP hD hS [0] rfl (by decide) rfl rfl hl.1 rfl (Nat.le_of_ble_eq_true rfl) d_Law_4 ⟨(Nat.le_of_ble_eq_true rfl), (Nat.le_of_ble_eq_true rfl)⟩) hP hD hS hA [0] [] rfl rfl (by decide) (by decide) (fun w1 H locs hw hP hD hS => ?_)
  obtain ⟨q1, q2, q3, q4, q5, q6, q7, q8, q9, q10, q11, q12, q13, q14, q15, q16, q17, q18, q19, q20, q21, q22, q23, q24, q25, q26, q27, q28, q29, q30, q31, q32, q33, q34, q35, q36, rfl⟩ := hw
  have hP : va_P D classes [(q0, .inr (10, [.ref q1, .ref q3, .ref q5, .ref q6, .ref q7, .ref q10, .ref q11, .ref q24, .int 0, .int 6, .long 0, .int 0])), (q1, .inr (0, [.ref q2, .int 0])), (q2, .inl (cC, 120, .inl (fun _ => 0))), (q3, .inr (0, [.ref q4, .int 0])), (q4, .inl (cC, 120, .inl (fun _ => 0))), (q5, .inr (5, [.int 0])), (q6, .inr (6, [])), (q7, .inr (8, [.ref q8, .int 0, .ref q9, .int 0])), (q8, .inr (7, [.int 0, .long 0, .int 0])), (q9, .inl (cI, 6, .inl (fun _ => 0))), (q10, .inr (9, [.int 0, .int 0, .int 0, .int 0, .int 0, .int 0, .int 0, .long 0, .int 0, .int 0, .int 0])), (q11, .inr (4, [.ref q12, .ref q18, .int 0, .int 0])), (q12, .inr (3, [.ref q13, .ref q15, .ref q16])), (q13, .inr (1, [.ref q14, .int 0])), (q14, .inl (cI, 120, .inl (fun _ => 0))), (q15, .inr (2, [.int 0, .int 0, .int 0, .int 0, .int 0, .int 0, .int 0])), (q16, .inr (1, [.ref q17, .int 0])), (q17, .inl (cI, 120, .inl (fun _ => 0))), (q18, .inr (3, [.ref q19, .ref q21, .ref q22])), (q19, .inr (1, [.ref q20, .int 0])), (q20, .inl (cI, 120, .inl (fun _ => 0))), (q21, .inr (2, [.int 0, .int 0, .int 0, .int 0, .int 0, .int 0, .int 0])), (q22, .inr (1, [.ref q23, .int 0])), (q23, .inl (cI, 120, .inl (fun _ => 0))), (q24, .inr (4, [.ref q25, .ref q31, .int 0, .int 0])), (q25, .inr (3, [.ref q26, .ref q28, .ref q29])), (q26, .inr (1, [.ref q27, .int 0])), (q27, .inl (cI, 120, .inl (fun _ => 0))), (q28, .inr (2, [.int 0, .int 0, .int 0, .int 0, .int 0, .int 0, .int 0])), (q29, .inr (1, [.ref q30, .int 0])), (q30, .inl (cI, 120, .inl (fun _ => 0))), (q31, .inr (3, [.ref q32, .ref q34, .ref q35])), (q32, .inr (1, [.ref q33, .int 0])), (q33, .inl (cI, 120, .inl (fun _ => 0))), (q34, .inr (2, [.int 0, .int 0, .int 0, .int 0, .int 0, .int 0, .int 0])), (q35, .inr (1, [.ref q36, .int 0])), (q36, .inl (cI, 120, .inl (fun _ => 0)))] H := hP
  have hD : va_D A [(q0, .inr (10, [.ref q1, .ref q3, .ref q5, .ref q6, .ref q7, .ref q10, .ref q11, .ref q24, .int 0, .int 6, .long 0, .int 0])), (q1, .inr (0, [.ref q2, .int 0])), (q2, .inl (cC, 120, .inl (fun _ => 0))), (q3, .inr (0, [.ref q4, .int 0])), (q4, .inl (cC, 120, .inl (fun _ => 0))), (q5, .inr (5, [.int 0])), (q6, .inr (6, [])), (q7, .inr (8, [.ref q8, .int 0, .ref q9, .int 0])), (q8, .inr (7, [.int 0, .long 0, .int 0])), (q9, .inl (cI, 6, .inl (fun _ => 0))), (q10, .inr (9, [.int 0, .int 0, .int 0, .int 0, .int 0, .int 0, .int 0, .long 0, .int 0, .int 0, .int 0])), (q11, .inr (4, [.ref q12, .ref q18, .int 0, .int 0])), (q12, .inr (3, [.ref q13, .ref q15, .ref q16])), (q13, .inr (1, [.ref q14, .int 0])), (q14, .inl (cI, 120, .inl (fun _ => 0))), (q15, .inr (2, [.int 0, .int 0, .int 0, .int 0, .int 0, .int 0, .int 0])), (q16, .inr (1, [.ref q17, .int 0])), (q17, .inl (cI, 120, .inl (fun _ => 0))), (q18, .inr (3, [.ref q19, .ref q21, .ref q22])), (q19, .inr (1, [.ref q20, .int 0])), (q20, .inl (cI, 120, .inl (fun _ => 0))), (q21, .inr (2, [.int 0, .int 0, .int 0, .int 0, .int 0, .int 0, .int 0])), (q22, .inr (1, [.ref q23, .int 0])), (q23, .inl (cI, 120, .inl (fun _ => 0))), (q24, .inr (4, [.ref q25, .ref q31, .int 0, .int 0])), (q25, .inr (3, [.ref q26, .ref q28, .ref q29])), (q26, .inr (1, [.ref q27, .int 0])), (q27, .inl (cI, 120, .inl (fun _ => 0))), (q28, .inr (2, [.int 0, .int 0, .int 0, .int 0, .int 0, .int 0, .int 0])), (q29, .inr (1, [.ref q30, .int 0])), (q30, .inl (cI, 120, .inl (fun _ => 0))), (q31, .inr (3, [.ref q32, .ref q34, .ref q35])), (q32, .inr (1, [.ref q33, .int 0])), (q33, .inl (cI, 120, .inl (fun _ => 0))), (q34, .inr (2, [.int 0, .int 0, .int 0, .int 0, .int 0, .int 0, .int 0])), (q35, .inr (1, [.ref q36, .int 0])), (q36, .inl (cI, 120, .inl (fun _ => 0)))] := hD
  refine lv_astore_n (lv' := [(1, .ref q0), (0, .ref b)]) hx hb d_Law_7 rfl hl (by decide) rfl (fun ls hl => ?_)
  refine va_new (ci := 11) (fs := [.null, .int 0, .null, .int 0, .int 0, .int 0, .null, .null, .null, .int 0, .int 0, .int 0, .int 0, .null, .int 0, .int 0, .int 0, .null, .long 0, .int 0, .long 0, .int 0, .int 0]) (C := R_Model) (T := F_Model) (N := 23) hx hb htB in_Model t_Model t_Model_ok hown (htB _ b_653) (htB _ b_648) (htB _ b_319) hK hP hD hS hA rfl (x_bl_Model) (Nat.le_of_ble_eq_true rfl) (Nat.le_of_ble_eq_true rfl) d_Law_8 (fun q37 H hP hD hS => ?_)
  have hP : va_P D classes [(q0, .inr (10, [.ref q1, .ref q3, .ref q5, .ref q6, .ref q7, .ref q10, .ref q11, .ref q24, .int 0, .int 6, .long 0, .int 0])), (q1, .inr (0, [.ref q2, .int 0])), (q2, .inl (cC, 120, .inl (fun _ => 0))), (q3, .inr (0, [.ref q4, .int 0])), (q4, .inl (cC, 120, .inl (fun _ => 0))), (q5, .inr (5, [.int 0])), (q6, .inr (6, [])), (q7, .inr (8, [.ref q8, .int 0, .ref q9, .int 0])), (q8, .inr (7, [.int 0, .long 0, .int 0])), (q9, .inl (cI, 6, .inl (fun _ => 0))), (q10, .inr (9, [.int 0, .int 0, .int 0, .int 0, .int 0, .int 0, .int 0, .long 0, .int 0, .int 0, .int 0])), (q11, .inr (4, [.ref q12, .ref q18, .int 0, .int 0])), (q12, .inr (3, [.ref q13, .ref q15, .ref q16])), (q13, .inr (1, [.ref q14, .int 0])), (q14, .inl (cI, 120, .inl (fun _ => 0))), (q15, .inr (2, [.int 0, .int 0, .int 0, .int 0, .int 0, .int 0, .int 0])), (q16, .inr (1, [.ref q17, .int 0])), (q17, .inl (cI, 120, .inl (fun _ => 0))), (q18, .inr (3, [.ref q19, .ref q21, .ref q22])), (q19, .inr (1, [.ref q20, .int 0])), (q20, .inl (cI, 120, .inl (fun _ => 0))), (q21, .inr (2, [.int 0, .int 0, .int 0, .int 0, .int 0, .int 0, .int 0])), (q22, .inr (1, [.ref q23, .int 0])), (q23, .inl (cI, 120, .inl (fun _ => 0))), (q24, .inr (4, [.ref q25, .ref q31, .int 0, .int 0])), (q25, .inr (3, [.ref q26, .ref q28, .ref q29])), (q26, .inr (1, [.ref q27, .int 0])), (q27, .inl (cI, 120, .inl (fun _ => 0))), (q28, .inr (2, [.int 0, .int 0, .int 0, .int 0, .int 0, .int 0, .int 0])), (q29, .inr (1, [.ref q30, .int 0])), (q30, .inl (cI, 120, .inl (fun _ => 0))), (q31, .inr (3, [.ref q32, .ref q34, .ref q35])), (q32, .inr (1, [.ref q33, .int 0])), (q33, .inl (cI, 120, .inl (fun _ => 0))), (q34, .inr (2, [.int 0, .int 0, .int 0, .int 0, .int 0, .int 0, .int 0])), (q35, .inr (1, [.ref q36, .int 0])), (q36, .inl (cI, 120, .inl (fun _ => 0))), (q37, .inr (11, [.null, .int 0, .null, .int 0, .int 0, .int 0, .null, .null, .null, .int 0, .int 0, .int 0, .int 0, .null, .int 0, .int 0, .int 0, .null, .long 0, .int 0, .long 0, .int 0, .int 0]))] H := hP
  have hD : va_D A [(q0, .inr (10, [.ref q1, .ref q3, .ref q5, .ref q6, .ref q7, .ref q10, .ref q11, .ref q24, .int 0, .int 6, .long 0, .int 0])), (q1, .inr (0, [.ref q2, .int 0])), (q2, .inl (cC, 120, .inl (fun _ => 0))), (q3, .inr (0, [.ref q4, .int 0])), (q4, .inl (cC, 120, .inl (fun _ => 0))), (q5, .inr (5, [.int 0])), (q6, .inr (6, [])), (q7, .inr (8, [.ref q8, .int 0, .ref q9, .int 0])), (q8, .inr (7, [.int 0, .long 0, .int 0])), (q9, .inl (cI, 6, .inl (fun _ => 0))), (q10, .inr (9, [.int 0, .int 0, .int 0, .int 0, .int 0, .int 0, .int 0, .long 0, .int 0, .int 0, .int 0])), (q11, .inr (4, [.ref q12, .ref q18, .int 0, .int 0])), (q12, .inr (3, [.ref q13, .ref q15, .ref q16])), (q13, .inr (1, [.ref q14, .int 0])), (q14, .inl (cI, 120, .inl (fun _ => 0))), (q15, .inr (2, [.int 0, .int 0, .int 0, .int 0, .int 0, .int 0, .int 0])), (q16, .inr (1, [.ref q17, .int 0])), (q17, .inl (cI, 120, .inl (fun _ => 0))), (q18, .inr (3, [.ref q19, .ref q21, .ref q22])), (q19, .inr (1, [.ref q20, .int 0])), (q20, .inl (cI, 120, .inl (fun _ => 0))), (q21, .inr (2, [.int 0, .int 0, .int 0, .int 0, .int 0, .int 0, .int 0])), (q22, .inr (1, [.ref q23, .int 0])), (q23, .inl (cI, 120, .inl (fun _ => 0))), (q24, .inr (4, [.ref q25, .ref q31, .int 0, .int 0])), (q25, .inr (3, [.ref q26, .ref q28, .ref q29])), (q26, .inr (1, [.ref q27, .int 0])), (q27, .inl (cI, 120, .inl (fun _ => 0))), (q28, .inr (2, [.int 0, .int 0, .int 0, .int 0, .int 0, .int 0, .int 0])), (q29, .inr (1, [.ref q30, .int 0])), (q30, .inl (cI, 120, .inl (fun _ => 0))), (q31, .inr (3, [.ref q32, .ref q34, .ref q35])), (q32, .inr (1, [.ref q33, .int 0])), (q33, .inl (cI, 120, .inl (fun _ => 0))), (q34, .inr (2, [.int 0, .int 0, .int 0, .int 0, .int 0, .int 0, .int 0])), (q35, .inr (1, [.ref q36, .int 0])), (q36, .inl (cI, 120, .inl (fun _ => 0))), (q37, .inr (11, [.null, .int 0, .null, .int 0, .int 0, .int 0, .null, .null, .null, .int 0, .int 0, .int 0, .int 0, .null, .int 0, .int 0, .int 0, .null, .long 0, .int 0, .long 0, .int 0, .int 0]))] := hD
  refine lv_dup hx hb d_Law_11 rfl ?_
  refine x_callI (wr := [(q0, .inr (10, [.ref q1, .ref q3, .ref q5, .ref q6, .ref q7, .ref q10, .ref q11, .ref q24, .int 0, .int 6, .long 0, .int 0])), (q1, .inr (0, [.ref q2, .int 0])), (q2, .inl (cC, 120, .inl (fun _ => 0))), (q3, .inr (0, [.ref q4, .int 0])), (q4, .inl (cC, 120, .inl (fun _ => 0))), (q5, .inr (5, [.int 0])), (q6, .inr (6, [])), (q7, .inr (8, [.ref q8, .int 0, .ref q9, .int 0])), (q8, .inr (7, [.int 0, .long 0, .int 0])), (q9, .inl (cI, 6, .inl (fun _ => 0))), (q10, .inr (9, [.int 0, .int 0, .int 0, .int 0, .int 0, .int 0, .int 0, .long 0, .int 0, .int 0, .int 0])), (q11, .inr (4, [.ref q12, .ref q18, .int 0, .int 0])), (q12, .inr (3, [.ref q13, .ref q15, .ref q16])), (q13, .inr (1, [.ref q14, .int 0])), (q14, .inl (cI, 120, .inl (fun _ => 0))), (q15, .inr (2, [.int 0, .int 0, .int 0, .int 0, .int 0, .int 0, .int 0])), (q16, .inr (1, [.ref q17, .int 0])), (q17, .inl (cI, 120, .inl (fun _ => 0))), (q18, .inr (3, [.ref q19, .ref q21, .ref q22])), (q19, .inr (1, [.ref q20, .int 0])), (q20, .inl (cI, 120, .inl (fun _ => 0))), (q21, .inr (2, [.int 0, .int 0, .int 0, .int 0, .int 0, .int 0, .int 0])), (q22, .inr (1, [.ref q23, .int 0])), (q23, .inl (cI, 120, .inl (fun _ => 0))), (q24, .inr (4, [.ref q25, .ref q31, .int 0, .int 0])), (q25, .inr (3, [.ref q26, .ref q28, .ref q29])), (q26, .inr (1, [.ref q27, .int 0])), (q27, .inl (cI, 120, .inl (fun _ => 0))), (q28, .inr (2, [.int 0, .int 0, .int 0, .int 0, .int 0, .int 0, .int 0])), (q29, .inr (1, [.ref q30, .int 0])), (q30, .inl (cI, 120, .inl (fun _ => 0))), (q31, .inr (3, [.ref q32, .ref q34, .ref q35])), (q32, .inr (1, [.ref q33, .int 0])), (q33, .inl (cI, 120, .inl (fun _ => 0))), (q34, .inr (2, [.int 0, .int 0, .int 0, .int 0, .int 0, .int 0, .int 0])), (q35, .inr (1, [.ref q36, .int 0])), (q36, .inl (cI, 120, .inl (fun _ => 0)))]) (x_runI (rest := [.ref q37]) X (c_Model_init l D cC cI H.size q37) b_654 (htB _ b_655) (htB _ b_656) (htB _ b_319) rfl ⟨by decide, by decide, by decide +kernel⟩ ⟨(Nat.le_of_ble_eq_true rfl), (Nat.le_of_ble_eq_true rfl)⟩ hP hD hS [37] rfl (by decide) rfl rfl hl.1 rfl (Nat.le_of_ble_eq_true rfl) d_Law_12 ⟨(Nat.le_of_ble_eq_true rfl), (Nat.le_of_ble_eq_true rfl)⟩) hP hD hS hA [37] [0, 1, 2, 3, 4, 5, 6, 7, 8, 9, 10, 11, 12, 13, 14, 15, 16, 17, 18, 19, 20, 21, 22, 23, 24, 25, 26, 27, 28, 29, 30, 31, 32, 33, 34, 35, 36] rfl rfl (by decide) (by decide) (fun w1 H locs hw hP hD hS => ?_)
  obtain ⟨q38, q39, q40, q41, q42, q43, q44, rfl⟩ := hw
  have hP : va_P D classes [(q0, .inr (10, [.ref q1, .ref q3, .ref q5, .ref q6, .ref q7, .ref q10, .ref q11, .ref q24, .int 0, .int 6, .long 0, .int 0])), (q1, .inr (0, [.ref q2, .int 0])), (q2, .inl (cC, 120, .inl (fun _ => 0))), (q3, .inr (0, [.ref q4, .int 0])), (q4, .inl (cC, 120, .inl (fun _ => 0))), (q5, .inr (5, [.int 0])), (q6, .inr (6, [])), (q7, .inr (8, [.ref q8, .int 0, .ref q9, .int 0])), (q8, .inr (7, [.int 0, .long 0, .int 0])), (q9, .inl (cI, 6, .inl (fun _ => 0))), (q10, .inr (9, [.int 0, .int 0, .int 0, .int 0, .int 0, .int 0, .int 0, .long 0, .int 0, .int 0, .int 0])), (q11, .inr (4, [.ref q12, .ref q18, .int 0, .int 0])), (q12, .inr (3, [.ref q13, .ref q15, .ref q16])), (q13, .inr (1, [.ref q14, .int 0])), (q14, .inl (cI, 120, .inl (fun _ => 0))), (q15, .inr (2, [.int 0, .int 0, .int 0, .int 0, .int 0, .int 0, .int 0])), (q16, .inr (1, [.ref q17, .int 0])), (q17, .inl (cI, 120, .inl (fun _ => 0))), (q18, .inr (3, [.ref q19, .ref q21, .ref q22])), (q19, .inr (1, [.ref q20, .int 0])), (q20, .inl (cI, 120, .inl (fun _ => 0))), (q21, .inr (2, [.int 0, .int 0, .int 0, .int 0, .int 0, .int 0, .int 0])), (q22, .inr (1, [.ref q23, .int 0])), (q23, .inl (cI, 120, .inl (fun _ => 0))), (q24, .inr (4, [.ref q25, .ref q31, .int 0, .int 0])), (q25, .inr (3, [.ref q26, .ref q28, .ref q29])), (q26, .inr (1, [.ref q27, .int 0])), (q27, .inl (cI, 120, .inl (fun _ => 0))), (q28, .inr (2, [.int 0, .int 0, .int 0, .int 0, .int 0, .int 0, .int 0])), (q29, .inr (1, [.ref q30, .int 0])), (q30, .inl (cI, 120, .inl (fun _ => 0))), (q31, .inr (3, [.ref q32, .ref q34, .ref q35])), (q32, .inr (1, [.ref q33, .int 0])), (q33, .inl (cI, 120, .inl (fun _ => 0))), (q34, .inr (2, [.int 0, .int 0, .int 0, .int 0, .int 0, .int 0, .int 0])), (q35, .inr (1, [.ref q36, .int 0])), (q36, .inl (cI, 120, .inl (fun _ => 0))), (q37, .inr (11, [.ref q38, .int 0, .ref q39, .int 0, .int 6, .int 0, .ref q40, .ref q41, .ref q42, .int 0, .int 0, .int 0, .int 0, .ref q43, .int 0, .int 0, .int 0, .ref q44, .long 0, .int 0, .long 0, .int 0, .int 0])), (q38, .inl (cC, 120, .inl (fun _ => 0))), (q39, .inl (cC, 200, .inl (fun _ => 0))), (q40, .inl (cI, 160, .inl (fun _ => 0))), (q41, .inl (cI, 4, .inl (fun _ => 0))), (q42, .inl (cI, 7, .inl (fun _ => 0))), (q43, .inl (cI, 40, .inl (fun _ => 0))), (q44, .inl (cI, 6, .inl (fun _ => 0)))] H := hP
  have hD : va_D A [(q0, .inr (10, [.ref q1, .ref q3, .ref q5, .ref q6, .ref q7, .ref q10, .ref q11, .ref q24, .int 0, .int 6, .long 0, .int 0])), (q1, .inr (0, [.ref q2, .int 0])), (q2, .inl (cC, 120, .inl (fun _ => 0))), (q3, .inr (0, [.ref q4, .int 0])), (q4, .inl (cC, 120, .inl (fun _ => 0))), (q5, .inr (5, [.int 0])), (q6, .inr (6, [])), (q7, .inr (8, [.ref q8, .int 0, .ref q9, .int 0])), (q8, .inr (7, [.int 0, .long 0, .int 0])), (q9, .inl (cI, 6, .inl (fun _ => 0))), (q10, .inr (9, [.int 0, .int 0, .int 0, .int 0, .int 0, .int 0, .int 0, .long 0, .int 0, .int 0, .int 0])), (q11, .inr (4, [.ref q12, .ref q18, .int 0, .int 0])), (q12, .inr (3, [.ref q13, .ref q15, .ref q16])), (q13, .inr (1, [.ref q14, .int 0])), (q14, .inl (cI, 120, .inl (fun _ => 0))), (q15, .inr (2, [.int 0, .int 0, .int 0, .int 0, .int 0, .int 0, .int 0])), (q16, .inr (1, [.ref q17, .int 0])), (q17, .inl (cI, 120, .inl (fun _ => 0))), (q18, .inr (3, [.ref q19, .ref q21, .ref q22])), (q19, .inr (1, [.ref q20, .int 0])), (q20, .inl (cI, 120, .inl (fun _ => 0))), (q21, .inr (2, [.int 0, .int 0, .int 0, .int 0, .int 0, .int 0, .int 0])), (q22, .inr (1, [.ref q23, .int 0])), (q23, .inl (cI, 120, .inl (fun _ => 0))), (q24, .inr (4, [.ref q25, .ref q31, .int 0, .int 0])), (q25, .inr (3, [.ref q26, .ref q28, .ref q29])), (q26, .inr (1, [.ref q27, .int 0])), (q27, .inl (cI, 120, .inl (fun _ => 0))), (q28, .inr (2, [.int 0, .int 0, .int 0, .int 0, .int 0, .int 0, .int 0])), (q29, .inr (1, [.ref q30, .int 0])), (q30, .inl (cI, 120, .inl (fun _ => 0))), (q31, .inr (3, [.ref q32, .ref q34, .ref q35])), (q32, .inr (1, [.ref q33, .int 0])), (q33, .inl (cI, 120, .inl (fun _ => 0))), (q34, .inr (2, [.int 0, .int 0, .int 0, .int 0, .int 0, .int 0, .int 0])), (q35, .inr (1, [.ref q36, .int 0])), (q36, .inl (cI, 120, .inl (fun _ => 0))), (q37, .inr (11, [.ref q38, .int 0, .ref q39, .int 0, .int 6, .int 0, .ref q40, .ref q41, .ref q42, .int 0, .int 0, .int 0, .int 0, .ref q43, .int 0, .int 0, .int 0, .ref q44, .long 0, .int 0, .long 0, .int 0, .int 0])), (q38, .inl (cC, 120, .inl (fun _ => 0))), (q39, .inl (cC, 200, .inl (fun _ => 0))), (q40, .inl (cI, 160, .inl (fun _ => 0))), (q41, .inl (cI, 4, .inl (fun _ => 0))), (q42, .inl (cI, 7, .inl (fun _ => 0))), (q43, .inl (cI, 40, .inl (fun _ => 0))), (q44, .inl (cI, 6, .inl (fun _ => 0)))] := hD
  refine lv_astore_n (lv' := [(2, .ref q37), (1, .ref q0), (0, .ref b)]) hx hb d_Law_15 rfl hl (by decide) rfl (fun ls hl => ?_)
  refine lv_iconst (v := 0) hx hb d_Law_16 (by decide) ?_
  refine lv_istore_n (lv' := [(3, .int 0), (2, .ref q37), (1, .ref q0), (0, .ref b)]) hx hb d_Law_17 rfl hl (by decide) rfl (fun ls hl => ?_)
  refine W.widen (k := 45) (n := 1865) (Nat.le_of_ble_eq_true rfl) (Nat.le_of_ble_eq_true rfl) ?_
  exact lc_loop hO X hXs hbl hbA hL hAe (L + 1) 0 (by omega) (Nat.zero_le _) q0 q1 q2 q3 q4 q5 q6 q7 q8 q9 q10 q11 q12 q13 q14 q15 q16 q17 q18 q19 q20 q21 q22 q23 q24 q25 q26 q27 q28 q29 q30 q31 q32 q33 q34 q35 q36 q37 q38 q39 q40 q41 q42 q43 q44 i_Deci i_Model ls H locs h0 (lv_sub hl [3, 2, 1, 0] rfl) hP hD hS

