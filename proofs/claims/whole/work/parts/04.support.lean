-- checks of the functions, and what they give
theorem x_chk {α : Type} {c : Prop} [Decidable c] {x : Option α} {o : α} (h : (if c then x else none) = some o) : c ∧ x = some o := by
  by_cases hc : c
  · rw [if_pos hc] at h; exact ⟨hc, h⟩
  · rw [if_neg hc] at h; cases h
theorem x_bnd {α β : Type} {x : Option α} {f : α → Option β} {o : β} (h : x.bind f = some o) : ∃ a, x = some a ∧ f a = some o := by
  cases x with
  | none => cases h
  | some a => exact ⟨a, rfl, h⟩
theorem x_zn {x : Int32} (h : x = 0 ∨ x = 1) : narrow .boolean (.int x) = .int x := by
  rcases h with rfl | rfl <;> rfl
theorem x_zf {x : Int32} (h : x = 0 ∨ x = 1) : fits .boolean (.int x) = true := by
  rcases h with rfl | rfl <;> rfl
abbrev ix (i : Int32) (n : Nat) : Prop := ¬ (i < 0 ∨ n ≤ i.toNatClampNeg)
abbrev i2c (x : Int32) : Int32 := (x.toUInt32 % 65536).toInt32
def pw (k : Nat) : Int64 := Int64.ofNat (10 ^ k)
def FU : Nat := 1000
theorem nw_warm {w : Cond} {s U : State} (h : isNest w = true) (hW : s.WarmedH U.vm) (hz : va_Nw w s) : va_Nw w U := by
  cases w <;> first | exact va_Nw.warmF hW hz | exact va_Nw.warmM hW hz | cases h
theorem nw_same {w : Cond} {s U : State} (h : isNest w = true) (hW : s.vm = U.vm) (hz : va_Nw w s) : va_Nw w U := by
  cases w <;> first | exact va_Nw.same rfl hW hz | cases h
theorem nests_ok : ∀ w ∈ NESTS, isNest w = true := fun w hw => (List.mem_filter.mp hw).2
def xG (D : va_G) (cC cI : ClassId) (U : State) : Prop := va_K D classes [(cC, .char), (cI, .int)] U ∧ ∀ w ∈ NESTS, va_Nw w U
def xZ (A : Nat → Prop) (U : State) (H : Heap) : Prop := ∃ t : Nat, va_Z "PatternedDecimals" "POWERS" "[J" (.ref t) A U H ∧ va_T .long t 19 (fun j => .long (pw j)) A U H
def xPre (D : va_G) (cC cI : ClassId) (ws : va_W) (sz : Nat) (U : State) : Prop := U.heap.size = sz ∧ va_P D classes ws U.heap ∧ va_D (fun _ => True) ws ∧ xG D cC cI U ∧ xZ (va_A ws sz) U U.heap
def xCX (p : Program) (s : State) (m : MethodId) (args : Array Value) (meth : Method) (c : Code) (A : Nat → Prop) (D : va_G) (cC cI : ClassId) (cc : ByteArray) (nL : Nat) (own : String) (ret : Option FieldType) : Prop :=
  p.tables.exec = Jvm.exec ∧ c.code = cc ∧ c.maxLocals = nL ∧ s.vm.findClass own = some m.cls ∧ (∀ w ∈ BIG, w.before args s = true) ∧ xG D cC cI s ∧ xZ A s s.heap ∧ (∀ q, s.heap.size ≤ q → A q) ∧ meth.sig.returnType = ret ∧ meth.locks = false
theorem xG_moved {D : va_G} {cC cI : ClassId} {s U : State} (hW : s.WarmedH U.vm) (h : xG D cC cI s) : xG D cC cI U := ⟨va_K.moved hW.alike h.1, fun w hw => nw_warm (nests_ok w hw) hW (h.2 w hw)⟩
theorem xZ_moved {A B : Nat → Prop} {s U : State} {H : Heap} {locs : List Loc} (hZ : xZ A s s.heap) (hS : va_S A s.heap H locs) (hB : ∀ q, B q → A q) (hU : U.heap = H) (hW : s.WarmedH U.vm) : xZ B U U.heap := by
  obtain ⟨t, h1, h2⟩ := hZ
  exact ⟨t, by rw [hU]; exact ((h1.kept hS.2.1).narrow hB).moved hW.alike, by rw [hU]; exact ((h2.kept hS.2.1).narrow hB).moved hW.alike⟩
theorem x_sub {D : va_G} {cl : List vw_C} {ws wc : va_W} {H : Heap} (hP : va_P D cl ws H) (isC : List Nat) (hC : isC.map (fun i => ws[i]?) = wc.map some) : va_P D cl wc H := by
  intro k q hk
  have h1 : (isC.map (fun i => ws[i]?))[k]? = some (some q) := by rw [hC, List.getElem?_map, hk]; rfl
  rw [List.getElem?_map] at h1
  cases hi : isC[k]? with
  | none => rw [hi] at h1; cases h1
  | some i => rw [hi] at h1; exact hP i q (Option.some.inj h1)
theorem x_blind {D : va_G} {cC cI : ClassId} {ws : va_W} {sz : Nat} {av : List Value} : FrameBlind (va_Pc av (xPre D cC cI ws sz)) := fun a U g mk q => by
  obtain ⟨q0, q1, qP, qD, ⟨qK, qN⟩, t, z1, z2⟩ := q
  exact ⟨q0, q1, qP, qD, ⟨va_K.moved (u := U) (U := U.calling g mk a) (Vm.Alike.refl U.vm) qK, fun w hw => nw_same (s := U) (U := U.calling g mk a) (nests_ok w hw) rfl (qN w hw)⟩, t, va_Z.moved (u := U) (U := U.calling g mk a) (Vm.Alike.refl U.vm) z1, va_T.moved (u := U) (U := U.calling g mk a) (Vm.Alike.refl U.vm) z2⟩
theorem big_good : ∀ w ∈ BIG, (w.onTables && w.keeps) = true ∨ ∃ ty, w = Cond.arrayClass ty := fun w hw => good_of_word (List.mem_filter.mp hw).2
theorem x_good {y : MethodName} {bytes : ByteArray} {maxL : Nat} {ret : Option FieldType} (h : Cond.code y bytes maxL ret ∈ BIG) : GoodIn BIG (Cond.code y bytes maxL ret :: BIG) := by
  intro w hw
  rcases List.mem_cons.mp hw with rfl | hw
  · exact ⟨h, big_good _ h⟩
  · exact ⟨hw, big_good _ hw⟩
theorem x_cx {p : Program} {l : Launch} {y : MethodName} {cc : ByteArray} {maxL : Nat} {ret : Option FieldType} {rm : Room} {e : Env} {s : State} {m : MethodId} {args : Array Value} {below : List Frame} {meth : Method} {c : Code} {s₁ : State} {D : va_G} {cC cI : ClassId} {ws : va_W}
    (B : BodyLoose p l y (headSpec (Cond.code y cc maxL ret :: BIG) rm) cc maxL ret e s m args below meth c s₁) (hml : c.maxLocals = maxL) (hG : xG D cC cI s) (hZ : xZ (va_A ws s.heap.size) s s.heap) : xCX p s m args meth c (va_A ws s.heap.size) D cC cI cc maxL y.cls ret :=
  ⟨B.exec, B.bytes, hml, findClass_of_methodNamed B.named, fun w hw => atoms_spec (ws := Cond.code y cc maxL ret :: BIG) B.pre w (List.mem_cons_of_mem _ hw), hG, hZ, fun q h => Or.inr h, B.returns, B.notSynchronized⟩
section XRUN
variable {p : Program} {l : Launch} {e : Env} {R : Room} {s : State} {m : MethodId} {args : Array Value} {below : List Frame} {meth : Method} {c : Code} {H : Heap} {locs : List Loc} {Q : State → Prop} {A : Nat → Prop} {D : va_G} {cC cI : ClassId} {cc : ByteArray} {nL : Nat} {own : String} {rt ret : Option FieldType} {ws wc : va_W} {pc : Nat} {ls : Array Slot} {st0 rest As : List Value} {b : Nat}
variable {y : MethodName} {bytes : ByteArray} {maxL index : Nat} {rm : Room} {Qc : Array Value → State → Outcome → State → Prop} {host : String}
theorem x_pre (X : xCX p s m args meth c A D cC cI cc nL own rt) (hP : va_P D classes ws H) (hD : va_D A ws) (hS : va_S A s.heap H locs) (isC : List Nat) (hC : isC.map (fun i => ws[i]?) = wc.map some) (hnC : va_nd isC = true) : ∀ U : State, U.heap = H → s.WarmedH U.vm → xPre D cC cI wc H.size U := by
  obtain ⟨hx, hb, hml, hown, htB, hG, hZ, hA, hr, hlocks⟩ := X
  intro U hU hW
  exact ⟨by rw [hU], by rw [hU]; exact x_sub hP isC hC, (hD.sub isC hnC hC).weaken (fun _ _ _ _ => trivial), xG_moved hW hG, xZ_moved hZ hS (va_free hD hS hA isC hC) hU hW⟩
theorem x_runVN {C : String} {T : u_T} {N ci : Nat} {fs : List Value} (X : xCX p s m args meth c A D cC cI cc nL own rt) (hM : Met l y (Cond.code y bytes maxL ret :: BIG) rm (va_Pc (.ref b :: As) (xPre D cC cI wc H.size)) Qc 0 0 (va_A wc H.size)) (hcode : Cond.code y bytes maxL ret ∈ BIG) (n : Nat)
    (hl : va_Nw (.methodLinkNest own index y host) s) (hins : (Cond.instanceMethod y).before args s = true) (hsel : (Cond.selects C y y).before args s = true) (hini : (Cond.initialized y.cls).before args s = true)
    (hd : y.cls ≠ "java/lang/invoke/MethodHandle" ∧ y.cls ≠ "java/lang/invoke/VarHandle" ∧ (parseMethodDescriptor y.desc).map (fun d => d.parameters.length) = some n) (hR : rm.frames + 1 ≤ R.frames ∧ 8 + (maxL + 11) + rm.locals ≤ R.locals)
    (q0 : Nat) (he : ws[q0]? = some (b, .inr (ci, fs))) (hc : classes[ci]? = some (C, T, N)) (hP : va_P D classes ws H) (hD : va_D A ws) (hS : va_S A s.heap H locs) (isC : List Nat) (hC : isC.map (fun i => ws[i]?) = wc.map some) (hnC : va_nd isC = true)
    (hrc : rm.cells = 0) (hrs : rm.slots = 0) (hsize : ls.size = nL) (hn : As.length = n) (hst : st0 = As.reverse ++ .ref b :: rest) (hroom : (rest.map fun v => v.category).sum ≤ 8) (hdg : decode cc pc = .ok (.invokevirtual index, 3)) :
    va_Run p l e R s m args below meth c H locs 0 0 0 0 (F0 m pc ls st0) rest (Qc (Value.ref b :: As).toArray) (va_A wc H.size) := by
  have hpre := x_pre X hP hD hS isC hC hnC
  obtain ⟨hx, hb, hml, hown, htB, hG, hZ, hA, hr, hlocks⟩ := X
  exact va_runVN (C := C) ⟨hx, hb, hml, hown, htB⟩ hM ⟨va_cnB n htB (x_good hcode) rfl hrc hrs hl hini hd hR, hins, hsel⟩ ⟨x_blind, va_recv hG.1 hP hc he, fun U hU hW => ⟨rfl, hpre U hU hW⟩⟩ rfl hn hsize hst (lv_room hroom) hdg ⟨Nat.zero_le _, Nat.zero_le _⟩
theorem x_runV {C : String} {T : u_T} {N ci : Nat} {fs : List Value} (X : xCX p s m args meth c A D cC cI cc nL own rt) (hM : Met l y (Cond.code y bytes maxL ret :: BIG) rm (va_Pc (.ref b :: As) (xPre D cC cI wc H.size)) Qc 0 0 (va_A wc H.size)) (hcode : Cond.code y bytes maxL ret ∈ BIG) (n : Nat)
    (hl : (Cond.methodLink own index y).before args s = true) (hins : (Cond.instanceMethod y).before args s = true) (hsel : (Cond.selects C y y).before args s = true) (hini : (Cond.initialized y.cls).before args s = true)
    (hd : y.cls ≠ "java/lang/invoke/MethodHandle" ∧ y.cls ≠ "java/lang/invoke/VarHandle" ∧ (parseMethodDescriptor y.desc).map (fun d => d.parameters.length) = some n) (hR : rm.frames + 1 ≤ R.frames ∧ 8 + (maxL + 11) + rm.locals ≤ R.locals)
    (q0 : Nat) (he : ws[q0]? = some (b, .inr (ci, fs))) (hc : classes[ci]? = some (C, T, N)) (hP : va_P D classes ws H) (hD : va_D A ws) (hS : va_S A s.heap H locs) (isC : List Nat) (hC : isC.map (fun i => ws[i]?) = wc.map some) (hnC : va_nd isC = true)
    (hrc : rm.cells = 0) (hrs : rm.slots = 0) (hsize : ls.size = nL) (hn : As.length = n) (hst : st0 = As.reverse ++ .ref b :: rest) (hroom : (rest.map fun v => v.category).sum ≤ 8) (hdg : decode cc pc = .ok (.invokevirtual index, 3)) :
    va_Run p l e R s m args below meth c H locs 0 0 0 0 (F0 m pc ls st0) rest (Qc (Value.ref b :: As).toArray) (va_A wc H.size) := by
  have hpre := x_pre X hP hD hS isC hC hnC
  obtain ⟨hx, hb, hml, hown, htB, hG, hZ, hA, hr, hlocks⟩ := X
  exact va_runV (C := C) ⟨hx, hb, hml, hown, htB⟩ hM ⟨callB_of n htB (x_good hcode) rfl hrc hrs hini hl hd hR, hins, hsel⟩ ⟨x_blind, va_recv hG.1 hP hc he, fun U hU hW => ⟨rfl, hpre U hU hW⟩⟩ rfl hn hsize hst (lv_room hroom) hdg ⟨Nat.zero_le _, Nat.zero_le _⟩
theorem x_runS (X : xCX p s m args meth c A D cC cI cc nL own rt) (hM : Met l y (Cond.code y bytes maxL ret :: BIG) rm (va_Pc As (xPre D cC cI wc H.size)) Qc 0 0 (va_A wc H.size)) (hcode : Cond.code y bytes maxL ret ∈ BIG) (n : Nat)
    (hl : (Cond.methodLink own index y).before args s = true) (hstt : (Cond.static y).before args s = true) (hini : (Cond.initialized y.cls).before args s = true)
    (hd : y.cls ≠ "java/lang/invoke/MethodHandle" ∧ y.cls ≠ "java/lang/invoke/VarHandle" ∧ (parseMethodDescriptor y.desc).map (fun d => d.parameters.length) = some n) (hR : rm.frames + 1 ≤ R.frames ∧ 8 + (maxL + 11) + rm.locals ≤ R.locals)
    (hP : va_P D classes ws H) (hD : va_D A ws) (hS : va_S A s.heap H locs) (isC : List Nat) (hC : isC.map (fun i => ws[i]?) = wc.map some) (hnC : va_nd isC = true)
    (hrc : rm.cells = 0) (hrs : rm.slots = 0) (hsize : ls.size = nL) (hn : As.length = n) (hst : st0 = As.reverse ++ rest) (hroom : (rest.map fun v => v.category).sum ≤ 8) (hdg : decode cc pc = .ok (.invokestatic index, 3)) :
    va_Run p l e R s m args below meth c H locs 0 0 0 0 (F0 m pc ls st0) rest (Qc As.toArray) (va_A wc H.size) := by
  have hpre := x_pre X hP hD hS isC hC hnC
  obtain ⟨hx, hb, hml, hown, htB, hG, hZ, hA, hr, hlocks⟩ := X
  exact va_runS ⟨hx, hb, hml, hown, htB⟩ hM ⟨callB_of n htB (x_good hcode) rfl hrc hrs hini hl hd hR, hstt⟩ ⟨x_blind, fun U hU hW => ⟨rfl, hpre U hU hW⟩⟩ rfl hn hsize hst (lv_room hroom) hdg ⟨Nat.zero_le _, Nat.zero_le _⟩
theorem x_runSN (X : xCX p s m args meth c A D cC cI cc nL own rt) (hM : Met l y (Cond.code y bytes maxL ret :: BIG) rm (va_Pc As (xPre D cC cI wc H.size)) Qc 0 0 (va_A wc H.size)) (hcode : Cond.code y bytes maxL ret ∈ BIG) (n : Nat)
    (hl : va_Nw (.methodLinkNest own index y host) s) (hstt : (Cond.static y).before args s = true) (hini : (Cond.initialized y.cls).before args s = true)
    (hd : y.cls ≠ "java/lang/invoke/MethodHandle" ∧ y.cls ≠ "java/lang/invoke/VarHandle" ∧ (parseMethodDescriptor y.desc).map (fun d => d.parameters.length) = some n) (hR : rm.frames + 1 ≤ R.frames ∧ 8 + (maxL + 11) + rm.locals ≤ R.locals)
    (hP : va_P D classes ws H) (hD : va_D A ws) (hS : va_S A s.heap H locs) (isC : List Nat) (hC : isC.map (fun i => ws[i]?) = wc.map some) (hnC : va_nd isC = true)
    (hrc : rm.cells = 0) (hrs : rm.slots = 0) (hsize : ls.size = nL) (hn : As.length = n) (hst : st0 = As.reverse ++ rest) (hroom : (rest.map fun v => v.category).sum ≤ 8) (hdg : decode cc pc = .ok (.invokestatic index, 3)) :
    va_Run p l e R s m args below meth c H locs 0 0 0 0 (F0 m pc ls st0) rest (Qc As.toArray) (va_A wc H.size) := by
  have hpre := x_pre X hP hD hS isC hC hnC
  obtain ⟨hx, hb, hml, hown, htB, hG, hZ, hA, hr, hlocks⟩ := X
  exact va_runSN ⟨hx, hb, hml, hown, htB⟩ hM ⟨va_cnB n htB (x_good hcode) rfl hrc hrs hl hini hd hR, hstt, trivial⟩ ⟨x_blind, fun U hU hW => ⟨rfl, hpre U hU hW⟩⟩ rfl hn hsize hst (lv_room hroom) hdg ⟨Nat.zero_le _, Nat.zero_le _⟩
theorem x_join {wr w1 ws2 : va_W} {H1 : Heap} (hP : va_P D classes ws H) (hD : va_D A ws) (hS : va_S A s.heap H locs) (hA : ∀ q, s.heap.size ≤ q → A q) (isC isR perm : List Nat) (hC : isC.map (fun i => ws[i]?) = wc.map some) (hR : isR.map (fun i => ws[i]?) = wr.map some) (hn : va_nd isR = true) (hdis : ∀ i ∈ isR, i ∉ isC) (hp : perm.map (fun i => (wr ++ w1)[i]?) = ws2.map some) (hpn : va_nd perm = true)
    (hk : ∀ q : Nat, q < H.size → ¬ va_A wc H.size q → H1[q]? = H[q]?) (hP1 : va_P D classes w1 H1) (hD1 : va_D (va_A wc H.size) w1) : va_P D classes ws2 H1 ∧ va_D A ws2 := by
  obtain ⟨h1, h2⟩ := va_join hP hD isC isR hC hR hn hdis hk (va_free hD hS hA isC hC) hP1 hD1
  exact ⟨x_sub h1 perm hp, h2.sub perm hpn hp⟩
theorem x_calli {a : Array Value} {r0 : Int32} {w1 ws2 : va_W} (hr : va_Run p l e R s m args below meth c H locs 0 0 0 0 (F0 m pc ls st0) rest (va_Qi (fun r (_ : Unit) => r = r0) (fun _ t => va_P D classes w1 t.heap ∧ va_D (va_A wc H.size) w1) (va_A wc H.size) a) (va_A wc H.size))
    (hP : va_P D classes ws H) (hD : va_D A ws) (hS : va_S A s.heap H locs) (hA : ∀ q, s.heap.size ≤ q → A q) (isC isR perm : List Nat) (hC : isC.map (fun i => ws[i]?) = wc.map some) (hR : isR.map (fun i => ws[i]?) = (isR.filterMap (fun i => ws[i]?)).map some) (hn : va_nd isR = true) (hdis : ∀ i ∈ isR, i ∉ isC) (hp : perm.map (fun i => (isR.filterMap (fun i => ws[i]?) ++ w1)[i]?) = ws2.map some) (hpn : va_nd perm = true)
    (kk : ∀ (H1 : Heap) (locs1 : List Loc), va_P D classes ws2 H1 → va_D A ws2 → va_S A s.heap H1 locs1 → W p l e R s m args below meth c H1 locs1 0 0 Q (F0 m (pc + 3) ls (.int r0 :: rest))) : W p l e R s m args below meth c H locs 0 0 Q (F0 m pc ls st0) := by
  have hF := va_free (wc := wc) hD hS hA isC hC
  refine va_calli hr hS (fun q _ h => hF q h) hF (fun r u t H1 locs1 ht hvm hw hB hz hk hS1 => ?_)
  obtain ⟨hP1, hD1⟩ := hB
  rw [ht] at hP1
  obtain ⟨g1, g2⟩ := x_join hP hD hS hA isC isR perm hC hR hn hdis hp hpn hk hP1 hD1
  subst hw
  exact kk H1 locs1 g1 g2 hS1
theorem x_calll {a : Array Value} {r0 : Int64} {w1 ws2 : va_W} (hr : va_Run p l e R s m args below meth c H locs 0 0 0 0 (F0 m pc ls st0) rest (va_Ql (fun r (_ : Unit) => r = r0) (fun _ t => va_P D classes w1 t.heap ∧ va_D (va_A wc H.size) w1) (va_A wc H.size) a) (va_A wc H.size))
    (hP : va_P D classes ws H) (hD : va_D A ws) (hS : va_S A s.heap H locs) (hA : ∀ q, s.heap.size ≤ q → A q) (isC isR perm : List Nat) (hC : isC.map (fun i => ws[i]?) = wc.map some) (hR : isR.map (fun i => ws[i]?) = (isR.filterMap (fun i => ws[i]?)).map some) (hn : va_nd isR = true) (hdis : ∀ i ∈ isR, i ∉ isC) (hp : perm.map (fun i => (isR.filterMap (fun i => ws[i]?) ++ w1)[i]?) = ws2.map some) (hpn : va_nd perm = true)
    (kk : ∀ (H1 : Heap) (locs1 : List Loc), va_P D classes ws2 H1 → va_D A ws2 → va_S A s.heap H1 locs1 → W p l e R s m args below meth c H1 locs1 0 0 Q (F0 m (pc + 3) ls (.long r0 :: rest))) : W p l e R s m args below meth c H locs 0 0 Q (F0 m pc ls st0) := by
  have hF := va_free (wc := wc) hD hS hA isC hC
  refine va_calll hr hS (fun q _ h => hF q h) hF (fun r u t H1 locs1 ht hvm hw hB hz hk hS1 => ?_)
  obtain ⟨hP1, hD1⟩ := hB
  rw [ht] at hP1
  obtain ⟨g1, g2⟩ := x_join hP hD hS hA isC isR perm hC hR hn hdis hp hpn hk hP1 hD1
  subst hw
  exact kk H1 locs1 g1 g2 hS1
theorem x_callv {a : Array Value} {w1 ws2 : va_W} (hr : va_Run p l e R s m args below meth c H locs 0 0 0 0 (F0 m pc ls st0) rest (va_Qv (fun _ : Unit => True) (fun _ t => va_P D classes w1 t.heap ∧ va_D (va_A wc H.size) w1) (va_A wc H.size) a) (va_A wc H.size))
    (hP : va_P D classes ws H) (hD : va_D A ws) (hS : va_S A s.heap H locs) (hA : ∀ q, s.heap.size ≤ q → A q) (isC isR perm : List Nat) (hC : isC.map (fun i => ws[i]?) = wc.map some) (hR : isR.map (fun i => ws[i]?) = (isR.filterMap (fun i => ws[i]?)).map some) (hn : va_nd isR = true) (hdis : ∀ i ∈ isR, i ∉ isC) (hp : perm.map (fun i => (isR.filterMap (fun i => ws[i]?) ++ w1)[i]?) = ws2.map some) (hpn : va_nd perm = true)
    (kk : ∀ (H1 : Heap) (locs1 : List Loc), va_P D classes ws2 H1 → va_D A ws2 → va_S A s.heap H1 locs1 → W p l e R s m args below meth c H1 locs1 0 0 Q (F0 m (pc + 3) ls rest)) : W p l e R s m args below meth c H locs 0 0 Q (F0 m pc ls st0) := by
  have hF := va_free (wc := wc) hD hS hA isC hC
  refine va_callv hr hS (fun q _ h => hF q h) hF (fun u t H1 locs1 ht hvm hw hB hz hk hS1 => ?_)
  obtain ⟨hP1, hD1⟩ := hB
  rw [ht] at hP1
  obtain ⟨g1, g2⟩ := x_join hP hD hS hA isC isR perm hC hR hn hdis hp hpn hk hP1 hD1
  exact kk H1 locs1 g1 g2 hS1
end XRUN
