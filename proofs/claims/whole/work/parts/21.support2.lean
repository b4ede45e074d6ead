-- constructors: a callee that makes cells
section XCT
variable {p : Program} {l : Launch} {e : Env} {R : Room} {s : State} {m : MethodId} {args : Array Value} {below : List Frame} {meth : Method} {c : Code} {H : Heap} {locs : List Loc} {Q : State → Prop} {A : Nat → Prop} {D : va_G} {cC cI : ClassId} {cc : ByteArray} {nL : Nat} {own : String} {rt ret : Option FieldType} {ws wc : va_W} {pc : Nat} {ls : Array Slot} {st0 rest As : List Value} {b : Nat}
variable {y : MethodName} {bytes : ByteArray} {maxL index mc ms cells slots : Nat} {rm : Room} {Qc : Array Value → State → Outcome → State → Prop} {host : String}
theorem x_sameC {cA : ClassId} (hK : va_K D classes [(cC, .char), (cI, .int)] s) (hK2 : va_K D classes ([(cC, .char), (cI, .int)] ++ [(cA, .char)]) s) : cA = cC := by
  have h1 : s.vm.findClass ("[" ++ FieldType.char.toString) = some cA := (hK2.2 2 _ rfl).2
  have h2 : s.vm.findClass ("[" ++ FieldType.char.toString) = some cC := (hK.2 0 _ rfl).2
  exact Option.some.inj (h1.symm.trans h2)
theorem x_sameI {cA : ClassId} (hK : va_K D classes [(cC, .char), (cI, .int)] s) (hK2 : va_K D classes ([(cC, .char), (cI, .int)] ++ [(cA, .int)]) s) : cA = cI := by
  have h1 : s.vm.findClass ("[" ++ FieldType.int.toString) = some cA := (hK2.2 2 _ rfl).2
  have h2 : s.vm.findClass ("[" ++ FieldType.int.toString) = some cI := (hK.2 1 _ rfl).2
  exact Option.some.inj (h1.symm.trans h2)
theorem x_runIN (X : xCX p s m args meth c A D cC cI cc nL own rt) (hM : Met l y (Cond.code y bytes maxL none :: BIG) rm (va_Pc [.ref b] (xPre D cC cI wc H.size)) Qc mc ms (va_A wc H.size)) (hcode : Cond.code y bytes maxL none ∈ BIG)
    (hl : va_Nw (.methodLinkNest own index y host) s) (hins : (Cond.instanceMethod y).before args s = true) (hini : (Cond.initialized y.cls).before args s = true) (hy1 : y.name = "<init>")
    (hd : y.cls ≠ "java/lang/invoke/MethodHandle" ∧ y.cls ≠ "java/lang/invoke/VarHandle" ∧ (parseMethodDescriptor y.desc).map (fun d => d.parameters.length) = some 0) (hR : rm.frames + 1 ≤ R.frames ∧ 8 + (maxL + 11) + rm.locals ≤ R.locals)
    (hP : va_P D classes ws H) (hD : va_D A ws) (hS : va_S A s.heap H locs) (isC : List Nat) (hC : isC.map (fun i => ws[i]?) = wc.map some) (hnC : va_nd isC = true)
    (hrc : rm.cells = mc) (hrs : rm.slots = ms) (hsize : ls.size = nL) (hst : st0 = .ref b :: rest) (hroom : (rest.map fun v => v.category).sum ≤ 8) (hdg : decode cc pc = .ok (.invokespecial index, 3)) (hf : cells + mc ≤ R.cells ∧ slots + ms ≤ R.slots) :
    va_Run p l e R s m args below meth c H locs cells slots mc ms (F0 m pc ls st0) rest (Qc ([Value.ref b] : List Value).toArray) (va_A wc H.size) := by
  have hpre := x_pre X hP hD hS isC hC hnC
  obtain ⟨hx, hb, hml, hown, htB, hG, hZ, hA, hr, hlocks⟩ := X
  exact va_runIN (As := []) ⟨hx, hb, hml, hown, htB⟩ hM ⟨va_cnB 0 htB (x_good hcode) rfl hrc hrs hl hini hd hR, hy1, hins⟩ ⟨x_blind, fun U hU hW => ⟨rfl, hpre U hU hW⟩⟩ rfl rfl hsize hst (lv_room hroom) hdg hf
theorem x_runI (X : xCX p s m args meth c A D cC cI cc nL own rt) (hM : Met l y (Cond.code y bytes maxL none :: BIG) rm (va_Pc [.ref b] (xPre D cC cI wc H.size)) Qc mc ms (va_A wc H.size)) (hcode : Cond.code y bytes maxL none ∈ BIG)
    (hl : (Cond.methodLink own index y).before args s = true) (hins : (Cond.instanceMethod y).before args s = true) (hini : (Cond.initialized y.cls).before args s = true) (hy1 : y.name = "<init>")
    (hd : y.cls ≠ "java/lang/invoke/MethodHandle" ∧ y.cls ≠ "java/lang/invoke/VarHandle" ∧ (parseMethodDescriptor y.desc).map (fun d => d.parameters.length) = some 0) (hR : rm.frames + 1 ≤ R.frames ∧ 8 + (maxL + 11) + rm.locals ≤ R.locals)
    (hP : va_P D classes ws H) (hD : va_D A ws) (hS : va_S A s.heap H locs) (isC : List Nat) (hC : isC.map (fun i => ws[i]?) = wc.map some) (hnC : va_nd isC = true)
    (hrc : rm.cells = mc) (hrs : rm.slots = ms) (hsize : ls.size = nL) (hst : st0 = .ref b :: rest) (hroom : (rest.map fun v => v.category).sum ≤ 8) (hdg : decode cc pc = .ok (.invokespecial index, 3)) (hf : cells + mc ≤ R.cells ∧ slots + ms ≤ R.slots) :
    va_Run p l e R s m args below meth c H locs cells slots mc ms (F0 m pc ls st0) rest (Qc ([Value.ref b] : List Value).toArray) (va_A wc H.size) := by
  have hpre := x_pre X hP hD hS isC hC hnC
  obtain ⟨hx, hb, hml, hown, htB, hG, hZ, hA, hr, hlocks⟩ := X
  exact va_runI (As := []) ⟨hx, hb, hml, hown, htB⟩ hM ⟨callB_of 0 htB (x_good hcode) rfl hrc hrs hini hl hd hR, hy1, hins⟩ ⟨x_blind, fun U hU hW => ⟨rfl, hpre U hU hW⟩⟩ rfl rfl hsize hst (lv_room hroom) hdg hf
theorem x_callI {a : Array Value} {wr : va_W} {Sh : va_W → Prop} (hr : va_Run p l e R s m args below meth c H locs cells slots mc ms (F0 m pc ls st0) rest (va_Qv (fun _ : Unit => True) (fun _ t => ∃ w1 : va_W, Sh w1 ∧ va_P D classes w1 t.heap ∧ va_D (va_A wc H.size) w1) (va_A wc H.size) a) (va_A wc H.size))
    (hP : va_P D classes ws H) (hD : va_D A ws) (hS : va_S A s.heap H locs) (hA : ∀ q, s.heap.size ≤ q → A q) (isC isR : List Nat) (hC : isC.map (fun i => ws[i]?) = wc.map some) (hR : isR.map (fun i => ws[i]?) = wr.map some) (hn : va_nd isR = true) (hdis : ∀ i ∈ isR, i ∉ isC)
    (kk : ∀ (w1 : va_W) (H1 : Heap) (locs1 : List Loc), Sh w1 → va_P D classes (wr ++ w1) H1 → va_D A (wr ++ w1) → va_S A s.heap H1 locs1 → W p l e R s m args below meth c H1 locs1 (cells + mc) (slots + ms) Q (F0 m (pc + 3) ls rest)) : W p l e R s m args below meth c H locs cells slots Q (F0 m pc ls st0) := by
  have hF := va_free (wc := wc) hD hS hA isC hC
  refine va_callv hr hS (fun q _ h => hF q h) hF (fun u t H1 locs1 ht hvm hw hB hz hk hS1 => ?_)
  obtain ⟨w1, hsh, hP1, hD1⟩ := hB
  rw [ht] at hP1
  obtain ⟨g1, g2⟩ := va_join hP hD isC isR hC hR hn hdis hk (va_free hD hS hA isC hC) hP1 hD1
  exact kk w1 H1 locs1 hsh g1 g2 hS1
end XCT
