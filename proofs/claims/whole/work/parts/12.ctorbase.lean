/-! rows for constructors: the world grows -/
def Mc {U : Type} (l : Launch) (y : MethodName) (cc : ByteArray) (nL : Nat) (rm : Room) (D : va_G) (tys : List (ClassId × FieldType)) (av : List Value) (ws0 : va_W) (P : U → Prop) (w1 : U → va_W) (mc ms : Nat) : Prop :=
  ∀ sz : Nat, Met l y (Cond.code y cc nL none :: gw) rm (va_Pc av (Kpre D tys ws0 sz)) (va_Qv P (fun u t => va_P D vwCl (w1 u) t.heap ∧ va_K D vwCl tys t ∧ va_D (va_A ws0 sz) (w1 u)) (va_A ws0 sz)) mc ms (va_A ws0 sz)
def Zc {U : Type} (D : va_G) (tys : List (ClassId × FieldType)) (P : U → Prop) (w1 : U → va_W) (mc ms : Nat) (A : Nat → Prop) (below : List Frame) (args : Array Value) (s : State) : State → Prop := MQ below (va_Qv P (fun u t => va_P D vwCl (w1 u) t.heap ∧ va_K D vwCl tys t ∧ va_D A (w1 u)) A) args s mc ms A
theorem Mc.of {U : Type} {l : Launch} {y : MethodName} {cc : ByteArray} {nL : Nat} {rm : Room} {D : va_G} {tys : List (ClassId × FieldType)} {av : List Value} {ws0 : va_W} {P : U → Prop} {w1 : U → va_W} {mc ms : Nat} (hy : plainName y.cls = true) (hlen : (lg_sl av).length ≤ nL)
    (body : ∀ (p : Program) (e : Env) (s : State) (m : MethodId) (args : Array Value) (below : List Frame) (meth : Method) (c : Code) (A : Nat → Prop) (ls : Array Slot), Cx p s m args meth c y.cls cc nL none → meth.name = y.name → WW D tys ws0 A s s.heap [] → lv_has ls nL (lv_args 0 av) →
      W p l e rm s m args below meth c s.heap [] 0 0 (Zc D tys P w1 mc ms A below args s) (F0 m 0 ls [])) : Mc l y cc nL rm D tys av ws0 P w1 mc ms := by
  intro sz
  refine Met.ofW (cc := cc) (maxL := nL) (ret := none) hy rfl ?_
  intro p e s m args below meth c s₁ B hml hv
  obtain ⟨rfl, hsz, hP, hK, hD0, hN⟩ := hv
  have hts := atoms_spec (ws := Cond.code y cc nL none :: gw) B.pre
  have hown : s.vm.findClass y.cls = some m.cls := findClass_of_methodNamed B.named
  have hnm : meth.name = y.name := (name_of_methodNamed B.named B.method).1
  subst hsz
  have hD := hD0.self (sz := s.heap.size)
  have hl := lv_entry av (n := nL) hlen
  rw [lg_entry_eq]
  generalize (lg_sl av ++ List.replicate (nL - (lg_sl av).length) Slot.unset).toArray = ls at hl ⊢
  exact body p e s m av.toArray below meth c (va_A ws0 s.heap.size) ls ⟨B.exec, B.bytes, B.returns, hml, hown, fun w' h => hts w' (List.mem_cons_of_mem _ h), B.notSynchronized⟩ hnm
    ⟨hK, hP, hD, va_S.rf, fun q h => Or.inr h, hN⟩ hl
section XROWS
variable {p : Program} {l : Launch} {e : Env} {R : Room} {s : State} {m : MethodId} {args : Array Value} {below : List Frame} {meth : Method} {c : Code} {H : Heap} {locs : List Loc} {Qz : State → Prop} {own : String} {cc : ByteArray} {nL pc : Nat} {ret : Option FieldType} {ls : Array Slot} {rest : List Value}
  {D : va_G} {tys : List (ClassId × FieldType)} {ws ws' : va_W} {A : Nat → Prop} {a : Nat} {cells slots : Nat}
theorem x_vret {U : Type} {P : U → Prop} {w1 : U → va_W} (u : U) (C : Cx p s m args meth c own cc nL none) (hw : WW D tys (w1 u) A s H locs) (hq : P u) (hdg : decode cc pc = .ok (.return_, 1)) :
    W p l e R s m args below meth c H locs cells slots (Zc D tys P w1 cells slots A below args s) (F0 m pc ls []) := by
  obtain ⟨hx, hb, hr, hml, hown, hts, hlocks⟩ := C
  obtain ⟨hK, hP, hD, hS, hA, hN⟩ := hw
  exact W.vret hx hb hr (fun t ht hW => ⟨⟨u, rfl, hq, by rw [ht]; exact hP, va_K.moved hW.alike hK, hD⟩, hS.F ht⟩) hS.2.2 hdg
theorem x_obj {index : Nat} (C : Cx p s m args meth c own cc nL ret) (hl : Cond.methodLink own index objectInit ∈ lw_tbl) (hls : ls.size = nL) (hfr : 1 ≤ R.frames) (hlo : (rest.map fun v => v.category).sum + 12 ≤ R.locals) (hdg : decode cc pc = .ok (.invokespecial index, 3))
    (kk : W p l e R s m args below meth c H locs cells slots Qz (F0 m (pc + 3) ls rest)) : W p l e R s m args below meth c H locs cells slots Qz (F0 m pc ls (.ref a :: rest)) := by
  have h1 := C.w hl rfl
  have h2 := C.w kc_obj.1 rfl
  have h3 := C.w kc_obj.2 rfl
  obtain ⟨hx, hb, hr, hml, hown, hts, hlocks⟩ := C
  refine W.objInit hx hb hown h1 h2 h3 rfl (by rw [hml]; exact hls) rfl hdg hfr ?_ kk
  exact Nat.le_trans (by simp [JFrame.monitorRoom]) hlo
theorem x_newa {atype : ArrayType} {ty : FieldType} (C : Cx p s m args meth c own cc nL ret) (hw : WW D tys ws A s H locs) (harr : Cond.arrayClass (newarray.typeOf atype) ∈ lw_tbl) (hty : newarray.typeOf atype = ty) (t0 : Nat) {cA : ClassId} (ht : tys[t0]? = some (cA, ty)) (hra : ∀ (U : State) (c1 : ClassId), va_RA U c1 ty → U.vm.findClass ("[" ++ ty.toString) = some c1)
    {n : Int32} {N' : Nat} {a0 : vp_A} (ha : ∀ cA : ClassId, vp_cell cA a0 = arrV cA N' (fun _ => defaultValue ty)) (hn : ¬ n < 0) (hN : n.toNatClampNeg = N') (hbytes : N' * componentBytes ty ≤ 536870912) (hcells : cells + 1 ≤ R.cells) (hslots : slots + N' ≤ R.slots) (hdg : decode cc pc = .ok (.newarray atype, 2))
    (kk : ∀ (q : Nat) (H1 : Heap), WW D tys (ws ++ [(q, .inl (cA, a0))]) A s H1 locs → W p l e R s m args below meth c H1 locs (cells + 1) (slots + N') Qz (F0 m (pc + 2) ls (.ref q :: rest))) : W p l e R s m args below meth c H locs cells slots Qz (F0 m pc ls (.int n :: rest)) := by
  have h1 := C.w harr rfl
  obtain ⟨hx, hb, hr, hml, hown, hts, hlocks⟩ := C
  obtain ⟨hK, hP, hD, hS, hA, hN'⟩ := hw
  refine va_newa hx hb h1 hty hK hP hD hS hA ha hn hN hbytes hcells hslots hdg (fun q cB H1 hK1 hP1 hD1 hS1 => ?_)
  have e1 := hra _ _ (hK.2 t0 _ ht).2
  have e2 := hra _ _ (hK1.2 tys.length (cB, ty) (by simp)).2
  obtain rfl : cB = cA := Option.some.inj (e2.symm.trans e1)
  exact kk q H1 ⟨hK, hP1, hD1, hS1, hA, hN'⟩
theorem x_new {Cn : String} {T : u_T} {N ci index : Nat} (C : Cx p s m args meth c own cc nL ret) (hw : WW D tys ws A s H locs) (hin : ∀ w ∈ u_ws Cn T N, w ∈ gw) (ty : Nat → FieldType) (hty : ∀ k, k < N → parseFieldDescriptor (T k).2.2.1 = some (ty k)) (hcl : Cond.classLink own index Cn ∈ lw_tbl) (hkn : Cond.instantiable Cn N ∈ lw_tbl ∧ Cond.initialized Cn ∈ lw_tbl) (hc : vwCl[ci]? = some (Cn, T, N)) {fs : List Value} (hfs : ∀ j, j < N → defaultValue (ty j) = vp_V fs j) (hcells : cells + 1 ≤ R.cells) (hslots : slots + N ≤ R.slots) (hdg : decode cc pc = .ok (.new index, 3))
    (kk : ∀ (q : Nat) (H1 : Heap), WW D tys (ws ++ [(q, .inr (ci, fs))]) A s H1 locs → W p l e R s m args below meth c H1 locs (cells + 1) (slots + N) Qz (F0 m (pc + 3) ls (.ref q :: rest))) : W p l e R s m args below meth c H locs cells slots Qz (F0 m pc ls rest) := by
  have h1 := C.w hcl rfl
  have h2 := C.w hkn.1 rfl
  have h3 := C.w hkn.2 rfl
  obtain ⟨hx, hb, hr, hml, hown, hts, hlocks⟩ := C
  obtain ⟨hK, hP, hD, hS, hA, hN'⟩ := hw
  exact va_new hx hb hts hin ty hty hown h1 h2 h3 hK hP hD hS hA hc hfs hcells hslots hdg (fun q H1 hP hD hS => kk q H1 ⟨hK, hP, hD, hS, hA, hN'⟩)
theorem x_putF {Cn : String} {T : u_T} {N ci index : Nat} (C : Cx p s m args meth c own cc nL ret) (hname : meth.name = "<init>") (hw : WW D tys ws A s H locs) (hin : ∀ w ∈ u_ws Cn T N, w ∈ gw) (ty0 : Nat → FieldType) (hty : ∀ k, k < N → parseFieldDescriptor (T k).2.2.1 = some (ty0 k)) (hnm : ∀ a, a < N → ∀ b, b < N → a ≠ b → (T a).2.1 ≠ (T b).2.1)
    (q0 : Nat) {fs : List Value} (he : ws[q0]? = some (a, .inr (ci, fs))) (hc : vwCl[ci]? = some (Cn, T, N)) (k : Nat) (hk : k < N) (hl : Cond.fieldLink own index (T k).1 (T k).2.1 (T k).2.2.1 ∈ lw_tbl) (hfin : (T k).2.2.2 = true) (hdecl : (T k).1 = own) {ty : FieldType} {v : Value} (hd : parseFieldDescriptor (T k).2.2.1 = some ty) (hn : narrow ty v = v) (hfit : fits ty v = true) (hlf : k < fs.length) (hdg : decode cc pc = .ok (.putfield index, 3)) (hset : ws.set q0 (a, .inr (ci, fs.set k v)) = ws')
    (kk : ∀ (H1 : Heap) (locs1 : List Loc), WW D tys ws' A s H1 locs1 → W p l e R s m args below meth c H1 locs1 cells slots Qz (F0 m (pc + 3) ls rest)) : W p l e R s m args below meth c H locs cells slots Qz (F0 m pc ls (v :: .ref a :: rest)) := by
  have hlk := C.w hl rfl
  obtain ⟨hx, hb, hr, hml, hown, hts, hlocks⟩ := C
  obtain ⟨hK, hP, hD, hS, hA, hN⟩ := hw
  exact va_putF (D := D) (ci := ci) (C := Cn) (T := T) (N := N) (ty := ty) hx hb hts hin ty0 hty hnm hown hK hP hD hS q0 he hc k hk hlk (fun _ h9 => h9) hfin hname hdecl hd hn hfit hlf hdg (fun H1 locs1 hP hD hS => kk H1 locs1 ⟨hK, hset ▸ hP, hset ▸ hD, hS, hA, hN⟩)
/-- a constructor's call: what is called has its own cells, the rest stays -/
theorem x_join {U : Type} {wc wr : va_W} {w1 : U → va_W} {P : U → Prop} {mc ms : Nat} {st0 : List Value} {av : Array Value} (hw : WW D tys ws A s H locs) (isC isR : List Nat) (hC : isC.map (fun i => ws[i]?) = wc.map some) (hR : isR.map (fun i => ws[i]?) = wr.map some) (hn : va_nd isR = true) (hdis : ∀ i ∈ isR, i ∉ isC)
    (hr : va_Run p l e R s m args below meth c H locs cells slots mc ms (F0 m pc ls st0) rest (va_Qv P (fun u t => va_P D vwCl (w1 u) t.heap ∧ va_K D vwCl tys t ∧ va_D (va_A wc H.size) (w1 u)) (va_A wc H.size) av) (va_A wc H.size))
    (kk : ∀ (u : U) (H1 : Heap) (locs1 : List Loc), P u → WW D tys (wr ++ w1 u) A s H1 locs1 → W p l e R s m args below meth c H1 locs1 (cells + mc) (slots + ms) Qz (F0 m (pc + 3) ls rest)) : W p l e R s m args below meth c H locs cells slots Qz (F0 m pc ls st0) := by
  obtain ⟨hK, hP, hD, hS, hA, hN⟩ := hw
  have hF := va_free (wc := wc) hD hS hA isC hC
  refine va_callv hr hS (fun q _ h => hF q h) hF (fun u t H1 locs1 ht hvm hq hB hz hk hS1 => ?_)
  obtain ⟨bP, bK, bD⟩ := hB
  rw [ht] at bP
  obtain ⟨jP, jD⟩ := va_join hP hD isC isR hC hR hn hdis hk hF bP bD
  exact kk u H1 locs1 hq ⟨hK, jP, jD, hS1, hA, hN⟩
variable {y : MethodName} {cc' : ByteArray} {nL' n' index : Nat} {rm : Room} {Qc : Array Value → State → Outcome → State → Prop} {free : Addr → Prop} {As st0 : List Value} {mc ms : Nat}
theorem Kpre.sub {wc : va_W} (hw : WW D tys ws A s H locs) (isC : List Nat) (hnd : va_nd isC = true) (hC : isC.map (fun i => ws[i]?) = wc.map some) {av : List Value} : ∀ U : State, U.heap = H → s.WarmedH U.vm → va_Pc av (Kpre D tys wc H.size) av.toArray U := fun U hU hW => by
  obtain ⟨hK, hP, hD, hS, hA, hN⟩ := hw
  have hfm : isC.filterMap (fun i => ws[i]?) = wc := by
    have := congrArg (List.filterMap id) hC
    simpa [List.filterMap_map, Function.comp_def] using this
  exact ⟨rfl, by rw [hU], by rw [hU]; exact hP.sub isC hfm, va_K.moved hW.alike hK, (hD.sub isC hnd hC).weaken (fun _ _ _ _ => trivial), nests.warm hW hN⟩
theorem x_runI {wc : va_W} (C : Cx p s m args meth c own cc nL ret) (hw : WW D tys ws A s H locs) (isC : List Nat) (hnd : va_nd isC = true) (hC : isC.map (fun i => ws[i]?) = wc.map some) (hM : Met l y (Cond.code y cc' nL' none :: gw) rm (va_Pc (.ref a :: As) (Kpre D tys wc H.size)) Qc mc ms free) (K : Cond.code y cc' nL' none ∈ lw_tbl ∧ Cond.instanceMethod y ∈ lw_tbl ∧ Cond.initialized y.cls ∈ lw_tbl) (hd : y.cls ≠ "java/lang/invoke/MethodHandle" ∧ y.cls ≠ "java/lang/invoke/VarHandle" ∧ (parseMethodDescriptor y.desc).map (fun d => d.parameters.length) = some n') (hy : y.name = "<init>") (hl : Cond.methodLink own index y ∈ lw_tbl)
    (hrm : rm.cells = mc ∧ rm.slots = ms ∧ rm.frames + 1 ≤ R.frames ∧ 8 + (nL' + 11) + rm.locals ≤ R.locals) (hst : st0 = As.reverse ++ .ref a :: rest) (hn : As.length = n') (hcat : (rest.map fun v => v.category).sum ≤ 8) (hls : ls.size = nL) (hcs : cells + mc ≤ R.cells ∧ slots + ms ≤ R.slots) (hdg : decode cc pc = .ok (.invokespecial index, 3)) :
    va_Run p l e R s m args below meth c H locs cells slots mc ms (F0 m pc ls st0) rest (Qc (Value.ref a :: As).toArray) free := by
  subst hst
  have ok : ∀ w : Cond, w ∈ lw_tbl → goodWord w = true → w.before args s = true := fun w h hg => C.w h hg
  obtain ⟨hx, hb, hr, hml, hown, hts, hlocks⟩ := C
  obtain ⟨k1, k2, k4⟩ := K
  exact va_runI (Ts := gw) (bytes := cc') (maxL := nL') (n := n') ⟨hx, hb, hml, hown, hts⟩ hM ⟨callB_of n' hts (gw_GoodIn' k1) rfl hrm.1 hrm.2.1 (ok _ k4 rfl) (ok _ hl rfl) hd hrm.2.2, hy, ok _ k2 rfl⟩ ⟨Kpre.blind, Kpre.sub hw isC hnd hC⟩ rfl hn hls rfl (lv_room hcat) hdg hcs
theorem x_runIN {host : String} {wc : va_W} (C : Cx p s m args meth c own cc nL ret) (hw : WW D tys ws A s H locs) (isC : List Nat) (hnd : va_nd isC = true) (hC : isC.map (fun i => ws[i]?) = wc.map some) (hM : Met l y (Cond.code y cc' nL' none :: gw) rm (va_Pc (.ref a :: As) (Kpre D tys wc H.size)) Qc mc ms free) (K : Cond.code y cc' nL' none ∈ lw_tbl ∧ Cond.instanceMethod y ∈ lw_tbl ∧ Cond.initialized y.cls ∈ lw_tbl) (hd : y.cls ≠ "java/lang/invoke/MethodHandle" ∧ y.cls ≠ "java/lang/invoke/VarHandle" ∧ (parseMethodDescriptor y.desc).map (fun d => d.parameters.length) = some n') (hy : y.name = "<init>") (hl : (own, index, y, host) ∈ nestW)
    (hrm : rm.cells = mc ∧ rm.slots = ms ∧ rm.frames + 1 ≤ R.frames ∧ 8 + (nL' + 11) + rm.locals ≤ R.locals) (hst : st0 = As.reverse ++ .ref a :: rest) (hn : As.length = n') (hcat : (rest.map fun v => v.category).sum ≤ 8) (hls : ls.size = nL) (hcs : cells + mc ≤ R.cells ∧ slots + ms ≤ R.slots) (hdg : decode cc pc = .ok (.invokespecial index, 3)) :
    va_Run p l e R s m args below meth c H locs cells slots mc ms (F0 m pc ls st0) rest (Qc (Value.ref a :: As).toArray) free := by
  subst hst
  have ok : ∀ w : Cond, w ∈ lw_tbl → goodWord w = true → w.before args s = true := fun w h hg => C.w h hg
  have hN := hw.2.2.2.2.2
  obtain ⟨hx, hb, hr, hml, hown, hts, hlocks⟩ := C
  obtain ⟨k1, k2, k4⟩ := K
  exact va_runIN (Ts := gw) (bytes := cc') (maxL := nL') (n := n') ⟨hx, hb, hml, hown, hts⟩ hM ⟨va_cnB n' hts (gw_GoodIn' k1) rfl hrm.1 hrm.2.1 (hN _ hl) (ok _ k4 rfl) hd hrm.2.2, hy, ok _ k2 rfl⟩ ⟨Kpre.blind, Kpre.sub hw isC hnd hC⟩ rfl hn hls rfl (lv_room hcat) hdg hcs
end XROWS
theorem ra_int (U : State) (c1 : ClassId) (h : va_RA U c1 .int) : U.vm.findClass ("[" ++ FieldType.int.toString) = some c1 := h
theorem ra_long (U : State) (c1 : ClassId) (h : va_RA U c1 .long) : U.vm.findClass ("[" ++ FieldType.long.toString) = some c1 := h
theorem ra_boolean (U : State) (c1 : ClassId) (h : va_RA U c1 .boolean) : U.vm.findClass ("[" ++ FieldType.boolean.toString) = some c1 := h
