/-! The two systems' states as numbered rows, worlds made of them, and the kit's rows over such worlds. -/
abbrev MS : Type := (Nat → Nat → Int32) × (Nat → Nat → Int64) × (Nat → Int32)
def uI (S : MS) (k i : Nat) (v : Int32) : MS := (fun a => if a = k then upd (S.1 a) i v else S.1 a, S.2)
def uL (S : MS) (k i : Nat) (v : Int64) : MS := (S.1, fun a => if a = k then vp_updL (S.2.1 a) i v else S.2.1 a, S.2.2)
def uC (S : MS) (k : Nat) (f : Nat → Int64) : MS := (S.1, fun a => if a = k then f else S.2.1 a, S.2.2)
def uF (S : MS) (k : Nat) (v : Int32) : MS := (S.1, S.2.1, fun a => if a = k then v else S.2.2 a)
/-- the words of the tables that stay good -/
def gw : List Cond := lw_tbl.filter goodWord
theorem gw_in {w : Cond} (h : w ∈ lw_tbl) (hg : goodWord w = true) : w ∈ gw := List.mem_filter.mpr ⟨h, hg⟩
theorem gw_GoodIn {y y' : MethodName} {cc cc' : ByteArray} {n n' : Nat} {r r' : Option FieldType} (h : Cond.code y' cc' n' r' ∈ lw_tbl) : GoodIn (Cond.code y cc n r :: gw) (Cond.code y' cc' n' r' :: gw) := by
  intro w hw
  rcases List.mem_cons.mp hw with rfl | hw
  · exact ⟨List.mem_cons_of_mem _ (gw_in h rfl), Or.inl rfl⟩
  · exact ⟨List.mem_cons_of_mem _ hw, good_of_word (List.mem_filter.mp hw).2⟩
theorem gw_GoodIn' {y' : MethodName} {cc' : ByteArray} {n' : Nat} {r' : Option FieldType} (h : Cond.code y' cc' n' r' ∈ lw_tbl) : GoodIn gw (Cond.code y' cc' n' r' :: gw) := by
  intro w hw
  rcases List.mem_cons.mp hw with rfl | hw
  · exact ⟨(gw_in h rfl), Or.inl rfl⟩
  · exact ⟨hw, good_of_word (List.mem_filter.mp hw).2⟩
/-- links to private members of nest mates -/
def nestW : List (String × Nat × MethodName × String) := [(RX5, 9, yX2_init, RX5), (RX5, 18, yX0_init, RX5), (RX5, 25, yX4_init, RX5), (RX4, 48, yX5_spread, RX5), (RX4, 59, yX5_hasBit, RX5), (RX4, 62, yX5_packed, RX5), (RX1, 118, yX5_hasBit, RX5), (RX1, 83, yX5_packed, RX5)]
def nests (U : State) : Prop := ∀ q ∈ nestW, va_Nw (.methodLinkNest q.1 q.2.1 q.2.2.1 q.2.2.2) U
theorem nests.warm {s U : State} (hW : s.WarmedH U.vm) (h : nests s) : nests U := fun q hq => va_Nw.warmM hW (h q hq)
theorem nests.same {s U : State} (hW : s.vm = U.vm) (h : nests s) : nests U := fun q hq => va_Nw.same rfl hW (h q hq)
/-- a world holds: the tables, the cells, apart, nothing else has changed -/
def WW (D : va_G) (tys : List (ClassId × FieldType)) (ws : va_W) (A : Nat → Prop) (s : State) (H : Heap) (locs : List Loc) : Prop :=
  va_K D vwCl tys s ∧ va_P D vwCl ws H ∧ va_D A ws ∧ va_S A s.heap H locs ∧ (∀ q : Nat, s.heap.size ≤ q → A q) ∧ nests s
/-- what a method's body knows of the machine -/
def Cx (p : Program) (s : State) (m : MethodId) (args : Array Value) (meth : Method) (c : Code) (own : String) (cc : ByteArray) (nL : Nat) (ret : Option FieldType) : Prop :=
  p.tables.exec = Jvm.exec ∧ c.code = cc ∧ meth.sig.returnType = ret ∧ c.maxLocals = nL ∧ s.vm.findClass own = some m.cls ∧ (∀ w ∈ gw, w.before args s = true) ∧ meth.locks = false
theorem Cx.w {p : Program} {s : State} {m : MethodId} {args : Array Value} {meth : Method} {c : Code} {own : String} {cc : ByteArray} {nL : Nat} {ret : Option FieldType} (C : Cx p s m args meth c own cc nL ret) {w : Cond} (h : w ∈ lw_tbl) (hg : goodWord w = true) : w.before args s = true := C.2.2.2.2.2.1 w (gw_in h hg)
def Kpre (D : va_G) (tys : List (ClassId × FieldType)) (ws : va_W) (sz : Nat) (U : State) : Prop := U.heap.size = sz ∧ va_P D vwCl ws U.heap ∧ va_K D vwCl tys U ∧ va_D (fun _ => True) ws ∧ nests U
def Kpost (D : va_G) (tys : List (ClassId × FieldType)) (w : MS → va_W) (A : Nat → Prop) (S : MS) (t : State) : Prop := va_P D vwCl (w S) t.heap ∧ va_K D vwCl tys t ∧ va_D A (w S)
/-- contracts over a world: int, long, void -/
def Mi (l : Launch) (y : MethodName) (cc : ByteArray) (nL : Nat) (ret : Option FieldType) (rm : Room) (D : va_G) (tys : List (ClassId × FieldType)) (w : MS → va_W) (av : List Value) (S : MS) (Q : Int32 → MS → Prop) : Prop :=
  ∀ sz : Nat, Met l y (Cond.code y cc nL ret :: gw) rm (va_Pc av (Kpre D tys (w S) sz)) (va_Qi Q (Kpost D tys w (va_A (w S) sz)) (va_A (w S) sz)) 0 0 (va_A (w S) sz)
def Ml (l : Launch) (y : MethodName) (cc : ByteArray) (nL : Nat) (ret : Option FieldType) (rm : Room) (D : va_G) (tys : List (ClassId × FieldType)) (w : MS → va_W) (av : List Value) (S : MS) (Q : Int64 → MS → Prop) : Prop :=
  ∀ sz : Nat, Met l y (Cond.code y cc nL ret :: gw) rm (va_Pc av (Kpre D tys (w S) sz)) (va_Ql Q (Kpost D tys w (va_A (w S) sz)) (va_A (w S) sz)) 0 0 (va_A (w S) sz)
def Mv (l : Launch) (y : MethodName) (cc : ByteArray) (nL : Nat) (ret : Option FieldType) (rm : Room) (D : va_G) (tys : List (ClassId × FieldType)) (w : MS → va_W) (av : List Value) (S : MS) (Q : MS → Prop) : Prop :=
  ∀ sz : Nat, Met l y (Cond.code y cc nL ret :: gw) rm (va_Pc av (Kpre D tys (w S) sz)) (va_Qv Q (Kpost D tys w (va_A (w S) sz)) (va_A (w S) sz)) 0 0 (va_A (w S) sz)
def Zi (D : va_G) (tys : List (ClassId × FieldType)) (w : MS → va_W) (A : Nat → Prop) (below : List Frame) (args : Array Value) (s : State) (Q : Int32 → MS → Prop) : State → Prop := MQ below (va_Qi Q (Kpost D tys w A) A) args s 0 0 A
def Zl (D : va_G) (tys : List (ClassId × FieldType)) (w : MS → va_W) (A : Nat → Prop) (below : List Frame) (args : Array Value) (s : State) (Q : Int64 → MS → Prop) : State → Prop := MQ below (va_Ql Q (Kpost D tys w A) A) args s 0 0 A
def Zv (D : va_G) (tys : List (ClassId × FieldType)) (w : MS → va_W) (A : Nat → Prop) (below : List Frame) (args : Array Value) (s : State) (Q : MS → Prop) : State → Prop := MQ below (va_Qv Q (Kpost D tys w A) A) args s 0 0 A
section ENTER
variable {l : Launch} {y : MethodName} {cc : ByteArray} {nL : Nat} {ret : Option FieldType} {rm : Room} {D : va_G} {tys : List (ClassId × FieldType)} {w : MS → va_W} {av : List Value} {S : MS}
/-- from a method's contract to its body, for any end -/
theorem w_enter {Qc : (Nat → Prop) → Array Value → State → Outcome → State → Prop} (hy : plainName y.cls = true) (hlen : (lg_sl av).length ≤ nL)
    (body : ∀ (p : Program) (e : Env) (s : State) (m : MethodId) (args : Array Value) (below : List Frame) (meth : Method) (c : Code) (A : Nat → Prop) (ls : Array Slot), Cx p s m args meth c y.cls cc nL ret → WW D tys (w S) A s s.heap [] → lv_has ls nL (lv_args 0 av) →
      W p l e rm s m args below meth c s.heap [] 0 0 (MQ below (Qc A) args s 0 0 A) (F0 m 0 ls [])) (sz : Nat) :
    Met l y (Cond.code y cc nL ret :: gw) rm (va_Pc av (Kpre D tys (w S) sz)) (Qc (va_A (w S) sz)) 0 0 (va_A (w S) sz) := by
  refine Met.ofW (cc := cc) (maxL := nL) (ret := ret) hy rfl ?_
  intro p e s m args below meth c s₁ B hml hv
  obtain ⟨rfl, hsz, hP, hK, hD0, hN⟩ := hv
  have hts := atoms_spec (ws := Cond.code y cc nL ret :: gw) B.pre
  have hown : s.vm.findClass y.cls = some m.cls := findClass_of_methodNamed B.named
  subst hsz
  have hD := hD0.self (sz := s.heap.size)
  have hl := lv_entry av (n := nL) hlen
  rw [lg_entry_eq]
  generalize (lg_sl av ++ List.replicate (nL - (lg_sl av).length) Slot.unset).toArray = ls at hl ⊢
  exact body p e s m av.toArray below meth c (va_A (w S) s.heap.size) ls ⟨B.exec, B.bytes, B.returns, hml, hown, fun w' h => hts w' (List.mem_cons_of_mem _ h), B.notSynchronized⟩
    ⟨hK, hP, hD, va_S.rf, fun q h => Or.inr h, hN⟩ hl
theorem Mi.of {Q : Int32 → MS → Prop} (hy : plainName y.cls = true) (hlen : (lg_sl av).length ≤ nL)
    (body : ∀ (p : Program) (e : Env) (s : State) (m : MethodId) (args : Array Value) (below : List Frame) (meth : Method) (c : Code) (A : Nat → Prop) (ls : Array Slot), Cx p s m args meth c y.cls cc nL ret → WW D tys (w S) A s s.heap [] → lv_has ls nL (lv_args 0 av) →
      W p l e rm s m args below meth c s.heap [] 0 0 (Zi D tys w A below args s Q) (F0 m 0 ls [])) : Mi l y cc nL ret rm D tys w av S Q :=
  fun sz => w_enter (Qc := fun A => va_Qi Q (Kpost D tys w A) A) hy hlen body sz
theorem Ml.of {Q : Int64 → MS → Prop} (hy : plainName y.cls = true) (hlen : (lg_sl av).length ≤ nL)
    (body : ∀ (p : Program) (e : Env) (s : State) (m : MethodId) (args : Array Value) (below : List Frame) (meth : Method) (c : Code) (A : Nat → Prop) (ls : Array Slot), Cx p s m args meth c y.cls cc nL ret → WW D tys (w S) A s s.heap [] → lv_has ls nL (lv_args 0 av) →
      W p l e rm s m args below meth c s.heap [] 0 0 (Zl D tys w A below args s Q) (F0 m 0 ls [])) : Ml l y cc nL ret rm D tys w av S Q :=
  fun sz => w_enter (Qc := fun A => va_Ql Q (Kpost D tys w A) A) hy hlen body sz
theorem Mv.of {Q : MS → Prop} (hy : plainName y.cls = true) (hlen : (lg_sl av).length ≤ nL)
    (body : ∀ (p : Program) (e : Env) (s : State) (m : MethodId) (args : Array Value) (below : List Frame) (meth : Method) (c : Code) (A : Nat → Prop) (ls : Array Slot), Cx p s m args meth c y.cls cc nL ret → WW D tys (w S) A s s.heap [] → lv_has ls nL (lv_args 0 av) →
      W p l e rm s m args below meth c s.heap [] 0 0 (Zv D tys w A below args s Q) (F0 m 0 ls [])) : Mv l y cc nL ret rm D tys w av S Q :=
  fun sz => w_enter (Qc := fun A => va_Qv Q (Kpost D tys w A) A) hy hlen body sz
end ENTER
section ROWS
variable {p : Program} {l : Launch} {e : Env} {R : Room} {s : State} {m : MethodId} {args : Array Value} {below : List Frame} {meth : Method} {c : Code} {H : Heap} {locs : List Loc} {Qz : State → Prop} {own : String} {cc : ByteArray} {nL pc : Nat} {ret : Option FieldType} {ls : Array Slot} {rest : List Value}
  {D : va_G} {tys : List (ClassId × FieldType)} {w : MS → va_W} {ws ws' : va_W} {A : Nat → Prop} {S : MS} {a : Nat} {cells slots : Nat}
theorem w_iret {Q : Int32 → MS → Prop} {v : Int32} (C : Cx p s m args meth c own cc nL (some .int)) (hw : WW D tys (w S) A s H locs) (hq : Q v S) (hdg : decode cc pc = .ok (.ireturn, 1)) :
    W p l e R s m args below meth c H locs 0 0 (Zi D tys w A below args s Q) (F0 m pc ls [.int v]) := by
  obtain ⟨hx, hb, hr, hml, hown, hts, hlocks⟩ := C
  obtain ⟨hK, hP, hD, hS, hA, hN⟩ := hw
  exact W.iret hx hb hr (fun t ht hW => ⟨⟨v, S, rfl, hq, by rw [ht]; exact hP, va_K.moved hW.alike hK, hD⟩, hS.F ht⟩) hS.2.2 hdg
theorem w_zret {Q : Int32 → MS → Prop} {v : Int32} (C : Cx p s m args meth c own cc nL (some .boolean)) (hw : WW D tys (w S) A s H locs) (hn : narrow .boolean (.int v) = .int v) (hq : Q v S) (hdg : decode cc pc = .ok (.ireturn, 1)) :
    W p l e R s m args below meth c H locs 0 0 (Zi D tys w A below args s Q) (F0 m pc ls [.int v]) := by
  obtain ⟨hx, hb, hr, hml, hown, hts, hlocks⟩ := C
  obtain ⟨hK, hP, hD, hS, hA, hN⟩ := hw
  exact W.zret hx hb hr hn (fun t ht hW => ⟨⟨v, S, rfl, hq, by rw [ht]; exact hP, va_K.moved hW.alike hK, hD⟩, hS.F ht⟩) hS.2.2 hdg
theorem w_lret {Q : Int64 → MS → Prop} {v : Int64} (C : Cx p s m args meth c own cc nL (some .long)) (hw : WW D tys (w S) A s H locs) (hq : Q v S) (hdg : decode cc pc = .ok (.lreturn, 1)) :
    W p l e R s m args below meth c H locs 0 0 (Zl D tys w A below args s Q) (F0 m pc ls [.long v]) := by
  obtain ⟨hx, hb, hr, hml, hown, hts, hlocks⟩ := C
  obtain ⟨hK, hP, hD, hS, hA, hN⟩ := hw
  exact W.lret hx hb hr (fun t ht hW => ⟨⟨v, S, rfl, hq, by rw [ht]; exact hP, va_K.moved hW.alike hK, hD⟩, hS.F ht⟩) hS.2.2 hdg
theorem w_vret {Q : MS → Prop} (C : Cx p s m args meth c own cc nL none) (hw : WW D tys (w S) A s H locs) (hq : Q S) (hdg : decode cc pc = .ok (.return_, 1)) :
    W p l e R s m args below meth c H locs 0 0 (Zv D tys w A below args s Q) (F0 m pc ls []) := by
  obtain ⟨hx, hb, hr, hml, hown, hts, hlocks⟩ := C
  obtain ⟨hK, hP, hD, hS, hA, hN⟩ := hw
  exact W.vret hx hb hr (fun t ht hW => ⟨⟨S, rfl, hq, by rw [ht]; exact hP, va_K.moved hW.alike hK, hD⟩, hS.F ht⟩) hS.2.2 hdg
theorem w_get {Cn : String} {T : u_T} {N ci index : Nat} (C : Cx p s m args meth c own cc nL ret) (hw : WW D tys ws A s H locs) (hin : ∀ w ∈ u_ws Cn T N, w ∈ gw) (q0 : Nat) {fs : List Value} (he : ws[q0]? = some (a, .inr (ci, fs))) (hc : vwCl[ci]? = some (Cn, T, N)) (k : Nat) (hk : k < N) (hl : Cond.fieldLink own index (T k).1 (T k).2.1 (T k).2.2.1 ∈ lw_tbl) {v : Value} (hv : fs[k]? = some v) (hdg : decode cc pc = .ok (.getfield index, 3))
    (kk : W p l e R s m args below meth c H locs cells slots Qz (F0 m (pc + 3) ls (v :: rest))) : W p l e R s m args below meth c H locs cells slots Qz (F0 m pc ls (.ref a :: rest)) := by
  have hlk := C.w hl rfl
  obtain ⟨hx, hb, hr, hml, hown, hts, hlocks⟩ := C
  obtain ⟨hK, hP, hD, hS, hA, hN⟩ := hw
  exact va_get (D := D) (ci := ci) (C := Cn) (T := T) (N := N) hx hb hts hin hown hK hP q0 he hc k hk hlk (fun _ h9 => h9) hv hdg kk
theorem w_put {Cn : String} {T : u_T} {N ci index : Nat} (C : Cx p s m args meth c own cc nL ret) (hw : WW D tys ws A s H locs) (hin : ∀ w ∈ u_ws Cn T N, w ∈ gw) (ty0 : Nat → FieldType) (hty : ∀ k, k < N → parseFieldDescriptor (T k).2.2.1 = some (ty0 k)) (hnm : ∀ a, a < N → ∀ b, b < N → a ≠ b → (T a).2.1 ≠ (T b).2.1)
    (q0 : Nat) {fs : List Value} (he : ws[q0]? = some (a, .inr (ci, fs))) (hc : vwCl[ci]? = some (Cn, T, N)) (k : Nat) (hk : k < N) (hl : Cond.fieldLink own index (T k).1 (T k).2.1 (T k).2.2.1 ∈ lw_tbl) (hfin : (T k).2.2.2 = false) {x : Int32} (hd : parseFieldDescriptor (T k).2.2.1 = some .int) (hlf : k < fs.length) (hdg : decode cc pc = .ok (.putfield index, 3)) (hset : ws.set q0 (a, .inr (ci, fs.set k (.int x))) = ws')
    (kk : ∀ (H1 : Heap) (locs1 : List Loc), WW D tys ws' A s H1 locs1 → W p l e R s m args below meth c H1 locs1 cells slots Qz (F0 m (pc + 3) ls rest)) : W p l e R s m args below meth c H locs cells slots Qz (F0 m pc ls (.int x :: .ref a :: rest)) := by
  have hlk := C.w hl rfl
  obtain ⟨hx, hb, hr, hml, hown, hts, hlocks⟩ := C
  obtain ⟨hK, hP, hD, hS, hA, hN⟩ := hw
  exact va_put (D := D) (ci := ci) (C := Cn) (T := T) (N := N) (ty := .int) hx hb hts hin ty0 hty hnm hown hK hP hD hS q0 he hc k hk hlk (fun _ h9 => h9) hfin hd rfl rfl hlf hdg (fun H1 locs1 hP hD hS => kk H1 locs1 ⟨hK, hset ▸ hP, hset ▸ hD, hS, hA, hN⟩)
theorem w_ild (C : Cx p s m args meth c own cc nL ret) (hw : WW D tys ws A s H locs) (q0 t0 : Nat) {cA : ClassId} {n : Nat} {f : Nat → Int32} (ha : ws[q0]? = some (a, .inl (cA, n, .inl f))) (ht : tys[t0]? = some (cA, .int)) {i : Int32} (hin : vp_in i n) (hdg : decode cc pc = .ok (.iaload, 1))
    (kk : W p l e R s m args below meth c H locs cells slots Qz (F0 m (pc + 1) ls (.int (f i.toNatClampNeg) :: rest))) : W p l e R s m args below meth c H locs cells slots Qz (F0 m pc ls (.int i :: .ref a :: rest)) :=
  va_iald C.1 C.2.1 hw.1 hw.2.1 q0 t0 ha ht hin hdg kk
theorem w_zld (C : Cx p s m args meth c own cc nL ret) (hw : WW D tys ws A s H locs) (q0 t0 : Nat) {cA : ClassId} {n : Nat} {f : Nat → Int32} (ha : ws[q0]? = some (a, .inl (cA, n, .inl f))) (ht : tys[t0]? = some (cA, .boolean)) {i : Int32} (hin : vp_in i n) (hdg : decode cc pc = .ok (.baload, 1))
    (kk : W p l e R s m args below meth c H locs cells slots Qz (F0 m (pc + 1) ls (.int (f i.toNatClampNeg) :: rest))) : W p l e R s m args below meth c H locs cells slots Qz (F0 m pc ls (.int i :: .ref a :: rest)) :=
  va_zald C.1 C.2.1 hw.1 hw.2.1 q0 t0 ha ht hin hdg kk
theorem w_lld (C : Cx p s m args meth c own cc nL ret) (hw : WW D tys ws A s H locs) (q0 t0 : Nat) {cA : ClassId} {n : Nat} {f : Nat → Int64} (ha : ws[q0]? = some (a, .inl (cA, n, .inr (.inl f)))) (ht : tys[t0]? = some (cA, .long)) {i : Int32} (hin : vp_in i n) (hdg : decode cc pc = .ok (.laload, 1))
    (kk : W p l e R s m args below meth c H locs cells slots Qz (F0 m (pc + 1) ls (.long (f i.toNatClampNeg) :: rest))) : W p l e R s m args below meth c H locs cells slots Qz (F0 m pc ls (.int i :: .ref a :: rest)) :=
  va_lald C.1 C.2.1 hw.1 hw.2.1 q0 t0 ha ht hin hdg kk
theorem w_ist (C : Cx p s m args meth c own cc nL ret) (hw : WW D tys ws A s H locs) (q0 t0 : Nat) {cA : ClassId} {n : Nat} {f : Nat → Int32} (ha : ws[q0]? = some (a, .inl (cA, n, .inl f))) (ht : tys[t0]? = some (cA, .int)) {i x : Int32} (hin : vp_in i n) (hdg : decode cc pc = .ok (.iastore, 1)) (hset : ws.set q0 (a, .inl (cA, n, .inl (upd f i.toNatClampNeg x))) = ws')
    (kk : ∀ (H1 : Heap) (locs1 : List Loc), WW D tys ws' A s H1 locs1 → W p l e R s m args below meth c H1 locs1 cells slots Qz (F0 m (pc + 1) ls rest)) : W p l e R s m args below meth c H locs cells slots Qz (F0 m pc ls (.int x :: .int i :: .ref a :: rest)) := by
  obtain ⟨hK, hP, hD, hS, hA, hN⟩ := hw
  exact va_iast C.1 C.2.1 hK hP hD hS q0 t0 ha ht hin hdg (fun H1 locs1 hP hD hS => kk H1 locs1 ⟨hK, hset ▸ hP, hset ▸ hD, hS, hA, hN⟩)
theorem w_zst (C : Cx p s m args meth c own cc nL ret) (hw : WW D tys ws A s H locs) (q0 t0 : Nat) {cA : ClassId} {n : Nat} {f : Nat → Int32} (ha : ws[q0]? = some (a, .inl (cA, n, .inl f))) (ht : tys[t0]? = some (cA, .boolean)) {i x : Int32} (hin : vp_in i n) (hdg : decode cc pc = .ok (.bastore, 1)) (hset : ws.set q0 (a, .inl (cA, n, .inl (upd f i.toNatClampNeg (vp_nar .boolean x)))) = ws')
    (kk : ∀ (H1 : Heap) (locs1 : List Loc), WW D tys ws' A s H1 locs1 → W p l e R s m args below meth c H1 locs1 cells slots Qz (F0 m (pc + 1) ls rest)) : W p l e R s m args below meth c H locs cells slots Qz (F0 m pc ls (.int x :: .int i :: .ref a :: rest)) := by
  obtain ⟨hK, hP, hD, hS, hA, hN⟩ := hw
  exact va_zast C.1 C.2.1 hK hP hD hS q0 t0 ha ht hin hdg (fun H1 locs1 hP hD hS => kk H1 locs1 ⟨hK, hset ▸ hP, hset ▸ hD, hS, hA, hN⟩)
theorem w_lst (C : Cx p s m args meth c own cc nL ret) (hw : WW D tys ws A s H locs) (q0 t0 : Nat) {cA : ClassId} {n : Nat} {f : Nat → Int64} (ha : ws[q0]? = some (a, .inl (cA, n, .inr (.inl f)))) (ht : tys[t0]? = some (cA, .long)) {i : Int32} {x : Int64} (hin : vp_in i n) (hdg : decode cc pc = .ok (.lastore, 1)) (hset : ws.set q0 (a, .inl (cA, n, .inr (.inl (vp_updL f i.toNatClampNeg x)))) = ws')
    (kk : ∀ (H1 : Heap) (locs1 : List Loc), WW D tys ws' A s H1 locs1 → W p l e R s m args below meth c H1 locs1 cells slots Qz (F0 m (pc + 1) ls rest)) : W p l e R s m args below meth c H locs cells slots Qz (F0 m pc ls (.long x :: .int i :: .ref a :: rest)) := by
  obtain ⟨hK, hP, hD, hS, hA, hN⟩ := hw
  exact va_last C.1 C.2.1 hK hP hD hS q0 t0 ha ht hin hdg (fun H1 locs1 hP hD hS => kk H1 locs1 ⟨hK, hset ▸ hP, hset ▸ hD, hS, hA, hN⟩)
end ROWS
/-- what a call needs of the tables, callee by callee -/
def CalV (y : MethodName) (cc : ByteArray) (nL : Nat) (ret : Option FieldType) (n : Nat) : Prop := Cond.code y cc nL ret ∈ lw_tbl ∧ Cond.instanceMethod y ∈ lw_tbl ∧ Cond.selects y.cls y y ∈ lw_tbl ∧ Cond.initialized y.cls ∈ lw_tbl ∧ (y.cls ≠ "java/lang/invoke/MethodHandle" ∧ y.cls ≠ "java/lang/invoke/VarHandle" ∧ (parseMethodDescriptor y.desc).map (fun d => d.parameters.length) = some n)
def CalS (y : MethodName) (cc : ByteArray) (nL : Nat) (ret : Option FieldType) (n : Nat) : Prop := Cond.code y cc nL ret ∈ lw_tbl ∧ Cond.static y ∈ lw_tbl ∧ Cond.initialized y.cls ∈ lw_tbl ∧ (y.cls ≠ "java/lang/invoke/MethodHandle" ∧ y.cls ≠ "java/lang/invoke/VarHandle" ∧ (parseMethodDescriptor y.desc).map (fun d => d.parameters.length) = some n)
section CALLS
variable {p : Program} {l : Launch} {e : Env} {R : Room} {s : State} {m : MethodId} {args : Array Value} {below : List Frame} {meth : Method} {c : Code} {H : Heap} {locs : List Loc} {Qz : State → Prop} {own : String} {cc : ByteArray} {nL pc : Nat} {ret : Option FieldType} {ls : Array Slot} {rest st0 As : List Value}
  {D : va_G} {tys : List (ClassId × FieldType)} {w : MS → va_W} {ws : va_W} {A : Nat → Prop} {S : MS} {a : Nat}
  {y : MethodName} {cc' : ByteArray} {nL' n' index : Nat} {ret' : Option FieldType} {rm : Room} {Qc : Array Value → State → Outcome → State → Prop} {free : Addr → Prop}
theorem Kpre.blind {av : List Value} {sz : Nat} : FrameBlind (va_Pc av (Kpre D tys ws sz)) := fun a U g mk q => by
  obtain ⟨q0, q1, qP, qK, qD, qN⟩ := q
  exact ⟨q0, q1, qP, va_K.moved (u := U) (U := U.calling g mk a) (Vm.Alike.refl U.vm) qK, qD, nests.same (U := U.calling g mk a) rfl qN⟩
theorem Kpre.at (hw : WW D tys ws A s H locs) {av : List Value} : ∀ U : State, U.heap = H → s.WarmedH U.vm → va_Pc av (Kpre D tys ws H.size) av.toArray U := fun U hU hW => by
  obtain ⟨hK, hP, hD, hS, hA, hN⟩ := hw
  exact ⟨rfl, by rw [hU], by rw [hU]; exact hP, va_K.moved hW.alike hK, hD.weaken (fun _ _ _ _ => trivial), nests.warm hW hN⟩
theorem w_runV (C : Cx p s m args meth c own cc nL ret) (hw : WW D tys ws A s H locs) (hM : Met l y (Cond.code y cc' nL' ret' :: gw) rm (va_Pc (.ref a :: As) (Kpre D tys ws H.size)) Qc 0 0 free) (K : CalV y cc' nL' ret' n') (hl : Cond.methodLink own index y ∈ lw_tbl)
    (q0 : Nat) {ci : Nat} {fs : List Value} {qq : vw_C} (he : ws[q0]? = some (a, .inr (ci, fs))) (hc : vwCl[ci]? = some qq) (hq : qq.1 = y.cls) (hrm : rm.cells = 0 ∧ rm.slots = 0 ∧ rm.frames + 1 ≤ R.frames ∧ 8 + (nL' + 11) + rm.locals ≤ R.locals) (hst : st0 = As.reverse ++ .ref a :: rest) (hn : As.length = n') (hcat : (rest.map fun v => v.category).sum ≤ 8) (hls : ls.size = nL) (hdg : decode cc pc = .ok (.invokevirtual index, 3)) :
    va_Run p l e R s m args below meth c H locs 0 0 0 0 (F0 m pc ls st0) rest (Qc (Value.ref a :: As).toArray) free := by
  subst hst
  have ok : ∀ w : Cond, w ∈ lw_tbl → goodWord w = true → w.before args s = true := fun w h hg => C.w h hg
  obtain ⟨hx, hb, hr, hml, hown, hts, hlocks⟩ := C
  obtain ⟨k1, k2, k3, k4, k5⟩ := K
  refine va_runV (Ts := gw) (C := y.cls) (bytes := cc') (maxL := nL') (ret := ret') (n := n') ⟨hx, hb, hml, hown, hts⟩ hM ⟨callB_of n' hts (gw_GoodIn' k1) rfl hrm.1 hrm.2.1 (ok _ k4 rfl) (ok _ hl rfl) k5 hrm.2.2, ok _ k2 rfl, ok _ k3 rfl⟩ ⟨Kpre.blind, ?_, Kpre.at hw⟩ rfl hn hls rfl (lv_room hcat) hdg ⟨Nat.zero_le _, Nat.zero_le _⟩
  rw [← hq]
  exact va_recv hw.1 hw.2.1 hc he
theorem w_runS (C : Cx p s m args meth c own cc nL ret) (hw : WW D tys ws A s H locs) (hM : Met l y (Cond.code y cc' nL' ret' :: gw) rm (va_Pc As (Kpre D tys ws H.size)) Qc 0 0 free) (K : CalS y cc' nL' ret' n') (hl : Cond.methodLink own index y ∈ lw_tbl)
    (hrm : rm.cells = 0 ∧ rm.slots = 0 ∧ rm.frames + 1 ≤ R.frames ∧ 8 + (nL' + 11) + rm.locals ≤ R.locals) (hst : st0 = As.reverse ++ rest) (hn : As.length = n') (hcat : (rest.map fun v => v.category).sum ≤ 8) (hls : ls.size = nL) (hdg : decode cc pc = .ok (.invokestatic index, 3)) :
    va_Run p l e R s m args below meth c H locs 0 0 0 0 (F0 m pc ls st0) rest (Qc As.toArray) free := by
  subst hst
  have ok : ∀ w : Cond, w ∈ lw_tbl → goodWord w = true → w.before args s = true := fun w h hg => C.w h hg
  obtain ⟨hx, hb, hr, hml, hown, hts, hlocks⟩ := C
  obtain ⟨k1, k2, k4, k5⟩ := K
  exact va_runS (Ts := gw) (bytes := cc') (maxL := nL') (ret := ret') (n := n') ⟨hx, hb, hml, hown, hts⟩ hM ⟨callB_of n' hts (gw_GoodIn' k1) rfl hrm.1 hrm.2.1 (ok _ k4 rfl) (ok _ hl rfl) k5 hrm.2.2, ok _ k2 rfl⟩ ⟨Kpre.blind, Kpre.at hw⟩ rfl hn hls rfl (lv_room hcat) hdg ⟨Nat.zero_le _, Nat.zero_le _⟩
theorem w_runN {host : String} (C : Cx p s m args meth c own cc nL ret) (hw : WW D tys ws A s H locs) (hM : Met l y (Cond.code y cc' nL' ret' :: gw) rm (va_Pc As (Kpre D tys ws H.size)) Qc 0 0 free) (K : CalS y cc' nL' ret' n') (hl : (own, index, y, host) ∈ nestW)
    (hrm : rm.cells = 0 ∧ rm.slots = 0 ∧ rm.frames + 1 ≤ R.frames ∧ 8 + (nL' + 11) + rm.locals ≤ R.locals) (hst : st0 = As.reverse ++ rest) (hn : As.length = n') (hcat : (rest.map fun v => v.category).sum ≤ 8) (hls : ls.size = nL) (hdg : decode cc pc = .ok (.invokestatic index, 3)) :
    va_Run p l e R s m args below meth c H locs 0 0 0 0 (F0 m pc ls st0) rest (Qc As.toArray) free := by
  subst hst
  have ok : ∀ w : Cond, w ∈ lw_tbl → goodWord w = true → w.before args s = true := fun w h hg => C.w h hg
  obtain ⟨hx, hb, hr, hml, hown, hts, hlocks⟩ := C
  obtain ⟨k1, k2, k4, k5⟩ := K
  exact va_runSN (Ts := gw) (bytes := cc') (maxL := nL') (ret := ret') (n := n') ⟨hx, hb, hml, hown, hts⟩ hM ⟨va_cnB n' hts (gw_GoodIn' k1) rfl hrm.1 hrm.2.1 (hw.2.2.2.2.2 _ hl) (ok _ k4 rfl) k5 hrm.2.2, ok _ k2 rfl, trivial⟩ ⟨Kpre.blind, Kpre.at hw⟩ rfl hn hls rfl (lv_room hcat) hdg ⟨Nat.zero_le _, Nat.zero_le _⟩
theorem va_free' (hw : WW D tys ws A s H locs) : ∀ q : Nat, va_A ws H.size q → A q := fun q h => by
  obtain ⟨hK, hP, hD, hS, hA, hN⟩ := hw
  rcases h with ⟨k, e, h⟩ | h
  · exact hD.2 k _ h
  · exact hA q (Nat.le_trans hS.1 h)
theorem w_calli {Q : Int32 → MS → Prop} {av : Array Value} (hw : WW D tys (w S) A s H locs) (hr : va_Run p l e R s m args below meth c H locs 0 0 0 0 (F0 m pc ls st0) rest (va_Qi Q (Kpost D tys w (va_A (w S) H.size)) (va_A (w S) H.size) av) (va_A (w S) H.size))
    (kk : ∀ (r : Int32) (S' : MS) (H1 : Heap) (locs1 : List Loc), Q r S' → WW D tys (w S') A s H1 locs1 → W p l e R s m args below meth c H1 locs1 0 0 Qz (F0 m (pc + 3) ls (.int r :: rest))) : W p l e R s m args below meth c H locs 0 0 Qz (F0 m pc ls st0) := by
  have hF := va_free' hw
  obtain ⟨hK, hP, hD, hS, hA, hN⟩ := hw
  refine va_calli hr hS (fun q _ h => hF q h) hF (fun r u t H1 locs1 ht hvm hq hB hz hk hS1 => ?_)
  obtain ⟨bP, bK, bD⟩ := hB
  exact kk r u H1 locs1 hq ⟨hK, ht ▸ bP, bD.weaken (fun _ _ _ h => hF _ h), hS1, hA, hN⟩
theorem w_calll {Q : Int64 → MS → Prop} {av : Array Value} (hw : WW D tys (w S) A s H locs) (hr : va_Run p l e R s m args below meth c H locs 0 0 0 0 (F0 m pc ls st0) rest (va_Ql Q (Kpost D tys w (va_A (w S) H.size)) (va_A (w S) H.size) av) (va_A (w S) H.size))
    (kk : ∀ (r : Int64) (S' : MS) (H1 : Heap) (locs1 : List Loc), Q r S' → WW D tys (w S') A s H1 locs1 → W p l e R s m args below meth c H1 locs1 0 0 Qz (F0 m (pc + 3) ls (.long r :: rest))) : W p l e R s m args below meth c H locs 0 0 Qz (F0 m pc ls st0) := by
  have hF := va_free' hw
  obtain ⟨hK, hP, hD, hS, hA, hN⟩ := hw
  refine va_calll hr hS (fun q _ h => hF q h) hF (fun r u t H1 locs1 ht hvm hq hB hz hk hS1 => ?_)
  obtain ⟨bP, bK, bD⟩ := hB
  exact kk r u H1 locs1 hq ⟨hK, ht ▸ bP, bD.weaken (fun _ _ _ h => hF _ h), hS1, hA, hN⟩
theorem w_callv {Q : MS → Prop} {av : Array Value} (hw : WW D tys (w S) A s H locs) (hr : va_Run p l e R s m args below meth c H locs 0 0 0 0 (F0 m pc ls st0) rest (va_Qv Q (Kpost D tys w (va_A (w S) H.size)) (va_A (w S) H.size) av) (va_A (w S) H.size))
    (kk : ∀ (S' : MS) (H1 : Heap) (locs1 : List Loc), Q S' → WW D tys (w S') A s H1 locs1 → W p l e R s m args below meth c H1 locs1 0 0 Qz (F0 m (pc + 3) ls rest)) : W p l e R s m args below meth c H locs 0 0 Qz (F0 m pc ls st0) := by
  have hF := va_free' hw
  obtain ⟨hK, hP, hD, hS, hA, hN⟩ := hw
  refine va_callv hr hS (fun q _ h => hF q h) hF (fun u t H1 locs1 ht hvm hq hB hz hk hS1 => ?_)
  obtain ⟨bP, bK, bD⟩ := hB
  exact kk u H1 locs1 hq ⟨hK, ht ▸ bP, bD.weaken (fun _ _ _ h => hF _ h), hS1, hA, hN⟩
end CALLS
