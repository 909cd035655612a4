theorem x_joinK {p : Program} {l : Launch} {e : Env} {R : Room} {s : State} {m : MethodId} {args : Array Value} {below : List Frame} {meth : Method} {c : Code} {H : Heap} {locs : List Loc} {Qz : State → Prop} {pc : Nat} {ls : Array Slot} {rest : List Value} {D : va_G} {tys tyc : List (ClassId × FieldType)} {ws : va_W} {A : Nat → Prop} {cells slots : Nat} {U : Type} {wc wr : va_W} {w1 : U → va_W} {P : U → Prop} {mc ms : Nat} {st0 : List Value} {av : Array Value} (hw : WW D tys ws A s H locs) (isC isR : List Nat) (hC : isC.map (fun i => ws[i]?) = wc.map some) (hR : isR.map (fun i => ws[i]?) = wr.map some) (hn : va_nd isR = true) (hdis : ∀ i ∈ isR, i ∉ isC)
    (hr : va_Run p l e R s m args below meth c H locs cells slots mc ms (F0 m pc ls st0) rest (va_Qv P (fun u t => va_P D vwCl (w1 u) t.heap ∧ va_K D vwCl tyc t ∧ va_D (va_A wc H.size) (w1 u)) (va_A wc H.size) av) (va_A wc H.size))
    (kk : ∀ (u : U) (H1 : Heap) (locs1 : List Loc), P u → WW D tys (wr ++ w1 u) A s H1 locs1 → W p l e R s m args below meth c H1 locs1 (cells + mc) (slots + ms) Qz (F0 m (pc + 3) ls rest)) : W p l e R s m args below meth c H locs cells slots Qz (F0 m pc ls st0) := by
  obtain ⟨hK, hP, hD, hS, hA, hN⟩ := hw
  have hF := va_free (wc := wc) hD hS hA isC hC
  refine va_callv hr hS (fun q _ h => hF q h) hF (fun u t H1 locs1 ht hvm hq hB hz hk hS1 => ?_)
  obtain ⟨bP, bK, bD⟩ := hB
  rw [ht] at bP
  obtain ⟨jP, jD⟩ := va_join hP hD isC isR hC hR hn hdis hk hF bP bD
  exact kk u H1 locs1 hq ⟨hK, jP, jD, hS1, hA, hN⟩
/-! THE CLAIM OUT OF ONE WALK OF THE LAW'S BODY. Your part is whole_start (and what it stands on); all else here is the same for every law, but numbers. -/
def R_law : String := "SaveLoopsLaw"
def lw_P (b : Addr) (xs : List Int32) (args : Array Value) (s : State) : Prop := args = #[.ref b] ∧ s.IntsAt b xs ∧ xs.length ≤ 4096 ∧ (Jvm.Cond.and given_1 narrow_1).before args s = true
def lw_Q (_ : Array Value) (s : State) (o : Outcome) (t : State) : Prop := o = .returned (some (.int 1)) ∧ Framed s o t [] 49 1582
def lw_Z (below : List Frame) (a : Array Value) (s : State) : State → Prop := fun t => ∃ o, t.status = .running ∧ Ended t below o ∧ lw_Q a s o t
/-- the law's own end, with 1 on the stack, nothing written that was there before, its room as the claim has it -/
theorem lw_ret {p : Program} {l : Launch} {e : Env} {s : State} {m : MethodId} {below : List Frame} {meth : Method} {c : Code} {b : Nat} (hx : p.tables.exec = Jvm.exec) (hb : c.code = code) (hr : meth.sig.returnType = ret) (hlocks : meth.locks = false) {pc : Nat} {H : Heap} {ls : Array Slot} (hdg : decode code pc = .ok (.ireturn, 1)) : W p l e room_1 s m #[Value.ref b] below meth c H [] 49 1582 (lw_Z below #[Value.ref b] s) (F0 m pc ls [.int 1]) := by
  intro T hT X
  obtain ⟨fs, hret, hrun, hended, hW, hframe⟩ := X.leave (v := some (.int 1)) (hlocks := hlocks) (fun h => by rw [hr] at h; cases h)
  have hmeth' : T.vm.method? m = some meth := X.method'
  refine ⟨T.setFrames fs, ?_, .returned (some (.int 1)), hrun, hended, rfl, ⟨_, rfl⟩, hW, hframe⟩
  jvm_step X.here [X.here.top, hx, hb, hdg, hmeth', hr, ret, narrow_b1]
  (try refine ⟨rfl, ?_⟩); (try refine ⟨rfl, ?_⟩)
  first | (intro acts; rw [hret _ acts rfl rfl rfl]) | rw [hret _ _ rfl rfl rfl]
  exact Steps.refl _
/-- what holds at the law's entry: the machine, the code, the tables' words (any of lw_tbl by 'hts w (by decide +kernel)'), the script of L ints xs at the cell b, what the Statement gives of the start (any of its parts by flat_of_before) -/
def lw_At (p : Program) (s : State) (m : MethodId) (meth : Method) (c : Code) (b L : Nat) (xs : Nat → Int32) : Prop :=
  p.tables.exec = Jvm.exec ∧ c.code = code ∧ meth.sig.returnType = ret ∧ c.maxLocals = 4 ∧ s.vm.findClass R_law = some m.cls ∧ (∀ w ∈ lw_tbl, w.before #[Value.ref b] s = true) ∧ va_X b L xs s s.heap ∧ b < s.heap.size ∧ meth.locks = false ∧ (Jvm.Cond.and given_1 narrow_1).before #[Value.ref b] s = true
/-- what is asked of part -/
def OK_part (Inv : MS → MS → Prop) : Prop := ∀ (S M : MS) (x1 : Int32) (x2 : Int32) (x3 : Int32), Inv S M → wX5_part S x1 x2 x3 (fun r S1 => wX6_part M x1 x2 x3 (fun r1 M1 => r = r1 ∧ Inv S1 M1))
/-- what is asked of test -/
def OK_test (Inv : MS → MS → Prop) : Prop := ∀ (S M : MS) (x1 : Int32) (x2 : Int32), Inv S M → wX5_test S x1 x2 (fun r S1 => wX6_test M x1 x2 (fun r1 M1 => r = r1 ∧ Inv S1 M1))
/-- what is asked of noTests -/
def OK_noTests (Inv : MS → MS → Prop) : Prop := ∀ (S M : MS) (x1 : Int32) (x2 : Int32), Inv S M → wX5_noTests S x1 x2 (fun r S1 => wX6_noTests M x1 x2 (fun r1 M1 => r = r1 ∧ Inv S1 M1))
/-- what is asked of bypass -/
def OK_bypass (Inv : MS → MS → Prop) : Prop := ∀ (S M : MS) (x1 : Int32) (x2 : Int32) (x3 : Int32), Inv S M → wX5_bypass S x1 x2 x3 (fun r S1 => wX6_bypass M x1 x2 x3 (fun r1 M1 => r = r1 ∧ Inv S1 M1))
/-- what is asked of bypassed -/
def OK_bypassed (Inv : MS → MS → Prop) : Prop := ∀ (S M : MS) (x1 : Int32) (x2 : Int32) (x3 : Int32), Inv S M → wX5_bypassed S x1 x2 x3 (fun r S1 => wX6_bypassed M x1 x2 x3 (fun r1 M1 => r = r1 ∧ Inv S1 M1))
/-- what is asked of group -/
def OK_group (Inv : MS → MS → Prop) : Prop := ∀ (S M : MS) (x1 : Int32) (x2 : Int32), Inv S M → wX5_group S x1 x2 (fun r S1 => wX6_group M x1 x2 (fun r1 M1 => r = r1 ∧ Inv S1 M1))
/-- what is asked of vote -/
def OK_vote (Inv : MS → MS → Prop) : Prop := ∀ (S M : MS) (x1 : Int32) (x2 : Int32) (x3 : Int32) (x4 : Int32) (x5 : Int32) (x6 : Int32), Inv S M → wX5_vote S x1 x2 x3 x4 x5 x6 (fun r S1 => wX6_vote M x1 x2 x3 x4 x5 x6 (fun r1 M1 => r = r1 ∧ Inv S1 M1))
/-- what is asked of share -/
def OK_share (Inv : MS → MS → Prop) : Prop := ∀ (S M : MS) (x1 : Int32) (x2 : Int32), Inv S M → wX5_share S x1 x2 (fun r S1 => wX6_share M x1 x2 (fun r1 M1 => r = r1 ∧ Inv S1 M1))
/-- what is asked of below -/
def OK_below (Inv : MS → MS → Prop) : Prop := ∀ (S M : MS) (x1 : Int32) (x2 : Int32), Inv S M → wX5_below S x1 x2 (fun r S1 => wX6_below M x1 x2 (fun r1 M1 => r = r1 ∧ Inv S1 M1))
/-- what is asked of shared -/
def OK_shared (Inv : MS → MS → Prop) : Prop := ∀ (S M : MS) (x1 : Int32) (x2 : Int32), Inv S M → wX5_shared S x1 x2 (fun r S1 => wX6_shared M x1 x2 (fun r1 M1 => r = r1 ∧ Inv S1 M1))
/-- what is asked of chance -/
def OK_chance (Inv : MS → MS → Prop) : Prop := ∀ (S M : MS) (x1 : Int32) (x2 : Int32), Inv S M → wX5_chance S x1 x2 (fun r S1 => wX6_chance M x1 x2 (fun r1 M1 => r = r1 ∧ Inv S1 M1))
/-- what is asked of over -/
def OK_over (Inv : MS → MS → Prop) : Prop := ∀ (S M : MS) (x1 : Int32) (x2 : Int32) (x3 : Int32), Inv S M → wX5_over S x1 x2 x3 (fun r S1 => wX6_over M x1 x2 x3 (fun r1 M1 => r = r1 ∧ Inv S1 M1))
/-- what is asked of broken -/
def OK_broken (Inv : MS → MS → Prop) : Prop := ∀ (S M : MS) (x1 : Int32) (x2 : Int32) (x3 : Int32) (x4 : Int64), Inv S M → wX5_broken S x1 x2 x3 x4 (fun r S1 => wX6_broken M x1 x2 x3 x4 (fun r1 M1 => r = r1 ∧ Inv S1 M1))
/-- what is asked of nothing -/
def OK_nothing (Inv : MS → MS → Prop) : Prop := ∀ (S M : MS) (x1 : Int32), Inv S M → wX5_nothing S x1 (fun r S1 => wX6_nothing M x1 (fun r1 M1 => r = r1 ∧ Inv S1 M1))
/-- what is asked of matters -/
def OK_matters (Inv : MS → MS → Prop) : Prop := ∀ (S M : MS) (x1 : Int32) (x2 : Int32) (x3 : Int32), Inv S M → wX5_matters S x1 x2 x3 (fun r S1 => wX6_matters M x1 x2 x3 (fun r1 M1 => r = r1 ∧ Inv S1 M1))
/-- what is asked of most -/
def OK_most (Inv : MS → MS → Prop) : Prop := ∀ (S M : MS) (x1 : Int32) (x2 : Int32), Inv S M → wX5_most S x1 x2 (fun r S1 => wX6_most M x1 x2 (fun r1 M1 => r = r1 ∧ Inv S1 M1))
/-- what is asked of cost -/
def OK_cost (Inv : MS → MS → Prop) : Prop := ∀ (S M : MS) (x1 : Int32) (x2 : Int32), Inv S M → wX5_cost S x1 x2 (fun r S1 => wX6_cost M x1 x2 (fun r1 M1 => r = r1 ∧ Inv S1 M1))
/-- what is asked of plan -/
def OK_plan (Inv : MS → MS → Prop) : Prop := ∀ (S M : MS) (x1 : Int32) (x2 : Int32) (x3 : Int32) (x4 : Int32) (x5 : Int64) (x7 : Int32), Inv S M → wX5_plan S x1 x2 x3 x4 x5 x7 (fun r S1 => wX6_plan M x1 x2 x3 x4 x5 x7 (fun r1 M1 => r = r1 ∧ Inv S1 M1))
/-- what is asked of count -/
def OK_count (Inv : MS → MS → Prop) : Prop := ∀ (S M : MS) (x1 : Int32), Inv S M → wX5_count S x1 (fun r S1 => wX6_count M x1 (fun r1 M1 => r = r1 ∧ Inv S1 M1))
def OK_all (Inv : MS → MS → Prop) : Prop := Inv ini0 iniM ∧ OK_part Inv ∧ OK_test Inv ∧ OK_noTests Inv ∧ OK_bypass Inv ∧ OK_bypassed Inv ∧ OK_group Inv ∧ OK_vote Inv ∧ OK_share Inv ∧ OK_below Inv ∧ OK_shared Inv ∧ OK_chance Inv ∧ OK_over Inv ∧ OK_broken Inv ∧ OK_nothing Inv ∧ OK_matters Inv ∧ OK_most Inv ∧ OK_cost Inv ∧ OK_plan Inv ∧ OK_count Inv
set_option maxHeartbeats 4000000 in
set_option maxRecDepth 100000 in
theorem law_part {p : Program} {l : Launch} {e : Env} {s : State} {m : MethodId} {args : Array Value} {below : List Frame} {meth : Method} {c : Code} {D : va_G} {ad ad2 : Nat → Nat} {cI cL cZ : ClassId} {A : Nat → Prop} {Qz : State → Prop} {b L : Nat} {xs : Nat → Int32} {Inv : MS → MS → Prop} (ok : OK_part Inv) (C : Cx p s m args meth c RL cL_law 4 ret) (hX : va_X b L xs s s.heap) (hbl : b < s.heap.size) (hbA : ¬ A b) (x3 : Int32) (hv1 : vp_in (x3 + 1) L) (hv2 : vp_in (x3 + 2) L) (hv3 : vp_in (x3 + 3) L) (S M : MS) (hI : Inv S M) (H : Heap) (locs : List Loc) (ls : Array Slot) (hw : WW D (atys cI cL cZ) (jw ad ad2 cI cL cZ S M) A s H locs) (hl : lv_has ls 4 [(0, .ref b), (1, .ref (ad 0)), (2, .ref (ad2 0)), (3, .int x3)])
    (hback : ∀ (S M : MS) (H : Heap) (locs : List Loc) (ls : Array Slot), Inv S M → WW D (atys cI cL cZ) (jw ad ad2 cI cL cZ S M) A s H locs → lv_has ls 4 [(0, .ref b), (1, .ref (ad 0)), (2, .ref (ad2 0)), (3, .int x3)] → W p l e room_1 s m args below meth c H locs 49 1582 Qz (F0 m 951 ls [])) : W p l e room_1 s m args below meth c H locs 49 1582 Qz (F0 m 124 ls []) := by
  have hx := C.1
  have hb := C.2.1
  refine lv_aload_n hx hb dL_law_124 rfl (lv_at hl 1 rfl) ?_
  refine lv_aload_n hx hb dL_law_125 rfl (lv_at hl 0 rfl) ?_
  refine lv_iload_n hx hb dL_law_126 rfl (lv_at hl 3 rfl) ?_
  refine lv_iconst (v := 1) hx hb dL_law_127 (by decide) ?_
  refine lv_iadd hx hb dL_law_128 ?_
  refine va_sld hx hb hX hbl hbA hw.2.2.2.1 hv1 dL_law_129 ?_
  refine lv_aload_n hx hb dL_law_130 rfl (lv_at hl 0 rfl) ?_
  refine lv_iload_n hx hb dL_law_131 rfl (lv_at hl 3 rfl) ?_
  refine lv_iconst (v := 2) hx hb dL_law_132 (by decide) ?_
  refine lv_iadd hx hb dL_law_133 ?_
  refine va_sld hx hb hX hbl hbA hw.2.2.2.1 hv2 dL_law_134 ?_
  refine lv_aload_n hx hb dL_law_135 rfl (lv_at hl 0 rfl) ?_
  refine lv_iload_n hx hb dL_law_136 rfl (lv_at hl 3 rfl) ?_
  refine lv_iconst (v := 3) hx hb dL_law_137 (by decide) ?_
  refine lv_iadd hx hb dL_law_138 ?_
  refine va_sld hx hb hX hbl hbA hw.2.2.2.1 hv3 dL_law_139 ?_
  have hq := ok S M (xs (x3 + 1).toNatClampNeg) (xs (x3 + 2).toNatClampNeg) (xs (x3 + 3).toNatClampNeg) hI
  refine q_callCi (rest := []) C hw (mX5_part l D ad cI cL S (xs (x3 + 1).toNatClampNeg) (xs (x3 + 2).toNatClampNeg) (xs (x3 + 3).toNatClampNeg) _ hq) kc_X5_part ml_L_13 rfl ⟨rfl, rfl, (Nat.le_of_ble_eq_true rfl), (Nat.le_of_ble_eq_true rfl)⟩ rfl rfl (Nat.le_of_ble_eq_true rfl) hl.1 ⟨(Nat.le_of_ble_eq_true rfl), (Nat.le_of_ble_eq_true rfl)⟩ dL_law_140 ?_
  clear hw hq
  intro r S1 H locs hq hw
  refine lv_aload_n hx hb dL_law_143 rfl (lv_at hl 2 rfl) ?_
  refine lv_aload_n hx hb dL_law_144 rfl (lv_at hl 0 rfl) ?_
  refine lv_iload_n hx hb dL_law_145 rfl (lv_at hl 3 rfl) ?_
  refine lv_iconst (v := 1) hx hb dL_law_146 (by decide) ?_
  refine lv_iadd hx hb dL_law_147 ?_
  refine va_sld hx hb hX hbl hbA hw.2.2.2.1 hv1 dL_law_148 ?_
  refine lv_aload_n hx hb dL_law_149 rfl (lv_at hl 0 rfl) ?_
  refine lv_iload_n hx hb dL_law_150 rfl (lv_at hl 3 rfl) ?_
  refine lv_iconst (v := 2) hx hb dL_law_151 (by decide) ?_
  refine lv_iadd hx hb dL_law_152 ?_
  refine va_sld hx hb hX hbl hbA hw.2.2.2.1 hv2 dL_law_153 ?_
  refine lv_aload_n hx hb dL_law_154 rfl (lv_at hl 0 rfl) ?_
  refine lv_iload_n hx hb dL_law_155 rfl (lv_at hl 3 rfl) ?_
  refine lv_iconst (v := 3) hx hb dL_law_156 (by decide) ?_
  refine lv_iadd hx hb dL_law_157 ?_
  refine va_sld hx hb hX hbl hbA hw.2.2.2.1 hv3 dL_law_158 ?_
  refine q_callRi (rest := [.int r]) C hw (mX6_part l D ad2 cI cZ M (xs (x3 + 1).toNatClampNeg) (xs (x3 + 2).toNatClampNeg) (xs (x3 + 3).toNatClampNeg) _ hq) kc_X6_part ml_L_17 rfl ⟨rfl, rfl, (Nat.le_of_ble_eq_true rfl), (Nat.le_of_ble_eq_true rfl)⟩ rfl rfl (Nat.le_of_ble_eq_true rfl) hl.1 ⟨(Nat.le_of_ble_eq_true rfl), (Nat.le_of_ble_eq_true rfl)⟩ dL_law_159 ?_
  clear hw hq
  intro r1 M1 H locs hq hw
  obtain ⟨he, hI⟩ := hq
  subst he
  refine lv_icmp_eq (tgt := 951) hx hb dL_law_162 (by decide) (fun hc => ?_) (fun hc => absurd rfl hc)
  exact hback S1 M1 H locs ls hI hw hl
set_option maxHeartbeats 4000000 in
set_option maxRecDepth 100000 in
theorem law_test {p : Program} {l : Launch} {e : Env} {s : State} {m : MethodId} {args : Array Value} {below : List Frame} {meth : Method} {c : Code} {D : va_G} {ad ad2 : Nat → Nat} {cI cL cZ : ClassId} {A : Nat → Prop} {Qz : State → Prop} {b L : Nat} {xs : Nat → Int32} {Inv : MS → MS → Prop} (ok : OK_test Inv) (C : Cx p s m args meth c RL cL_law 4 ret) (hX : va_X b L xs s s.heap) (hbl : b < s.heap.size) (hbA : ¬ A b) (x3 : Int32) (hv1 : vp_in (x3 + 1) L) (hv2 : vp_in (x3 + 2) L) (S M : MS) (hI : Inv S M) (H : Heap) (locs : List Loc) (ls : Array Slot) (hw : WW D (atys cI cL cZ) (jw ad ad2 cI cL cZ S M) A s H locs) (hl : lv_has ls 4 [(0, .ref b), (1, .ref (ad 0)), (2, .ref (ad2 0)), (3, .int x3)])
    (hback : ∀ (S M : MS) (H : Heap) (locs : List Loc) (ls : Array Slot), Inv S M → WW D (atys cI cL cZ) (jw ad ad2 cI cL cZ S M) A s H locs → lv_has ls 4 [(0, .ref b), (1, .ref (ad 0)), (2, .ref (ad2 0)), (3, .int x3)] → W p l e room_1 s m args below meth c H locs 49 1582 Qz (F0 m 951 ls [])) : W p l e room_1 s m args below meth c H locs 49 1582 Qz (F0 m 167 ls []) := by
  have hx := C.1
  have hb := C.2.1
  refine lv_aload_n hx hb dL_law_167 rfl (lv_at hl 1 rfl) ?_
  refine lv_aload_n hx hb dL_law_168 rfl (lv_at hl 0 rfl) ?_
  refine lv_iload_n hx hb dL_law_169 rfl (lv_at hl 3 rfl) ?_
  refine lv_iconst (v := 1) hx hb dL_law_170 (by decide) ?_
  refine lv_iadd hx hb dL_law_171 ?_
  refine va_sld hx hb hX hbl hbA hw.2.2.2.1 hv1 dL_law_172 ?_
  refine lv_aload_n hx hb dL_law_173 rfl (lv_at hl 0 rfl) ?_
  refine lv_iload_n hx hb dL_law_174 rfl (lv_at hl 3 rfl) ?_
  refine lv_iconst (v := 2) hx hb dL_law_175 (by decide) ?_
  refine lv_iadd hx hb dL_law_176 ?_
  refine va_sld hx hb hX hbl hbA hw.2.2.2.1 hv2 dL_law_177 ?_
  have hq := ok S M (xs (x3 + 1).toNatClampNeg) (xs (x3 + 2).toNatClampNeg) hI
  refine q_callCi (rest := []) C hw (mX5_test l D ad cI cL S (xs (x3 + 1).toNatClampNeg) (xs (x3 + 2).toNatClampNeg) _ hq) kc_X5_test ml_L_18 rfl ⟨rfl, rfl, (Nat.le_of_ble_eq_true rfl), (Nat.le_of_ble_eq_true rfl)⟩ rfl rfl (Nat.le_of_ble_eq_true rfl) hl.1 ⟨(Nat.le_of_ble_eq_true rfl), (Nat.le_of_ble_eq_true rfl)⟩ dL_law_178 ?_
  clear hw hq
  intro r S1 H locs hq hw
  refine lv_aload_n hx hb dL_law_181 rfl (lv_at hl 2 rfl) ?_
  refine lv_aload_n hx hb dL_law_182 rfl (lv_at hl 0 rfl) ?_
  refine lv_iload_n hx hb dL_law_183 rfl (lv_at hl 3 rfl) ?_
  refine lv_iconst (v := 1) hx hb dL_law_184 (by decide) ?_
  refine lv_iadd hx hb dL_law_185 ?_
  refine va_sld hx hb hX hbl hbA hw.2.2.2.1 hv1 dL_law_186 ?_
  refine lv_aload_n hx hb dL_law_187 rfl (lv_at hl 0 rfl) ?_
  refine lv_iload_n hx hb dL_law_188 rfl (lv_at hl 3 rfl) ?_
  refine lv_iconst (v := 2) hx hb dL_law_189 (by decide) ?_
  refine lv_iadd hx hb dL_law_190 ?_
  refine va_sld hx hb hX hbl hbA hw.2.2.2.1 hv2 dL_law_191 ?_
  refine q_callRi (rest := [.int r]) C hw (mX6_test l D ad2 cI cZ M (xs (x3 + 1).toNatClampNeg) (xs (x3 + 2).toNatClampNeg) _ hq) kc_X6_test ml_L_22 rfl ⟨rfl, rfl, (Nat.le_of_ble_eq_true rfl), (Nat.le_of_ble_eq_true rfl)⟩ rfl rfl (Nat.le_of_ble_eq_true rfl) hl.1 ⟨(Nat.le_of_ble_eq_true rfl), (Nat.le_of_ble_eq_true rfl)⟩ dL_law_192 ?_
  clear hw hq
  intro r1 M1 H locs hq hw
  obtain ⟨he, hI⟩ := hq
  subst he
  refine lv_icmp_eq (tgt := 951) hx hb dL_law_195 (by decide) (fun hc => ?_) (fun hc => absurd rfl hc)
  exact hback S1 M1 H locs ls hI hw hl
set_option maxHeartbeats 4000000 in
set_option maxRecDepth 100000 in
theorem law_noTests {p : Program} {l : Launch} {e : Env} {s : State} {m : MethodId} {args : Array Value} {below : List Frame} {meth : Method} {c : Code} {D : va_G} {ad ad2 : Nat → Nat} {cI cL cZ : ClassId} {A : Nat → Prop} {Qz : State → Prop} {b L : Nat} {xs : Nat → Int32} {Inv : MS → MS → Prop} (ok : OK_noTests Inv) (C : Cx p s m args meth c RL cL_law 4 ret) (hX : va_X b L xs s s.heap) (hbl : b < s.heap.size) (hbA : ¬ A b) (x3 : Int32) (hv1 : vp_in (x3 + 1) L) (hv2 : vp_in (x3 + 2) L) (S M : MS) (hI : Inv S M) (H : Heap) (locs : List Loc) (ls : Array Slot) (hw : WW D (atys cI cL cZ) (jw ad ad2 cI cL cZ S M) A s H locs) (hl : lv_has ls 4 [(0, .ref b), (1, .ref (ad 0)), (2, .ref (ad2 0)), (3, .int x3)])
    (hback : ∀ (S M : MS) (H : Heap) (locs : List Loc) (ls : Array Slot), Inv S M → WW D (atys cI cL cZ) (jw ad ad2 cI cL cZ S M) A s H locs → lv_has ls 4 [(0, .ref b), (1, .ref (ad 0)), (2, .ref (ad2 0)), (3, .int x3)] → W p l e room_1 s m args below meth c H locs 49 1582 Qz (F0 m 951 ls [])) : W p l e room_1 s m args below meth c H locs 49 1582 Qz (F0 m 200 ls []) := by
  have hx := C.1
  have hb := C.2.1
  refine lv_aload_n hx hb dL_law_200 rfl (lv_at hl 1 rfl) ?_
  refine lv_aload_n hx hb dL_law_201 rfl (lv_at hl 0 rfl) ?_
  refine lv_iload_n hx hb dL_law_202 rfl (lv_at hl 3 rfl) ?_
  refine lv_iconst (v := 1) hx hb dL_law_203 (by decide) ?_
  refine lv_iadd hx hb dL_law_204 ?_
  refine va_sld hx hb hX hbl hbA hw.2.2.2.1 hv1 dL_law_205 ?_
  refine lv_aload_n hx hb dL_law_206 rfl (lv_at hl 0 rfl) ?_
  refine lv_iload_n hx hb dL_law_207 rfl (lv_at hl 3 rfl) ?_
  refine lv_iconst (v := 2) hx hb dL_law_208 (by decide) ?_
  refine lv_iadd hx hb dL_law_209 ?_
  refine va_sld hx hb hX hbl hbA hw.2.2.2.1 hv2 dL_law_210 ?_
  have hq := ok S M (xs (x3 + 1).toNatClampNeg) (xs (x3 + 2).toNatClampNeg) hI
  refine q_callCi (rest := []) C hw (mX5_noTests l D ad cI cL S (xs (x3 + 1).toNatClampNeg) (xs (x3 + 2).toNatClampNeg) _ hq) kc_X5_noTests ml_L_23 rfl ⟨rfl, rfl, (Nat.le_of_ble_eq_true rfl), (Nat.le_of_ble_eq_true rfl)⟩ rfl rfl (Nat.le_of_ble_eq_true rfl) hl.1 ⟨(Nat.le_of_ble_eq_true rfl), (Nat.le_of_ble_eq_true rfl)⟩ dL_law_211 ?_
  clear hw hq
  intro r S1 H locs hq hw
  refine lv_aload_n hx hb dL_law_214 rfl (lv_at hl 2 rfl) ?_
  refine lv_aload_n hx hb dL_law_215 rfl (lv_at hl 0 rfl) ?_
  refine lv_iload_n hx hb dL_law_216 rfl (lv_at hl 3 rfl) ?_
  refine lv_iconst (v := 1) hx hb dL_law_217 (by decide) ?_
  refine lv_iadd hx hb dL_law_218 ?_
  refine va_sld hx hb hX hbl hbA hw.2.2.2.1 hv1 dL_law_219 ?_
  refine lv_aload_n hx hb dL_law_220 rfl (lv_at hl 0 rfl) ?_
  refine lv_iload_n hx hb dL_law_221 rfl (lv_at hl 3 rfl) ?_
  refine lv_iconst (v := 2) hx hb dL_law_222 (by decide) ?_
  refine lv_iadd hx hb dL_law_223 ?_
  refine va_sld hx hb hX hbl hbA hw.2.2.2.1 hv2 dL_law_224 ?_
  refine q_callRi (rest := [.int r]) C hw (mX6_noTests l D ad2 cI cZ M (xs (x3 + 1).toNatClampNeg) (xs (x3 + 2).toNatClampNeg) _ hq) kc_X6_noTests ml_L_26 rfl ⟨rfl, rfl, (Nat.le_of_ble_eq_true rfl), (Nat.le_of_ble_eq_true rfl)⟩ rfl rfl (Nat.le_of_ble_eq_true rfl) hl.1 ⟨(Nat.le_of_ble_eq_true rfl), (Nat.le_of_ble_eq_true rfl)⟩ dL_law_225 ?_
  clear hw hq
  intro r1 M1 H locs hq hw
  obtain ⟨he, hI⟩ := hq
  subst he
  refine lv_icmp_eq (tgt := 951) hx hb dL_law_228 (by decide) (fun hc => ?_) (fun hc => absurd rfl hc)
  exact hback S1 M1 H locs ls hI hw hl
set_option maxHeartbeats 4000000 in
set_option maxRecDepth 100000 in
theorem law_bypass {p : Program} {l : Launch} {e : Env} {s : State} {m : MethodId} {args : Array Value} {below : List Frame} {meth : Method} {c : Code} {D : va_G} {ad ad2 : Nat → Nat} {cI cL cZ : ClassId} {A : Nat → Prop} {Qz : State → Prop} {b L : Nat} {xs : Nat → Int32} {Inv : MS → MS → Prop} (ok : OK_bypass Inv) (C : Cx p s m args meth c RL cL_law 4 ret) (hX : va_X b L xs s s.heap) (hbl : b < s.heap.size) (hbA : ¬ A b) (x3 : Int32) (hv1 : vp_in (x3 + 1) L) (hv2 : vp_in (x3 + 2) L) (hv3 : vp_in (x3 + 3) L) (S M : MS) (hI : Inv S M) (H : Heap) (locs : List Loc) (ls : Array Slot) (hw : WW D (atys cI cL cZ) (jw ad ad2 cI cL cZ S M) A s H locs) (hl : lv_has ls 4 [(0, .ref b), (1, .ref (ad 0)), (2, .ref (ad2 0)), (3, .int x3)])
    (hback : ∀ (S M : MS) (H : Heap) (locs : List Loc) (ls : Array Slot), Inv S M → WW D (atys cI cL cZ) (jw ad ad2 cI cL cZ S M) A s H locs → lv_has ls 4 [(0, .ref b), (1, .ref (ad 0)), (2, .ref (ad2 0)), (3, .int x3)] → W p l e room_1 s m args below meth c H locs 49 1582 Qz (F0 m 951 ls [])) : W p l e room_1 s m args below meth c H locs 49 1582 Qz (F0 m 233 ls []) := by
  have hx := C.1
  have hb := C.2.1
  refine lv_aload_n hx hb dL_law_233 rfl (lv_at hl 1 rfl) ?_
  refine lv_aload_n hx hb dL_law_234 rfl (lv_at hl 0 rfl) ?_
  refine lv_iload_n hx hb dL_law_235 rfl (lv_at hl 3 rfl) ?_
  refine lv_iconst (v := 1) hx hb dL_law_236 (by decide) ?_
  refine lv_iadd hx hb dL_law_237 ?_
  refine va_sld hx hb hX hbl hbA hw.2.2.2.1 hv1 dL_law_238 ?_
  refine lv_aload_n hx hb dL_law_239 rfl (lv_at hl 0 rfl) ?_
  refine lv_iload_n hx hb dL_law_240 rfl (lv_at hl 3 rfl) ?_
  refine lv_iconst (v := 2) hx hb dL_law_241 (by decide) ?_
  refine lv_iadd hx hb dL_law_242 ?_
  refine va_sld hx hb hX hbl hbA hw.2.2.2.1 hv2 dL_law_243 ?_
  refine lv_aload_n hx hb dL_law_244 rfl (lv_at hl 0 rfl) ?_
  refine lv_iload_n hx hb dL_law_245 rfl (lv_at hl 3 rfl) ?_
  refine lv_iconst (v := 3) hx hb dL_law_246 (by decide) ?_
  refine lv_iadd hx hb dL_law_247 ?_
  refine va_sld hx hb hX hbl hbA hw.2.2.2.1 hv3 dL_law_248 ?_
  have hq := ok S M (xs (x3 + 1).toNatClampNeg) (xs (x3 + 2).toNatClampNeg) (xs (x3 + 3).toNatClampNeg) hI
  refine q_callCi (rest := []) C hw (mX5_bypass l D ad cI cL S (xs (x3 + 1).toNatClampNeg) (xs (x3 + 2).toNatClampNeg) (xs (x3 + 3).toNatClampNeg) _ hq) kc_X5_bypass ml_L_27 rfl ⟨rfl, rfl, (Nat.le_of_ble_eq_true rfl), (Nat.le_of_ble_eq_true rfl)⟩ rfl rfl (Nat.le_of_ble_eq_true rfl) hl.1 ⟨(Nat.le_of_ble_eq_true rfl), (Nat.le_of_ble_eq_true rfl)⟩ dL_law_249 ?_
  clear hw hq
  intro r S1 H locs hq hw
  refine lv_aload_n hx hb dL_law_252 rfl (lv_at hl 2 rfl) ?_
  refine lv_aload_n hx hb dL_law_253 rfl (lv_at hl 0 rfl) ?_
  refine lv_iload_n hx hb dL_law_254 rfl (lv_at hl 3 rfl) ?_
  refine lv_iconst (v := 1) hx hb dL_law_255 (by decide) ?_
  refine lv_iadd hx hb dL_law_256 ?_
  refine va_sld hx hb hX hbl hbA hw.2.2.2.1 hv1 dL_law_257 ?_
  refine lv_aload_n hx hb dL_law_258 rfl (lv_at hl 0 rfl) ?_
  refine lv_iload_n hx hb dL_law_259 rfl (lv_at hl 3 rfl) ?_
  refine lv_iconst (v := 2) hx hb dL_law_260 (by decide) ?_
  refine lv_iadd hx hb dL_law_261 ?_
  refine va_sld hx hb hX hbl hbA hw.2.2.2.1 hv2 dL_law_262 ?_
  refine lv_aload_n hx hb dL_law_263 rfl (lv_at hl 0 rfl) ?_
  refine lv_iload_n hx hb dL_law_264 rfl (lv_at hl 3 rfl) ?_
  refine lv_iconst (v := 3) hx hb dL_law_265 (by decide) ?_
  refine lv_iadd hx hb dL_law_266 ?_
  refine va_sld hx hb hX hbl hbA hw.2.2.2.1 hv3 dL_law_267 ?_
  refine q_callRi (rest := [.int r]) C hw (mX6_bypass l D ad2 cI cZ M (xs (x3 + 1).toNatClampNeg) (xs (x3 + 2).toNatClampNeg) (xs (x3 + 3).toNatClampNeg) _ hq) kc_X6_bypass ml_L_30 rfl ⟨rfl, rfl, (Nat.le_of_ble_eq_true rfl), (Nat.le_of_ble_eq_true rfl)⟩ rfl rfl (Nat.le_of_ble_eq_true rfl) hl.1 ⟨(Nat.le_of_ble_eq_true rfl), (Nat.le_of_ble_eq_true rfl)⟩ dL_law_268 ?_
  clear hw hq
  intro r1 M1 H locs hq hw
  obtain ⟨he, hI⟩ := hq
  subst he
  refine lv_icmp_eq (tgt := 951) hx hb dL_law_271 (by decide) (fun hc => ?_) (fun hc => absurd rfl hc)
  exact hback S1 M1 H locs ls hI hw hl
set_option maxHeartbeats 4000000 in
set_option maxRecDepth 100000 in
theorem law_bypassed {p : Program} {l : Launch} {e : Env} {s : State} {m : MethodId} {args : Array Value} {below : List Frame} {meth : Method} {c : Code} {D : va_G} {ad ad2 : Nat → Nat} {cI cL cZ : ClassId} {A : Nat → Prop} {Qz : State → Prop} {b L : Nat} {xs : Nat → Int32} {Inv : MS → MS → Prop} (ok : OK_bypassed Inv) (C : Cx p s m args meth c RL cL_law 4 ret) (hX : va_X b L xs s s.heap) (hbl : b < s.heap.size) (hbA : ¬ A b) (x3 : Int32) (hv1 : vp_in (x3 + 1) L) (hv2 : vp_in (x3 + 2) L) (hv3 : vp_in (x3 + 3) L) (S M : MS) (hI : Inv S M) (H : Heap) (locs : List Loc) (ls : Array Slot) (hw : WW D (atys cI cL cZ) (jw ad ad2 cI cL cZ S M) A s H locs) (hl : lv_has ls 4 [(0, .ref b), (1, .ref (ad 0)), (2, .ref (ad2 0)), (3, .int x3)])
    (hback : ∀ (S M : MS) (H : Heap) (locs : List Loc) (ls : Array Slot), Inv S M → WW D (atys cI cL cZ) (jw ad ad2 cI cL cZ S M) A s H locs → lv_has ls 4 [(0, .ref b), (1, .ref (ad 0)), (2, .ref (ad2 0)), (3, .int x3)] → W p l e room_1 s m args below meth c H locs 49 1582 Qz (F0 m 951 ls [])) : W p l e room_1 s m args below meth c H locs 49 1582 Qz (F0 m 276 ls []) := by
  have hx := C.1
  have hb := C.2.1
  refine lv_aload_n hx hb dL_law_276 rfl (lv_at hl 1 rfl) ?_
  refine lv_aload_n hx hb dL_law_277 rfl (lv_at hl 0 rfl) ?_
  refine lv_iload_n hx hb dL_law_278 rfl (lv_at hl 3 rfl) ?_
  refine lv_iconst (v := 1) hx hb dL_law_279 (by decide) ?_
  refine lv_iadd hx hb dL_law_280 ?_
  refine va_sld hx hb hX hbl hbA hw.2.2.2.1 hv1 dL_law_281 ?_
  refine lv_aload_n hx hb dL_law_282 rfl (lv_at hl 0 rfl) ?_
  refine lv_iload_n hx hb dL_law_283 rfl (lv_at hl 3 rfl) ?_
  refine lv_iconst (v := 2) hx hb dL_law_284 (by decide) ?_
  refine lv_iadd hx hb dL_law_285 ?_
  refine va_sld hx hb hX hbl hbA hw.2.2.2.1 hv2 dL_law_286 ?_
  refine lv_aload_n hx hb dL_law_287 rfl (lv_at hl 0 rfl) ?_
  refine lv_iload_n hx hb dL_law_288 rfl (lv_at hl 3 rfl) ?_
  refine lv_iconst (v := 3) hx hb dL_law_289 (by decide) ?_
  refine lv_iadd hx hb dL_law_290 ?_
  refine va_sld hx hb hX hbl hbA hw.2.2.2.1 hv3 dL_law_291 ?_
  have hq := ok S M (xs (x3 + 1).toNatClampNeg) (xs (x3 + 2).toNatClampNeg) (xs (x3 + 3).toNatClampNeg) hI
  refine q_callCi (rest := []) C hw (mX5_bypassed l D ad cI cL S (xs (x3 + 1).toNatClampNeg) (xs (x3 + 2).toNatClampNeg) (xs (x3 + 3).toNatClampNeg) _ hq) kc_X5_bypassed ml_L_31 rfl ⟨rfl, rfl, (Nat.le_of_ble_eq_true rfl), (Nat.le_of_ble_eq_true rfl)⟩ rfl rfl (Nat.le_of_ble_eq_true rfl) hl.1 ⟨(Nat.le_of_ble_eq_true rfl), (Nat.le_of_ble_eq_true rfl)⟩ dL_law_292 ?_
  clear hw hq
  intro r S1 H locs hq hw
  refine lv_aload_n hx hb dL_law_295 rfl (lv_at hl 2 rfl) ?_
  refine lv_aload_n hx hb dL_law_296 rfl (lv_at hl 0 rfl) ?_
  refine lv_iload_n hx hb dL_law_297 rfl (lv_at hl 3 rfl) ?_
  refine lv_iconst (v := 1) hx hb dL_law_298 (by decide) ?_
  refine lv_iadd hx hb dL_law_299 ?_
  refine va_sld hx hb hX hbl hbA hw.2.2.2.1 hv1 dL_law_300 ?_
  refine lv_aload_n hx hb dL_law_301 rfl (lv_at hl 0 rfl) ?_
  refine lv_iload_n hx hb dL_law_302 rfl (lv_at hl 3 rfl) ?_
  refine lv_iconst (v := 2) hx hb dL_law_303 (by decide) ?_
  refine lv_iadd hx hb dL_law_304 ?_
  refine va_sld hx hb hX hbl hbA hw.2.2.2.1 hv2 dL_law_305 ?_
  refine lv_aload_n hx hb dL_law_306 rfl (lv_at hl 0 rfl) ?_
  refine lv_iload_n hx hb dL_law_307 rfl (lv_at hl 3 rfl) ?_
  refine lv_iconst (v := 3) hx hb dL_law_308 (by decide) ?_
  refine lv_iadd hx hb dL_law_309 ?_
  refine va_sld hx hb hX hbl hbA hw.2.2.2.1 hv3 dL_law_310 ?_
  refine q_callRi (rest := [.int r]) C hw (mX6_bypassed l D ad2 cI cZ M (xs (x3 + 1).toNatClampNeg) (xs (x3 + 2).toNatClampNeg) (xs (x3 + 3).toNatClampNeg) _ hq) kc_X6_bypassed ml_L_34 rfl ⟨rfl, rfl, (Nat.le_of_ble_eq_true rfl), (Nat.le_of_ble_eq_true rfl)⟩ rfl rfl (Nat.le_of_ble_eq_true rfl) hl.1 ⟨(Nat.le_of_ble_eq_true rfl), (Nat.le_of_ble_eq_true rfl)⟩ dL_law_311 ?_
  clear hw hq
  intro r1 M1 H locs hq hw
  obtain ⟨he, hI⟩ := hq
  subst he
  refine lv_icmp_eq (tgt := 951) hx hb dL_law_314 (by decide) (fun hc => ?_) (fun hc => absurd rfl hc)
  exact hback S1 M1 H locs ls hI hw hl
set_option maxHeartbeats 4000000 in
set_option maxRecDepth 100000 in
theorem law_group {p : Program} {l : Launch} {e : Env} {s : State} {m : MethodId} {args : Array Value} {below : List Frame} {meth : Method} {c : Code} {D : va_G} {ad ad2 : Nat → Nat} {cI cL cZ : ClassId} {A : Nat → Prop} {Qz : State → Prop} {b L : Nat} {xs : Nat → Int32} {Inv : MS → MS → Prop} (ok : OK_group Inv) (C : Cx p s m args meth c RL cL_law 4 ret) (hX : va_X b L xs s s.heap) (hbl : b < s.heap.size) (hbA : ¬ A b) (x3 : Int32) (hv1 : vp_in (x3 + 1) L) (hv2 : vp_in (x3 + 2) L) (S M : MS) (hI : Inv S M) (H : Heap) (locs : List Loc) (ls : Array Slot) (hw : WW D (atys cI cL cZ) (jw ad ad2 cI cL cZ S M) A s H locs) (hl : lv_has ls 4 [(0, .ref b), (1, .ref (ad 0)), (2, .ref (ad2 0)), (3, .int x3)])
    (hback : ∀ (S M : MS) (H : Heap) (locs : List Loc) (ls : Array Slot), Inv S M → WW D (atys cI cL cZ) (jw ad ad2 cI cL cZ S M) A s H locs → lv_has ls 4 [(0, .ref b), (1, .ref (ad 0)), (2, .ref (ad2 0)), (3, .int x3)] → W p l e room_1 s m args below meth c H locs 49 1582 Qz (F0 m 951 ls [])) : W p l e room_1 s m args below meth c H locs 49 1582 Qz (F0 m 319 ls []) := by
  have hx := C.1
  have hb := C.2.1
  refine lv_aload_n hx hb dL_law_319 rfl (lv_at hl 1 rfl) ?_
  refine lv_aload_n hx hb dL_law_320 rfl (lv_at hl 0 rfl) ?_
  refine lv_iload_n hx hb dL_law_321 rfl (lv_at hl 3 rfl) ?_
  refine lv_iconst (v := 1) hx hb dL_law_322 (by decide) ?_
  refine lv_iadd hx hb dL_law_323 ?_
  refine va_sld hx hb hX hbl hbA hw.2.2.2.1 hv1 dL_law_324 ?_
  refine lv_aload_n hx hb dL_law_325 rfl (lv_at hl 0 rfl) ?_
  refine lv_iload_n hx hb dL_law_326 rfl (lv_at hl 3 rfl) ?_
  refine lv_iconst (v := 2) hx hb dL_law_327 (by decide) ?_
  refine lv_iadd hx hb dL_law_328 ?_
  refine va_sld hx hb hX hbl hbA hw.2.2.2.1 hv2 dL_law_329 ?_
  have hq := ok S M (xs (x3 + 1).toNatClampNeg) (xs (x3 + 2).toNatClampNeg) hI
  refine q_callCi (rest := []) C hw (mX5_group l D ad cI cL S (xs (x3 + 1).toNatClampNeg) (xs (x3 + 2).toNatClampNeg) _ hq) kc_X5_group ml_L_35 rfl ⟨rfl, rfl, (Nat.le_of_ble_eq_true rfl), (Nat.le_of_ble_eq_true rfl)⟩ rfl rfl (Nat.le_of_ble_eq_true rfl) hl.1 ⟨(Nat.le_of_ble_eq_true rfl), (Nat.le_of_ble_eq_true rfl)⟩ dL_law_330 ?_
  clear hw hq
  intro r S1 H locs hq hw
  refine lv_aload_n hx hb dL_law_333 rfl (lv_at hl 2 rfl) ?_
  refine lv_aload_n hx hb dL_law_334 rfl (lv_at hl 0 rfl) ?_
  refine lv_iload_n hx hb dL_law_335 rfl (lv_at hl 3 rfl) ?_
  refine lv_iconst (v := 1) hx hb dL_law_336 (by decide) ?_
  refine lv_iadd hx hb dL_law_337 ?_
  refine va_sld hx hb hX hbl hbA hw.2.2.2.1 hv1 dL_law_338 ?_
  refine lv_aload_n hx hb dL_law_339 rfl (lv_at hl 0 rfl) ?_
  refine lv_iload_n hx hb dL_law_340 rfl (lv_at hl 3 rfl) ?_
  refine lv_iconst (v := 2) hx hb dL_law_341 (by decide) ?_
  refine lv_iadd hx hb dL_law_342 ?_
  refine va_sld hx hb hX hbl hbA hw.2.2.2.1 hv2 dL_law_343 ?_
  refine q_callRi (rest := [.int r]) C hw (mX6_group l D ad2 cI cZ M (xs (x3 + 1).toNatClampNeg) (xs (x3 + 2).toNatClampNeg) _ hq) kc_X6_group ml_L_38 rfl ⟨rfl, rfl, (Nat.le_of_ble_eq_true rfl), (Nat.le_of_ble_eq_true rfl)⟩ rfl rfl (Nat.le_of_ble_eq_true rfl) hl.1 ⟨(Nat.le_of_ble_eq_true rfl), (Nat.le_of_ble_eq_true rfl)⟩ dL_law_344 ?_
  clear hw hq
  intro r1 M1 H locs hq hw
  obtain ⟨he, hI⟩ := hq
  subst he
  refine lv_icmp_eq (tgt := 951) hx hb dL_law_347 (by decide) (fun hc => ?_) (fun hc => absurd rfl hc)
  exact hback S1 M1 H locs ls hI hw hl
set_option maxHeartbeats 4000000 in
set_option maxRecDepth 100000 in
theorem law_vote {p : Program} {l : Launch} {e : Env} {s : State} {m : MethodId} {args : Array Value} {below : List Frame} {meth : Method} {c : Code} {D : va_G} {ad ad2 : Nat → Nat} {cI cL cZ : ClassId} {A : Nat → Prop} {Qz : State → Prop} {b L : Nat} {xs : Nat → Int32} {Inv : MS → MS → Prop} (ok : OK_vote Inv) (C : Cx p s m args meth c RL cL_law 4 ret) (hX : va_X b L xs s s.heap) (hbl : b < s.heap.size) (hbA : ¬ A b) (x3 : Int32) (hv1 : vp_in (x3 + 1) L) (hv2 : vp_in (x3 + 2) L) (hv3 : vp_in (x3 + 3) L) (hv4 : vp_in (x3 + 4) L) (hv5 : vp_in (x3 + 5) L) (hv6 : vp_in (x3 + 6) L) (S M : MS) (hI : Inv S M) (H : Heap) (locs : List Loc) (ls : Array Slot) (hw : WW D (atys cI cL cZ) (jw ad ad2 cI cL cZ S M) A s H locs) (hl : lv_has ls 4 [(0, .ref b), (1, .ref (ad 0)), (2, .ref (ad2 0)), (3, .int x3)])
    (hback : ∀ (S M : MS) (H : Heap) (locs : List Loc) (ls : Array Slot), Inv S M → WW D (atys cI cL cZ) (jw ad ad2 cI cL cZ S M) A s H locs → lv_has ls 4 [(0, .ref b), (1, .ref (ad 0)), (2, .ref (ad2 0)), (3, .int x3)] → W p l e room_1 s m args below meth c H locs 49 1582 Qz (F0 m 951 ls [])) : W p l e room_1 s m args below meth c H locs 49 1582 Qz (F0 m 352 ls []) := by
  have hx := C.1
  have hb := C.2.1
  refine lv_aload_n hx hb dL_law_352 rfl (lv_at hl 1 rfl) ?_
  refine lv_aload_n hx hb dL_law_353 rfl (lv_at hl 0 rfl) ?_
  refine lv_iload_n hx hb dL_law_354 rfl (lv_at hl 3 rfl) ?_
  refine lv_iconst (v := 1) hx hb dL_law_355 (by decide) ?_
  refine lv_iadd hx hb dL_law_356 ?_
  refine va_sld hx hb hX hbl hbA hw.2.2.2.1 hv1 dL_law_357 ?_
  refine lv_aload_n hx hb dL_law_358 rfl (lv_at hl 0 rfl) ?_
  refine lv_iload_n hx hb dL_law_359 rfl (lv_at hl 3 rfl) ?_
  refine lv_iconst (v := 2) hx hb dL_law_360 (by decide) ?_
  refine lv_iadd hx hb dL_law_361 ?_
  refine va_sld hx hb hX hbl hbA hw.2.2.2.1 hv2 dL_law_362 ?_
  refine lv_aload_n hx hb dL_law_363 rfl (lv_at hl 0 rfl) ?_
  refine lv_iload_n hx hb dL_law_364 rfl (lv_at hl 3 rfl) ?_
  refine lv_iconst (v := 3) hx hb dL_law_365 (by decide) ?_
  refine lv_iadd hx hb dL_law_366 ?_
  refine va_sld hx hb hX hbl hbA hw.2.2.2.1 hv3 dL_law_367 ?_
  refine lv_aload_n hx hb dL_law_368 rfl (lv_at hl 0 rfl) ?_
  refine lv_iload_n hx hb dL_law_369 rfl (lv_at hl 3 rfl) ?_
  refine lv_iconst (v := 4) hx hb dL_law_370 (by decide) ?_
  refine lv_iadd hx hb dL_law_371 ?_
  refine va_sld hx hb hX hbl hbA hw.2.2.2.1 hv4 dL_law_372 ?_
  refine lv_aload_n hx hb dL_law_373 rfl (lv_at hl 0 rfl) ?_
  refine lv_iload_n hx hb dL_law_374 rfl (lv_at hl 3 rfl) ?_
  refine lv_iconst (v := 5) hx hb dL_law_375 (by decide) ?_
  refine lv_iadd hx hb dL_law_376 ?_
  refine va_sld hx hb hX hbl hbA hw.2.2.2.1 hv5 dL_law_377 ?_
  refine lv_aload_n hx hb dL_law_378 rfl (lv_at hl 0 rfl) ?_
  refine lv_iload_n hx hb dL_law_379 rfl (lv_at hl 3 rfl) ?_
  refine lv_bipush (v := 6) hx hb dL_law_380 (by decide) ?_
  refine lv_iadd hx hb dL_law_382 ?_
  refine va_sld hx hb hX hbl hbA hw.2.2.2.1 hv6 dL_law_383 ?_
  have hq := ok S M (xs (x3 + 1).toNatClampNeg) (xs (x3 + 2).toNatClampNeg) (xs (x3 + 3).toNatClampNeg) (xs (x3 + 4).toNatClampNeg) (xs (x3 + 5).toNatClampNeg) (xs (x3 + 6).toNatClampNeg) hI
  refine q_callCi (rest := []) C hw (mX5_vote l D ad cI cL S (xs (x3 + 1).toNatClampNeg) (xs (x3 + 2).toNatClampNeg) (xs (x3 + 3).toNatClampNeg) (xs (x3 + 4).toNatClampNeg) (xs (x3 + 5).toNatClampNeg) (xs (x3 + 6).toNatClampNeg) _ hq) kc_X5_vote ml_L_39 rfl ⟨rfl, rfl, (Nat.le_of_ble_eq_true rfl), (Nat.le_of_ble_eq_true rfl)⟩ rfl rfl (Nat.le_of_ble_eq_true rfl) hl.1 ⟨(Nat.le_of_ble_eq_true rfl), (Nat.le_of_ble_eq_true rfl)⟩ dL_law_384 ?_
  clear hw hq
  intro r S1 H locs hq hw
  refine lv_aload_n hx hb dL_law_387 rfl (lv_at hl 2 rfl) ?_
  refine lv_aload_n hx hb dL_law_388 rfl (lv_at hl 0 rfl) ?_
  refine lv_iload_n hx hb dL_law_389 rfl (lv_at hl 3 rfl) ?_
  refine lv_iconst (v := 1) hx hb dL_law_390 (by decide) ?_
  refine lv_iadd hx hb dL_law_391 ?_
  refine va_sld hx hb hX hbl hbA hw.2.2.2.1 hv1 dL_law_392 ?_
  refine lv_aload_n hx hb dL_law_393 rfl (lv_at hl 0 rfl) ?_
  refine lv_iload_n hx hb dL_law_394 rfl (lv_at hl 3 rfl) ?_
  refine lv_iconst (v := 2) hx hb dL_law_395 (by decide) ?_
  refine lv_iadd hx hb dL_law_396 ?_
  refine va_sld hx hb hX hbl hbA hw.2.2.2.1 hv2 dL_law_397 ?_
  refine lv_aload_n hx hb dL_law_398 rfl (lv_at hl 0 rfl) ?_
  refine lv_iload_n hx hb dL_law_399 rfl (lv_at hl 3 rfl) ?_
  refine lv_iconst (v := 3) hx hb dL_law_400 (by decide) ?_
  refine lv_iadd hx hb dL_law_401 ?_
  refine va_sld hx hb hX hbl hbA hw.2.2.2.1 hv3 dL_law_402 ?_
  refine lv_aload_n hx hb dL_law_403 rfl (lv_at hl 0 rfl) ?_
  refine lv_iload_n hx hb dL_law_404 rfl (lv_at hl 3 rfl) ?_
  refine lv_iconst (v := 4) hx hb dL_law_405 (by decide) ?_
  refine lv_iadd hx hb dL_law_406 ?_
  refine va_sld hx hb hX hbl hbA hw.2.2.2.1 hv4 dL_law_407 ?_
  refine lv_aload_n hx hb dL_law_408 rfl (lv_at hl 0 rfl) ?_
  refine lv_iload_n hx hb dL_law_409 rfl (lv_at hl 3 rfl) ?_
  refine lv_iconst (v := 5) hx hb dL_law_410 (by decide) ?_
  refine lv_iadd hx hb dL_law_411 ?_
  refine va_sld hx hb hX hbl hbA hw.2.2.2.1 hv5 dL_law_412 ?_
  refine lv_aload_n hx hb dL_law_413 rfl (lv_at hl 0 rfl) ?_
  refine lv_iload_n hx hb dL_law_414 rfl (lv_at hl 3 rfl) ?_
  refine lv_bipush (v := 6) hx hb dL_law_415 (by decide) ?_
  refine lv_iadd hx hb dL_law_417 ?_
  refine va_sld hx hb hX hbl hbA hw.2.2.2.1 hv6 dL_law_418 ?_
  refine q_callRi (rest := [.int r]) C hw (mX6_vote l D ad2 cI cZ M (xs (x3 + 1).toNatClampNeg) (xs (x3 + 2).toNatClampNeg) (xs (x3 + 3).toNatClampNeg) (xs (x3 + 4).toNatClampNeg) (xs (x3 + 5).toNatClampNeg) (xs (x3 + 6).toNatClampNeg) _ hq) kc_X6_vote ml_L_43 rfl ⟨rfl, rfl, (Nat.le_of_ble_eq_true rfl), (Nat.le_of_ble_eq_true rfl)⟩ rfl rfl (Nat.le_of_ble_eq_true rfl) hl.1 ⟨(Nat.le_of_ble_eq_true rfl), (Nat.le_of_ble_eq_true rfl)⟩ dL_law_419 ?_
  clear hw hq
  intro r1 M1 H locs hq hw
  obtain ⟨he, hI⟩ := hq
  subst he
  refine lv_icmp_eq (tgt := 951) hx hb dL_law_422 (by decide) (fun hc => ?_) (fun hc => absurd rfl hc)
  exact hback S1 M1 H locs ls hI hw hl
set_option maxHeartbeats 4000000 in
set_option maxRecDepth 100000 in
theorem law_share {p : Program} {l : Launch} {e : Env} {s : State} {m : MethodId} {args : Array Value} {below : List Frame} {meth : Method} {c : Code} {D : va_G} {ad ad2 : Nat → Nat} {cI cL cZ : ClassId} {A : Nat → Prop} {Qz : State → Prop} {b L : Nat} {xs : Nat → Int32} {Inv : MS → MS → Prop} (ok : OK_share Inv) (C : Cx p s m args meth c RL cL_law 4 ret) (hX : va_X b L xs s s.heap) (hbl : b < s.heap.size) (hbA : ¬ A b) (x3 : Int32) (hv1 : vp_in (x3 + 1) L) (hv2 : vp_in (x3 + 2) L) (S M : MS) (hI : Inv S M) (H : Heap) (locs : List Loc) (ls : Array Slot) (hw : WW D (atys cI cL cZ) (jw ad ad2 cI cL cZ S M) A s H locs) (hl : lv_has ls 4 [(0, .ref b), (1, .ref (ad 0)), (2, .ref (ad2 0)), (3, .int x3)])
    (hback : ∀ (S M : MS) (H : Heap) (locs : List Loc) (ls : Array Slot), Inv S M → WW D (atys cI cL cZ) (jw ad ad2 cI cL cZ S M) A s H locs → lv_has ls 4 [(0, .ref b), (1, .ref (ad 0)), (2, .ref (ad2 0)), (3, .int x3)] → W p l e room_1 s m args below meth c H locs 49 1582 Qz (F0 m 951 ls [])) : W p l e room_1 s m args below meth c H locs 49 1582 Qz (F0 m 427 ls []) := by
  have hx := C.1
  have hb := C.2.1
  refine lv_aload_n hx hb dL_law_427 rfl (lv_at hl 1 rfl) ?_
  refine lv_aload_n hx hb dL_law_428 rfl (lv_at hl 0 rfl) ?_
  refine lv_iload_n hx hb dL_law_429 rfl (lv_at hl 3 rfl) ?_
  refine lv_iconst (v := 1) hx hb dL_law_430 (by decide) ?_
  refine lv_iadd hx hb dL_law_431 ?_
  refine va_sld hx hb hX hbl hbA hw.2.2.2.1 hv1 dL_law_432 ?_
  refine lv_aload_n hx hb dL_law_433 rfl (lv_at hl 0 rfl) ?_
  refine lv_iload_n hx hb dL_law_434 rfl (lv_at hl 3 rfl) ?_
  refine lv_iconst (v := 2) hx hb dL_law_435 (by decide) ?_
  refine lv_iadd hx hb dL_law_436 ?_
  refine va_sld hx hb hX hbl hbA hw.2.2.2.1 hv2 dL_law_437 ?_
  have hq := ok S M (xs (x3 + 1).toNatClampNeg) (xs (x3 + 2).toNatClampNeg) hI
  refine q_callCi (rest := []) C hw (mX5_share l D ad cI cL S (xs (x3 + 1).toNatClampNeg) (xs (x3 + 2).toNatClampNeg) _ hq) kc_X5_share ml_L_44 rfl ⟨rfl, rfl, (Nat.le_of_ble_eq_true rfl), (Nat.le_of_ble_eq_true rfl)⟩ rfl rfl (Nat.le_of_ble_eq_true rfl) hl.1 ⟨(Nat.le_of_ble_eq_true rfl), (Nat.le_of_ble_eq_true rfl)⟩ dL_law_438 ?_
  clear hw hq
  intro r S1 H locs hq hw
  refine lv_aload_n hx hb dL_law_441 rfl (lv_at hl 2 rfl) ?_
  refine lv_aload_n hx hb dL_law_442 rfl (lv_at hl 0 rfl) ?_
  refine lv_iload_n hx hb dL_law_443 rfl (lv_at hl 3 rfl) ?_
  refine lv_iconst (v := 1) hx hb dL_law_444 (by decide) ?_
  refine lv_iadd hx hb dL_law_445 ?_
  refine va_sld hx hb hX hbl hbA hw.2.2.2.1 hv1 dL_law_446 ?_
  refine lv_aload_n hx hb dL_law_447 rfl (lv_at hl 0 rfl) ?_
  refine lv_iload_n hx hb dL_law_448 rfl (lv_at hl 3 rfl) ?_
  refine lv_iconst (v := 2) hx hb dL_law_449 (by decide) ?_
  refine lv_iadd hx hb dL_law_450 ?_
  refine va_sld hx hb hX hbl hbA hw.2.2.2.1 hv2 dL_law_451 ?_
  refine q_callRi (rest := [.int r]) C hw (mX6_share l D ad2 cI cZ M (xs (x3 + 1).toNatClampNeg) (xs (x3 + 2).toNatClampNeg) _ hq) kc_X6_share ml_L_47 rfl ⟨rfl, rfl, (Nat.le_of_ble_eq_true rfl), (Nat.le_of_ble_eq_true rfl)⟩ rfl rfl (Nat.le_of_ble_eq_true rfl) hl.1 ⟨(Nat.le_of_ble_eq_true rfl), (Nat.le_of_ble_eq_true rfl)⟩ dL_law_452 ?_
  clear hw hq
  intro r1 M1 H locs hq hw
  obtain ⟨he, hI⟩ := hq
  subst he
  refine lv_icmp_eq (tgt := 951) hx hb dL_law_455 (by decide) (fun hc => ?_) (fun hc => absurd rfl hc)
  exact hback S1 M1 H locs ls hI hw hl
set_option maxHeartbeats 4000000 in
set_option maxRecDepth 100000 in
theorem law_below {p : Program} {l : Launch} {e : Env} {s : State} {m : MethodId} {args : Array Value} {below : List Frame} {meth : Method} {c : Code} {D : va_G} {ad ad2 : Nat → Nat} {cI cL cZ : ClassId} {A : Nat → Prop} {Qz : State → Prop} {b L : Nat} {xs : Nat → Int32} {Inv : MS → MS → Prop} (ok : OK_below Inv) (C : Cx p s m args meth c RL cL_law 4 ret) (hX : va_X b L xs s s.heap) (hbl : b < s.heap.size) (hbA : ¬ A b) (x3 : Int32) (hv1 : vp_in (x3 + 1) L) (hv2 : vp_in (x3 + 2) L) (S M : MS) (hI : Inv S M) (H : Heap) (locs : List Loc) (ls : Array Slot) (hw : WW D (atys cI cL cZ) (jw ad ad2 cI cL cZ S M) A s H locs) (hl : lv_has ls 4 [(0, .ref b), (1, .ref (ad 0)), (2, .ref (ad2 0)), (3, .int x3)])
    (hback : ∀ (S M : MS) (H : Heap) (locs : List Loc) (ls : Array Slot), Inv S M → WW D (atys cI cL cZ) (jw ad ad2 cI cL cZ S M) A s H locs → lv_has ls 4 [(0, .ref b), (1, .ref (ad 0)), (2, .ref (ad2 0)), (3, .int x3)] → W p l e room_1 s m args below meth c H locs 49 1582 Qz (F0 m 951 ls [])) : W p l e room_1 s m args below meth c H locs 49 1582 Qz (F0 m 460 ls []) := by
  have hx := C.1
  have hb := C.2.1
  refine lv_aload_n hx hb dL_law_460 rfl (lv_at hl 1 rfl) ?_
  refine lv_aload_n hx hb dL_law_461 rfl (lv_at hl 0 rfl) ?_
  refine lv_iload_n hx hb dL_law_462 rfl (lv_at hl 3 rfl) ?_
  refine lv_iconst (v := 1) hx hb dL_law_463 (by decide) ?_
  refine lv_iadd hx hb dL_law_464 ?_
  refine va_sld hx hb hX hbl hbA hw.2.2.2.1 hv1 dL_law_465 ?_
  refine lv_aload_n hx hb dL_law_466 rfl (lv_at hl 0 rfl) ?_
  refine lv_iload_n hx hb dL_law_467 rfl (lv_at hl 3 rfl) ?_
  refine lv_iconst (v := 2) hx hb dL_law_468 (by decide) ?_
  refine lv_iadd hx hb dL_law_469 ?_
  refine va_sld hx hb hX hbl hbA hw.2.2.2.1 hv2 dL_law_470 ?_
  have hq := ok S M (xs (x3 + 1).toNatClampNeg) (xs (x3 + 2).toNatClampNeg) hI
  refine q_callCi (rest := []) C hw (mX5_below l D ad cI cL S (xs (x3 + 1).toNatClampNeg) (xs (x3 + 2).toNatClampNeg) _ hq) kc_X5_below ml_L_48 rfl ⟨rfl, rfl, (Nat.le_of_ble_eq_true rfl), (Nat.le_of_ble_eq_true rfl)⟩ rfl rfl (Nat.le_of_ble_eq_true rfl) hl.1 ⟨(Nat.le_of_ble_eq_true rfl), (Nat.le_of_ble_eq_true rfl)⟩ dL_law_471 ?_
  clear hw hq
  intro r S1 H locs hq hw
  refine lv_aload_n hx hb dL_law_474 rfl (lv_at hl 2 rfl) ?_
  refine lv_aload_n hx hb dL_law_475 rfl (lv_at hl 0 rfl) ?_
  refine lv_iload_n hx hb dL_law_476 rfl (lv_at hl 3 rfl) ?_
  refine lv_iconst (v := 1) hx hb dL_law_477 (by decide) ?_
  refine lv_iadd hx hb dL_law_478 ?_
  refine va_sld hx hb hX hbl hbA hw.2.2.2.1 hv1 dL_law_479 ?_
  refine lv_aload_n hx hb dL_law_480 rfl (lv_at hl 0 rfl) ?_
  refine lv_iload_n hx hb dL_law_481 rfl (lv_at hl 3 rfl) ?_
  refine lv_iconst (v := 2) hx hb dL_law_482 (by decide) ?_
  refine lv_iadd hx hb dL_law_483 ?_
  refine va_sld hx hb hX hbl hbA hw.2.2.2.1 hv2 dL_law_484 ?_
  refine q_callRi (rest := [.int r]) C hw (mX6_below l D ad2 cI cZ M (xs (x3 + 1).toNatClampNeg) (xs (x3 + 2).toNatClampNeg) _ hq) kc_X6_below ml_L_51 rfl ⟨rfl, rfl, (Nat.le_of_ble_eq_true rfl), (Nat.le_of_ble_eq_true rfl)⟩ rfl rfl (Nat.le_of_ble_eq_true rfl) hl.1 ⟨(Nat.le_of_ble_eq_true rfl), (Nat.le_of_ble_eq_true rfl)⟩ dL_law_485 ?_
  clear hw hq
  intro r1 M1 H locs hq hw
  obtain ⟨he, hI⟩ := hq
  subst he
  refine lv_icmp_eq (tgt := 951) hx hb dL_law_488 (by decide) (fun hc => ?_) (fun hc => absurd rfl hc)
  exact hback S1 M1 H locs ls hI hw hl
set_option maxHeartbeats 4000000 in
set_option maxRecDepth 100000 in
theorem law_shared {p : Program} {l : Launch} {e : Env} {s : State} {m : MethodId} {args : Array Value} {below : List Frame} {meth : Method} {c : Code} {D : va_G} {ad ad2 : Nat → Nat} {cI cL cZ : ClassId} {A : Nat → Prop} {Qz : State → Prop} {b L : Nat} {xs : Nat → Int32} {Inv : MS → MS → Prop} (ok : OK_shared Inv) (C : Cx p s m args meth c RL cL_law 4 ret) (hX : va_X b L xs s s.heap) (hbl : b < s.heap.size) (hbA : ¬ A b) (x3 : Int32) (hv1 : vp_in (x3 + 1) L) (hv2 : vp_in (x3 + 2) L) (S M : MS) (hI : Inv S M) (H : Heap) (locs : List Loc) (ls : Array Slot) (hw : WW D (atys cI cL cZ) (jw ad ad2 cI cL cZ S M) A s H locs) (hl : lv_has ls 4 [(0, .ref b), (1, .ref (ad 0)), (2, .ref (ad2 0)), (3, .int x3)])
    (hback : ∀ (S M : MS) (H : Heap) (locs : List Loc) (ls : Array Slot), Inv S M → WW D (atys cI cL cZ) (jw ad ad2 cI cL cZ S M) A s H locs → lv_has ls 4 [(0, .ref b), (1, .ref (ad 0)), (2, .ref (ad2 0)), (3, .int x3)] → W p l e room_1 s m args below meth c H locs 49 1582 Qz (F0 m 951 ls [])) : W p l e room_1 s m args below meth c H locs 49 1582 Qz (F0 m 493 ls []) := by
  have hx := C.1
  have hb := C.2.1
  refine lv_aload_n hx hb dL_law_493 rfl (lv_at hl 1 rfl) ?_
  refine lv_aload_n hx hb dL_law_494 rfl (lv_at hl 0 rfl) ?_
  refine lv_iload_n hx hb dL_law_495 rfl (lv_at hl 3 rfl) ?_
  refine lv_iconst (v := 1) hx hb dL_law_496 (by decide) ?_
  refine lv_iadd hx hb dL_law_497 ?_
  refine va_sld hx hb hX hbl hbA hw.2.2.2.1 hv1 dL_law_498 ?_
  refine lv_aload_n hx hb dL_law_499 rfl (lv_at hl 0 rfl) ?_
  refine lv_iload_n hx hb dL_law_500 rfl (lv_at hl 3 rfl) ?_
  refine lv_iconst (v := 2) hx hb dL_law_501 (by decide) ?_
  refine lv_iadd hx hb dL_law_502 ?_
  refine va_sld hx hb hX hbl hbA hw.2.2.2.1 hv2 dL_law_503 ?_
  have hq := ok S M (xs (x3 + 1).toNatClampNeg) (xs (x3 + 2).toNatClampNeg) hI
  refine q_callCi (rest := []) C hw (mX5_shared l D ad cI cL S (xs (x3 + 1).toNatClampNeg) (xs (x3 + 2).toNatClampNeg) _ hq) kc_X5_shared ml_L_52 rfl ⟨rfl, rfl, (Nat.le_of_ble_eq_true rfl), (Nat.le_of_ble_eq_true rfl)⟩ rfl rfl (Nat.le_of_ble_eq_true rfl) hl.1 ⟨(Nat.le_of_ble_eq_true rfl), (Nat.le_of_ble_eq_true rfl)⟩ dL_law_504 ?_
  clear hw hq
  intro r S1 H locs hq hw
  refine lv_aload_n hx hb dL_law_507 rfl (lv_at hl 2 rfl) ?_
  refine lv_aload_n hx hb dL_law_508 rfl (lv_at hl 0 rfl) ?_
  refine lv_iload_n hx hb dL_law_509 rfl (lv_at hl 3 rfl) ?_
  refine lv_iconst (v := 1) hx hb dL_law_510 (by decide) ?_
  refine lv_iadd hx hb dL_law_511 ?_
  refine va_sld hx hb hX hbl hbA hw.2.2.2.1 hv1 dL_law_512 ?_
  refine lv_aload_n hx hb dL_law_513 rfl (lv_at hl 0 rfl) ?_
  refine lv_iload_n hx hb dL_law_514 rfl (lv_at hl 3 rfl) ?_
  refine lv_iconst (v := 2) hx hb dL_law_515 (by decide) ?_
  refine lv_iadd hx hb dL_law_516 ?_
  refine va_sld hx hb hX hbl hbA hw.2.2.2.1 hv2 dL_law_517 ?_
  refine q_callRi (rest := [.int r]) C hw (mX6_shared l D ad2 cI cZ M (xs (x3 + 1).toNatClampNeg) (xs (x3 + 2).toNatClampNeg) _ hq) kc_X6_shared ml_L_55 rfl ⟨rfl, rfl, (Nat.le_of_ble_eq_true rfl), (Nat.le_of_ble_eq_true rfl)⟩ rfl rfl (Nat.le_of_ble_eq_true rfl) hl.1 ⟨(Nat.le_of_ble_eq_true rfl), (Nat.le_of_ble_eq_true rfl)⟩ dL_law_518 ?_
  clear hw hq
  intro r1 M1 H locs hq hw
  obtain ⟨he, hI⟩ := hq
  subst he
  refine lv_icmp_eq (tgt := 951) hx hb dL_law_521 (by decide) (fun hc => ?_) (fun hc => absurd rfl hc)
  exact hback S1 M1 H locs ls hI hw hl
set_option maxHeartbeats 4000000 in
set_option maxRecDepth 100000 in
theorem law_chance {p : Program} {l : Launch} {e : Env} {s : State} {m : MethodId} {args : Array Value} {below : List Frame} {meth : Method} {c : Code} {D : va_G} {ad ad2 : Nat → Nat} {cI cL cZ : ClassId} {A : Nat → Prop} {Qz : State → Prop} {b L : Nat} {xs : Nat → Int32} {Inv : MS → MS → Prop} (ok : OK_chance Inv) (C : Cx p s m args meth c RL cL_law 4 ret) (hX : va_X b L xs s s.heap) (hbl : b < s.heap.size) (hbA : ¬ A b) (x3 : Int32) (hv1 : vp_in (x3 + 1) L) (hv2 : vp_in (x3 + 2) L) (S M : MS) (hI : Inv S M) (H : Heap) (locs : List Loc) (ls : Array Slot) (hw : WW D (atys cI cL cZ) (jw ad ad2 cI cL cZ S M) A s H locs) (hl : lv_has ls 4 [(0, .ref b), (1, .ref (ad 0)), (2, .ref (ad2 0)), (3, .int x3)])
    (hback : ∀ (S M : MS) (H : Heap) (locs : List Loc) (ls : Array Slot), Inv S M → WW D (atys cI cL cZ) (jw ad ad2 cI cL cZ S M) A s H locs → lv_has ls 4 [(0, .ref b), (1, .ref (ad 0)), (2, .ref (ad2 0)), (3, .int x3)] → W p l e room_1 s m args below meth c H locs 49 1582 Qz (F0 m 951 ls [])) : W p l e room_1 s m args below meth c H locs 49 1582 Qz (F0 m 526 ls []) := by
  have hx := C.1
  have hb := C.2.1
  refine lv_aload_n hx hb dL_law_526 rfl (lv_at hl 1 rfl) ?_
  refine lv_aload_n hx hb dL_law_527 rfl (lv_at hl 0 rfl) ?_
  refine lv_iload_n hx hb dL_law_528 rfl (lv_at hl 3 rfl) ?_
  refine lv_iconst (v := 1) hx hb dL_law_529 (by decide) ?_
  refine lv_iadd hx hb dL_law_530 ?_
  refine va_sld hx hb hX hbl hbA hw.2.2.2.1 hv1 dL_law_531 ?_
  refine lv_aload_n hx hb dL_law_532 rfl (lv_at hl 0 rfl) ?_
  refine lv_iload_n hx hb dL_law_533 rfl (lv_at hl 3 rfl) ?_
  refine lv_iconst (v := 2) hx hb dL_law_534 (by decide) ?_
  refine lv_iadd hx hb dL_law_535 ?_
  refine va_sld hx hb hX hbl hbA hw.2.2.2.1 hv2 dL_law_536 ?_
  have hq := ok S M (xs (x3 + 1).toNatClampNeg) (xs (x3 + 2).toNatClampNeg) hI
  refine q_callCl (rest := []) C hw (mX5_chance l D ad cI cL S (xs (x3 + 1).toNatClampNeg) (xs (x3 + 2).toNatClampNeg) _ hq) kc_X5_chance ml_L_56 rfl ⟨rfl, rfl, (Nat.le_of_ble_eq_true rfl), (Nat.le_of_ble_eq_true rfl)⟩ rfl rfl (Nat.le_of_ble_eq_true rfl) hl.1 ⟨(Nat.le_of_ble_eq_true rfl), (Nat.le_of_ble_eq_true rfl)⟩ dL_law_537 ?_
  clear hw hq
  intro r S1 H locs hq hw
  refine lv_aload_n hx hb dL_law_540 rfl (lv_at hl 2 rfl) ?_
  refine lv_aload_n hx hb dL_law_541 rfl (lv_at hl 0 rfl) ?_
  refine lv_iload_n hx hb dL_law_542 rfl (lv_at hl 3 rfl) ?_
  refine lv_iconst (v := 1) hx hb dL_law_543 (by decide) ?_
  refine lv_iadd hx hb dL_law_544 ?_
  refine va_sld hx hb hX hbl hbA hw.2.2.2.1 hv1 dL_law_545 ?_
  refine lv_aload_n hx hb dL_law_546 rfl (lv_at hl 0 rfl) ?_
  refine lv_iload_n hx hb dL_law_547 rfl (lv_at hl 3 rfl) ?_
  refine lv_iconst (v := 2) hx hb dL_law_548 (by decide) ?_
  refine lv_iadd hx hb dL_law_549 ?_
  refine va_sld hx hb hX hbl hbA hw.2.2.2.1 hv2 dL_law_550 ?_
  refine q_callRl (rest := [.long r]) C hw (mX6_chance l D ad2 cI cZ M (xs (x3 + 1).toNatClampNeg) (xs (x3 + 2).toNatClampNeg) _ hq) kc_X6_chance ml_L_60 rfl ⟨rfl, rfl, (Nat.le_of_ble_eq_true rfl), (Nat.le_of_ble_eq_true rfl)⟩ rfl rfl (Nat.le_of_ble_eq_true rfl) hl.1 ⟨(Nat.le_of_ble_eq_true rfl), (Nat.le_of_ble_eq_true rfl)⟩ dL_law_551 ?_
  clear hw hq
  intro r1 M1 H locs hq hw
  obtain ⟨he, hI⟩ := hq
  subst he
  refine W.lcmp hx hb dL_law_554 ?_
  refine lv_if_eq (tgt := 951) hx hb dL_law_555 (by decide) (fun hc => ?_) (fun hc => absurd (by simp [lg_cmp]) hc)
  exact hback S1 M1 H locs ls hI hw hl
set_option maxHeartbeats 4000000 in
set_option maxRecDepth 100000 in
theorem law_over {p : Program} {l : Launch} {e : Env} {s : State} {m : MethodId} {args : Array Value} {below : List Frame} {meth : Method} {c : Code} {D : va_G} {ad ad2 : Nat → Nat} {cI cL cZ : ClassId} {A : Nat → Prop} {Qz : State → Prop} {b L : Nat} {xs : Nat → Int32} {Inv : MS → MS → Prop} (ok : OK_over Inv) (C : Cx p s m args meth c RL cL_law 4 ret) (hX : va_X b L xs s s.heap) (hbl : b < s.heap.size) (hbA : ¬ A b) (x3 : Int32) (hv1 : vp_in (x3 + 1) L) (hv2 : vp_in (x3 + 2) L) (hv3 : vp_in (x3 + 3) L) (S M : MS) (hI : Inv S M) (H : Heap) (locs : List Loc) (ls : Array Slot) (hw : WW D (atys cI cL cZ) (jw ad ad2 cI cL cZ S M) A s H locs) (hl : lv_has ls 4 [(0, .ref b), (1, .ref (ad 0)), (2, .ref (ad2 0)), (3, .int x3)])
    (hback : ∀ (S M : MS) (H : Heap) (locs : List Loc) (ls : Array Slot), Inv S M → WW D (atys cI cL cZ) (jw ad ad2 cI cL cZ S M) A s H locs → lv_has ls 4 [(0, .ref b), (1, .ref (ad 0)), (2, .ref (ad2 0)), (3, .int x3)] → W p l e room_1 s m args below meth c H locs 49 1582 Qz (F0 m 951 ls [])) : W p l e room_1 s m args below meth c H locs 49 1582 Qz (F0 m 560 ls []) := by
  have hx := C.1
  have hb := C.2.1
  refine lv_aload_n hx hb dL_law_560 rfl (lv_at hl 1 rfl) ?_
  refine lv_aload_n hx hb dL_law_561 rfl (lv_at hl 0 rfl) ?_
  refine lv_iload_n hx hb dL_law_562 rfl (lv_at hl 3 rfl) ?_
  refine lv_iconst (v := 1) hx hb dL_law_563 (by decide) ?_
  refine lv_iadd hx hb dL_law_564 ?_
  refine va_sld hx hb hX hbl hbA hw.2.2.2.1 hv1 dL_law_565 ?_
  refine lv_aload_n hx hb dL_law_566 rfl (lv_at hl 0 rfl) ?_
  refine lv_iload_n hx hb dL_law_567 rfl (lv_at hl 3 rfl) ?_
  refine lv_iconst (v := 2) hx hb dL_law_568 (by decide) ?_
  refine lv_iadd hx hb dL_law_569 ?_
  refine va_sld hx hb hX hbl hbA hw.2.2.2.1 hv2 dL_law_570 ?_
  refine lv_aload_n hx hb dL_law_571 rfl (lv_at hl 0 rfl) ?_
  refine lv_iload_n hx hb dL_law_572 rfl (lv_at hl 3 rfl) ?_
  refine lv_iconst (v := 3) hx hb dL_law_573 (by decide) ?_
  refine lv_iadd hx hb dL_law_574 ?_
  refine va_sld hx hb hX hbl hbA hw.2.2.2.1 hv3 dL_law_575 ?_
  have hq := ok S M (xs (x3 + 1).toNatClampNeg) (xs (x3 + 2).toNatClampNeg) (xs (x3 + 3).toNatClampNeg) hI
  refine q_callCl (rest := []) C hw (mX5_over l D ad cI cL S (xs (x3 + 1).toNatClampNeg) (xs (x3 + 2).toNatClampNeg) (xs (x3 + 3).toNatClampNeg) _ hq) kc_X5_over ml_L_61 rfl ⟨rfl, rfl, (Nat.le_of_ble_eq_true rfl), (Nat.le_of_ble_eq_true rfl)⟩ rfl rfl (Nat.le_of_ble_eq_true rfl) hl.1 ⟨(Nat.le_of_ble_eq_true rfl), (Nat.le_of_ble_eq_true rfl)⟩ dL_law_576 ?_
  clear hw hq
  intro r S1 H locs hq hw
  refine lv_aload_n hx hb dL_law_579 rfl (lv_at hl 2 rfl) ?_
  refine lv_aload_n hx hb dL_law_580 rfl (lv_at hl 0 rfl) ?_
  refine lv_iload_n hx hb dL_law_581 rfl (lv_at hl 3 rfl) ?_
  refine lv_iconst (v := 1) hx hb dL_law_582 (by decide) ?_
  refine lv_iadd hx hb dL_law_583 ?_
  refine va_sld hx hb hX hbl hbA hw.2.2.2.1 hv1 dL_law_584 ?_
  refine lv_aload_n hx hb dL_law_585 rfl (lv_at hl 0 rfl) ?_
  refine lv_iload_n hx hb dL_law_586 rfl (lv_at hl 3 rfl) ?_
  refine lv_iconst (v := 2) hx hb dL_law_587 (by decide) ?_
  refine lv_iadd hx hb dL_law_588 ?_
  refine va_sld hx hb hX hbl hbA hw.2.2.2.1 hv2 dL_law_589 ?_
  refine lv_aload_n hx hb dL_law_590 rfl (lv_at hl 0 rfl) ?_
  refine lv_iload_n hx hb dL_law_591 rfl (lv_at hl 3 rfl) ?_
  refine lv_iconst (v := 3) hx hb dL_law_592 (by decide) ?_
  refine lv_iadd hx hb dL_law_593 ?_
  refine va_sld hx hb hX hbl hbA hw.2.2.2.1 hv3 dL_law_594 ?_
  refine q_callRl (rest := [.long r]) C hw (mX6_over l D ad2 cI cZ M (xs (x3 + 1).toNatClampNeg) (xs (x3 + 2).toNatClampNeg) (xs (x3 + 3).toNatClampNeg) _ hq) kc_X6_over ml_L_65 rfl ⟨rfl, rfl, (Nat.le_of_ble_eq_true rfl), (Nat.le_of_ble_eq_true rfl)⟩ rfl rfl (Nat.le_of_ble_eq_true rfl) hl.1 ⟨(Nat.le_of_ble_eq_true rfl), (Nat.le_of_ble_eq_true rfl)⟩ dL_law_595 ?_
  clear hw hq
  intro r1 M1 H locs hq hw
  obtain ⟨he, hI⟩ := hq
  subst he
  refine W.lcmp hx hb dL_law_598 ?_
  refine lv_if_eq (tgt := 951) hx hb dL_law_599 (by decide) (fun hc => ?_) (fun hc => absurd (by simp [lg_cmp]) hc)
  exact hback S1 M1 H locs ls hI hw hl
set_option maxHeartbeats 4000000 in
set_option maxRecDepth 100000 in
theorem law_broken {p : Program} {l : Launch} {e : Env} {s : State} {m : MethodId} {args : Array Value} {below : List Frame} {meth : Method} {c : Code} {D : va_G} {ad ad2 : Nat → Nat} {cI cL cZ : ClassId} {A : Nat → Prop} {Qz : State → Prop} {b L : Nat} {xs : Nat → Int32} {Inv : MS → MS → Prop} (ok : OK_broken Inv) (C : Cx p s m args meth c RL cL_law 4 ret) (hX : va_X b L xs s s.heap) (hbl : b < s.heap.size) (hbA : ¬ A b) (x3 : Int32) (hv1 : vp_in (x3 + 1) L) (hv2 : vp_in (x3 + 2) L) (hv3 : vp_in (x3 + 3) L) (hv4 : vp_in (x3 + 4) L) (hv5 : vp_in (x3 + 5) L) (S M : MS) (hI : Inv S M) (H : Heap) (locs : List Loc) (ls : Array Slot) (hw : WW D (atys cI cL cZ) (jw ad ad2 cI cL cZ S M) A s H locs) (hl : lv_has ls 4 [(0, .ref b), (1, .ref (ad 0)), (2, .ref (ad2 0)), (3, .int x3)])
    (hback : ∀ (S M : MS) (H : Heap) (locs : List Loc) (ls : Array Slot), Inv S M → WW D (atys cI cL cZ) (jw ad ad2 cI cL cZ S M) A s H locs → lv_has ls 4 [(0, .ref b), (1, .ref (ad 0)), (2, .ref (ad2 0)), (3, .int x3)] → W p l e room_1 s m args below meth c H locs 49 1582 Qz (F0 m 951 ls [])) : W p l e room_1 s m args below meth c H locs 49 1582 Qz (F0 m 604 ls []) := by
  have hx := C.1
  have hb := C.2.1
  refine lv_aload_n hx hb dL_law_604 rfl (lv_at hl 1 rfl) ?_
  refine lv_aload_n hx hb dL_law_605 rfl (lv_at hl 0 rfl) ?_
  refine lv_iload_n hx hb dL_law_606 rfl (lv_at hl 3 rfl) ?_
  refine lv_iconst (v := 1) hx hb dL_law_607 (by decide) ?_
  refine lv_iadd hx hb dL_law_608 ?_
  refine va_sld hx hb hX hbl hbA hw.2.2.2.1 hv1 dL_law_609 ?_
  refine lv_aload_n hx hb dL_law_610 rfl (lv_at hl 0 rfl) ?_
  refine lv_iload_n hx hb dL_law_611 rfl (lv_at hl 3 rfl) ?_
  refine lv_iconst (v := 2) hx hb dL_law_612 (by decide) ?_
  refine lv_iadd hx hb dL_law_613 ?_
  refine va_sld hx hb hX hbl hbA hw.2.2.2.1 hv2 dL_law_614 ?_
  refine lv_aload_n hx hb dL_law_615 rfl (lv_at hl 0 rfl) ?_
  refine lv_iload_n hx hb dL_law_616 rfl (lv_at hl 3 rfl) ?_
  refine lv_iconst (v := 3) hx hb dL_law_617 (by decide) ?_
  refine lv_iadd hx hb dL_law_618 ?_
  refine va_sld hx hb hX hbl hbA hw.2.2.2.1 hv3 dL_law_619 ?_
  refine lv_aload_n hx hb dL_law_620 rfl (lv_at hl 0 rfl) ?_
  refine lv_iload_n hx hb dL_law_621 rfl (lv_at hl 3 rfl) ?_
  refine lv_iconst (v := 4) hx hb dL_law_622 (by decide) ?_
  refine lv_iadd hx hb dL_law_623 ?_
  refine va_sld hx hb hX hbl hbA hw.2.2.2.1 hv4 dL_law_624 ?_
  refine lv_i2l (v := (xs (x3 + 4).toNatClampNeg).toInt64) hx hb dL_law_625 rfl ?_
  refine lv_bipush (v := 32) hx hb dL_law_626 (by decide) ?_
  refine lv_lshl (v := (jlshl ((xs (x3 + 4).toNatClampNeg).toInt64) 32)) hx hb dL_law_628 rfl ?_
  refine lv_aload_n hx hb dL_law_629 rfl (lv_at hl 0 rfl) ?_
  refine lv_iload_n hx hb dL_law_630 rfl (lv_at hl 3 rfl) ?_
  refine lv_iconst (v := 5) hx hb dL_law_631 (by decide) ?_
  refine lv_iadd hx hb dL_law_632 ?_
  refine va_sld hx hb hX hbl hbA hw.2.2.2.1 hv5 dL_law_633 ?_
  refine lv_i2l (v := (xs (x3 + 5).toNatClampNeg).toInt64) hx hb dL_law_634 rfl ?_
  refine lv_ldc2 hx hb C.2.2.2.2.1 (C.w kk_L_66 rfl) dL_law_635 ?_
  refine lv_land hx hb dL_law_638 ?_
  refine lv_lor hx hb dL_law_639 ?_
  have hq := ok S M (xs (x3 + 1).toNatClampNeg) (xs (x3 + 2).toNatClampNeg) (xs (x3 + 3).toNatClampNeg) ((jlshl ((xs (x3 + 4).toNatClampNeg).toInt64) 32) ||| ((xs (x3 + 5).toNatClampNeg).toInt64 &&& 4294967295)) hI
  refine q_callCi (rest := []) C hw (mX5_broken l D ad cI cL S (xs (x3 + 1).toNatClampNeg) (xs (x3 + 2).toNatClampNeg) (xs (x3 + 3).toNatClampNeg) ((jlshl ((xs (x3 + 4).toNatClampNeg).toInt64) 32) ||| ((xs (x3 + 5).toNatClampNeg).toInt64 &&& 4294967295)) _ hq) kc_X5_broken ml_L_68 rfl ⟨rfl, rfl, (Nat.le_of_ble_eq_true rfl), (Nat.le_of_ble_eq_true rfl)⟩ rfl rfl (Nat.le_of_ble_eq_true rfl) hl.1 ⟨(Nat.le_of_ble_eq_true rfl), (Nat.le_of_ble_eq_true rfl)⟩ dL_law_640 ?_
  clear hw hq
  intro r S1 H locs hq hw
  refine lv_aload_n hx hb dL_law_643 rfl (lv_at hl 2 rfl) ?_
  refine lv_aload_n hx hb dL_law_644 rfl (lv_at hl 0 rfl) ?_
  refine lv_iload_n hx hb dL_law_645 rfl (lv_at hl 3 rfl) ?_
  refine lv_iconst (v := 1) hx hb dL_law_646 (by decide) ?_
  refine lv_iadd hx hb dL_law_647 ?_
  refine va_sld hx hb hX hbl hbA hw.2.2.2.1 hv1 dL_law_648 ?_
  refine lv_aload_n hx hb dL_law_649 rfl (lv_at hl 0 rfl) ?_
  refine lv_iload_n hx hb dL_law_650 rfl (lv_at hl 3 rfl) ?_
  refine lv_iconst (v := 2) hx hb dL_law_651 (by decide) ?_
  refine lv_iadd hx hb dL_law_652 ?_
  refine va_sld hx hb hX hbl hbA hw.2.2.2.1 hv2 dL_law_653 ?_
  refine lv_aload_n hx hb dL_law_654 rfl (lv_at hl 0 rfl) ?_
  refine lv_iload_n hx hb dL_law_655 rfl (lv_at hl 3 rfl) ?_
  refine lv_iconst (v := 3) hx hb dL_law_656 (by decide) ?_
  refine lv_iadd hx hb dL_law_657 ?_
  refine va_sld hx hb hX hbl hbA hw.2.2.2.1 hv3 dL_law_658 ?_
  refine lv_aload_n hx hb dL_law_659 rfl (lv_at hl 0 rfl) ?_
  refine lv_iload_n hx hb dL_law_660 rfl (lv_at hl 3 rfl) ?_
  refine lv_iconst (v := 4) hx hb dL_law_661 (by decide) ?_
  refine lv_iadd hx hb dL_law_662 ?_
  refine va_sld hx hb hX hbl hbA hw.2.2.2.1 hv4 dL_law_663 ?_
  refine lv_i2l (v := (xs (x3 + 4).toNatClampNeg).toInt64) hx hb dL_law_664 rfl ?_
  refine lv_bipush (v := 32) hx hb dL_law_665 (by decide) ?_
  refine lv_lshl (v := (jlshl ((xs (x3 + 4).toNatClampNeg).toInt64) 32)) hx hb dL_law_667 rfl ?_
  refine lv_aload_n hx hb dL_law_668 rfl (lv_at hl 0 rfl) ?_
  refine lv_iload_n hx hb dL_law_669 rfl (lv_at hl 3 rfl) ?_
  refine lv_iconst (v := 5) hx hb dL_law_670 (by decide) ?_
  refine lv_iadd hx hb dL_law_671 ?_
  refine va_sld hx hb hX hbl hbA hw.2.2.2.1 hv5 dL_law_672 ?_
  refine lv_i2l (v := (xs (x3 + 5).toNatClampNeg).toInt64) hx hb dL_law_673 rfl ?_
  refine lv_ldc2 hx hb C.2.2.2.2.1 (C.w kk_L_66 rfl) dL_law_674 ?_
  refine lv_land hx hb dL_law_677 ?_
  refine lv_lor hx hb dL_law_678 ?_
  refine q_callRi (rest := [.int r]) C hw (mX6_broken l D ad2 cI cZ M (xs (x3 + 1).toNatClampNeg) (xs (x3 + 2).toNatClampNeg) (xs (x3 + 3).toNatClampNeg) ((jlshl ((xs (x3 + 4).toNatClampNeg).toInt64) 32) ||| ((xs (x3 + 5).toNatClampNeg).toInt64 &&& 4294967295)) _ hq) kc_X6_broken ml_L_72 rfl ⟨rfl, rfl, (Nat.le_of_ble_eq_true rfl), (Nat.le_of_ble_eq_true rfl)⟩ rfl rfl (Nat.le_of_ble_eq_true rfl) hl.1 ⟨(Nat.le_of_ble_eq_true rfl), (Nat.le_of_ble_eq_true rfl)⟩ dL_law_679 ?_
  clear hw hq
  intro r1 M1 H locs hq hw
  obtain ⟨he, hI⟩ := hq
  subst he
  refine lv_icmp_eq (tgt := 951) hx hb dL_law_682 (by decide) (fun hc => ?_) (fun hc => absurd rfl hc)
  exact hback S1 M1 H locs ls hI hw hl
set_option maxHeartbeats 4000000 in
set_option maxRecDepth 100000 in
theorem law_nothing {p : Program} {l : Launch} {e : Env} {s : State} {m : MethodId} {args : Array Value} {below : List Frame} {meth : Method} {c : Code} {D : va_G} {ad ad2 : Nat → Nat} {cI cL cZ : ClassId} {A : Nat → Prop} {Qz : State → Prop} {b L : Nat} {xs : Nat → Int32} {Inv : MS → MS → Prop} (ok : OK_nothing Inv) (C : Cx p s m args meth c RL cL_law 4 ret) (hX : va_X b L xs s s.heap) (hbl : b < s.heap.size) (hbA : ¬ A b) (x3 : Int32) (hv1 : vp_in (x3 + 1) L) (S M : MS) (hI : Inv S M) (H : Heap) (locs : List Loc) (ls : Array Slot) (hw : WW D (atys cI cL cZ) (jw ad ad2 cI cL cZ S M) A s H locs) (hl : lv_has ls 4 [(0, .ref b), (1, .ref (ad 0)), (2, .ref (ad2 0)), (3, .int x3)])
    (hback : ∀ (S M : MS) (H : Heap) (locs : List Loc) (ls : Array Slot), Inv S M → WW D (atys cI cL cZ) (jw ad ad2 cI cL cZ S M) A s H locs → lv_has ls 4 [(0, .ref b), (1, .ref (ad 0)), (2, .ref (ad2 0)), (3, .int x3)] → W p l e room_1 s m args below meth c H locs 49 1582 Qz (F0 m 951 ls [])) : W p l e room_1 s m args below meth c H locs 49 1582 Qz (F0 m 687 ls []) := by
  have hx := C.1
  have hb := C.2.1
  refine lv_aload_n hx hb dL_law_687 rfl (lv_at hl 1 rfl) ?_
  refine lv_aload_n hx hb dL_law_688 rfl (lv_at hl 0 rfl) ?_
  refine lv_iload_n hx hb dL_law_689 rfl (lv_at hl 3 rfl) ?_
  refine lv_iconst (v := 1) hx hb dL_law_690 (by decide) ?_
  refine lv_iadd hx hb dL_law_691 ?_
  refine va_sld hx hb hX hbl hbA hw.2.2.2.1 hv1 dL_law_692 ?_
  have hq := ok S M (xs (x3 + 1).toNatClampNeg) hI
  refine q_callCl (rest := []) C hw (mX5_nothing l D ad cI cL S (xs (x3 + 1).toNatClampNeg) _ hq) kc_X5_nothing ml_L_73 rfl ⟨rfl, rfl, (Nat.le_of_ble_eq_true rfl), (Nat.le_of_ble_eq_true rfl)⟩ rfl rfl (Nat.le_of_ble_eq_true rfl) hl.1 ⟨(Nat.le_of_ble_eq_true rfl), (Nat.le_of_ble_eq_true rfl)⟩ dL_law_693 ?_
  clear hw hq
  intro r S1 H locs hq hw
  refine lv_aload_n hx hb dL_law_696 rfl (lv_at hl 2 rfl) ?_
  refine lv_aload_n hx hb dL_law_697 rfl (lv_at hl 0 rfl) ?_
  refine lv_iload_n hx hb dL_law_698 rfl (lv_at hl 3 rfl) ?_
  refine lv_iconst (v := 1) hx hb dL_law_699 (by decide) ?_
  refine lv_iadd hx hb dL_law_700 ?_
  refine va_sld hx hb hX hbl hbA hw.2.2.2.1 hv1 dL_law_701 ?_
  refine q_callRl (rest := [.long r]) C hw (mX6_nothing l D ad2 cI cZ M (xs (x3 + 1).toNatClampNeg) _ hq) kc_X6_nothing ml_L_77 rfl ⟨rfl, rfl, (Nat.le_of_ble_eq_true rfl), (Nat.le_of_ble_eq_true rfl)⟩ rfl rfl (Nat.le_of_ble_eq_true rfl) hl.1 ⟨(Nat.le_of_ble_eq_true rfl), (Nat.le_of_ble_eq_true rfl)⟩ dL_law_702 ?_
  clear hw hq
  intro r1 M1 H locs hq hw
  obtain ⟨he, hI⟩ := hq
  subst he
  refine W.lcmp hx hb dL_law_705 ?_
  refine lv_if_eq (tgt := 951) hx hb dL_law_706 (by decide) (fun hc => ?_) (fun hc => absurd (by simp [lg_cmp]) hc)
  exact hback S1 M1 H locs ls hI hw hl
set_option maxHeartbeats 4000000 in
set_option maxRecDepth 100000 in
theorem law_matters {p : Program} {l : Launch} {e : Env} {s : State} {m : MethodId} {args : Array Value} {below : List Frame} {meth : Method} {c : Code} {D : va_G} {ad ad2 : Nat → Nat} {cI cL cZ : ClassId} {A : Nat → Prop} {Qz : State → Prop} {b L : Nat} {xs : Nat → Int32} {Inv : MS → MS → Prop} (ok : OK_matters Inv) (C : Cx p s m args meth c RL cL_law 4 ret) (hX : va_X b L xs s s.heap) (hbl : b < s.heap.size) (hbA : ¬ A b) (x3 : Int32) (hv1 : vp_in (x3 + 1) L) (hv2 : vp_in (x3 + 2) L) (hv3 : vp_in (x3 + 3) L) (S M : MS) (hI : Inv S M) (H : Heap) (locs : List Loc) (ls : Array Slot) (hw : WW D (atys cI cL cZ) (jw ad ad2 cI cL cZ S M) A s H locs) (hl : lv_has ls 4 [(0, .ref b), (1, .ref (ad 0)), (2, .ref (ad2 0)), (3, .int x3)])
    (hback : ∀ (S M : MS) (H : Heap) (locs : List Loc) (ls : Array Slot), Inv S M → WW D (atys cI cL cZ) (jw ad ad2 cI cL cZ S M) A s H locs → lv_has ls 4 [(0, .ref b), (1, .ref (ad 0)), (2, .ref (ad2 0)), (3, .int x3)] → W p l e room_1 s m args below meth c H locs 49 1582 Qz (F0 m 951 ls [])) : W p l e room_1 s m args below meth c H locs 49 1582 Qz (F0 m 711 ls []) := by
  have hx := C.1
  have hb := C.2.1
  refine lv_aload_n hx hb dL_law_711 rfl (lv_at hl 1 rfl) ?_
  refine lv_aload_n hx hb dL_law_712 rfl (lv_at hl 0 rfl) ?_
  refine lv_iload_n hx hb dL_law_713 rfl (lv_at hl 3 rfl) ?_
  refine lv_iconst (v := 1) hx hb dL_law_714 (by decide) ?_
  refine lv_iadd hx hb dL_law_715 ?_
  refine va_sld hx hb hX hbl hbA hw.2.2.2.1 hv1 dL_law_716 ?_
  refine lv_aload_n hx hb dL_law_717 rfl (lv_at hl 0 rfl) ?_
  refine lv_iload_n hx hb dL_law_718 rfl (lv_at hl 3 rfl) ?_
  refine lv_iconst (v := 2) hx hb dL_law_719 (by decide) ?_
  refine lv_iadd hx hb dL_law_720 ?_
  refine va_sld hx hb hX hbl hbA hw.2.2.2.1 hv2 dL_law_721 ?_
  refine lv_aload_n hx hb dL_law_722 rfl (lv_at hl 0 rfl) ?_
  refine lv_iload_n hx hb dL_law_723 rfl (lv_at hl 3 rfl) ?_
  refine lv_iconst (v := 3) hx hb dL_law_724 (by decide) ?_
  refine lv_iadd hx hb dL_law_725 ?_
  refine va_sld hx hb hX hbl hbA hw.2.2.2.1 hv3 dL_law_726 ?_
  have hq := ok S M (xs (x3 + 1).toNatClampNeg) (xs (x3 + 2).toNatClampNeg) (xs (x3 + 3).toNatClampNeg) hI
  refine q_callCl (rest := []) C hw (mX5_matters l D ad cI cL S (xs (x3 + 1).toNatClampNeg) (xs (x3 + 2).toNatClampNeg) (xs (x3 + 3).toNatClampNeg) _ hq) kc_X5_matters ml_L_78 rfl ⟨rfl, rfl, (Nat.le_of_ble_eq_true rfl), (Nat.le_of_ble_eq_true rfl)⟩ rfl rfl (Nat.le_of_ble_eq_true rfl) hl.1 ⟨(Nat.le_of_ble_eq_true rfl), (Nat.le_of_ble_eq_true rfl)⟩ dL_law_727 ?_
  clear hw hq
  intro r S1 H locs hq hw
  refine lv_aload_n hx hb dL_law_730 rfl (lv_at hl 2 rfl) ?_
  refine lv_aload_n hx hb dL_law_731 rfl (lv_at hl 0 rfl) ?_
  refine lv_iload_n hx hb dL_law_732 rfl (lv_at hl 3 rfl) ?_
  refine lv_iconst (v := 1) hx hb dL_law_733 (by decide) ?_
  refine lv_iadd hx hb dL_law_734 ?_
  refine va_sld hx hb hX hbl hbA hw.2.2.2.1 hv1 dL_law_735 ?_
  refine lv_aload_n hx hb dL_law_736 rfl (lv_at hl 0 rfl) ?_
  refine lv_iload_n hx hb dL_law_737 rfl (lv_at hl 3 rfl) ?_
  refine lv_iconst (v := 2) hx hb dL_law_738 (by decide) ?_
  refine lv_iadd hx hb dL_law_739 ?_
  refine va_sld hx hb hX hbl hbA hw.2.2.2.1 hv2 dL_law_740 ?_
  refine lv_aload_n hx hb dL_law_741 rfl (lv_at hl 0 rfl) ?_
  refine lv_iload_n hx hb dL_law_742 rfl (lv_at hl 3 rfl) ?_
  refine lv_iconst (v := 3) hx hb dL_law_743 (by decide) ?_
  refine lv_iadd hx hb dL_law_744 ?_
  refine va_sld hx hb hX hbl hbA hw.2.2.2.1 hv3 dL_law_745 ?_
  refine q_callRl (rest := [.long r]) C hw (mX6_matters l D ad2 cI cZ M (xs (x3 + 1).toNatClampNeg) (xs (x3 + 2).toNatClampNeg) (xs (x3 + 3).toNatClampNeg) _ hq) kc_X6_matters ml_L_81 rfl ⟨rfl, rfl, (Nat.le_of_ble_eq_true rfl), (Nat.le_of_ble_eq_true rfl)⟩ rfl rfl (Nat.le_of_ble_eq_true rfl) hl.1 ⟨(Nat.le_of_ble_eq_true rfl), (Nat.le_of_ble_eq_true rfl)⟩ dL_law_746 ?_
  clear hw hq
  intro r1 M1 H locs hq hw
  obtain ⟨he, hI⟩ := hq
  subst he
  refine W.lcmp hx hb dL_law_749 ?_
  refine lv_if_eq (tgt := 951) hx hb dL_law_750 (by decide) (fun hc => ?_) (fun hc => absurd (by simp [lg_cmp]) hc)
  exact hback S1 M1 H locs ls hI hw hl
set_option maxHeartbeats 4000000 in
set_option maxRecDepth 100000 in
theorem law_most {p : Program} {l : Launch} {e : Env} {s : State} {m : MethodId} {args : Array Value} {below : List Frame} {meth : Method} {c : Code} {D : va_G} {ad ad2 : Nat → Nat} {cI cL cZ : ClassId} {A : Nat → Prop} {Qz : State → Prop} {b L : Nat} {xs : Nat → Int32} {Inv : MS → MS → Prop} (ok : OK_most Inv) (C : Cx p s m args meth c RL cL_law 4 ret) (hX : va_X b L xs s s.heap) (hbl : b < s.heap.size) (hbA : ¬ A b) (x3 : Int32) (hv1 : vp_in (x3 + 1) L) (hv2 : vp_in (x3 + 2) L) (S M : MS) (hI : Inv S M) (H : Heap) (locs : List Loc) (ls : Array Slot) (hw : WW D (atys cI cL cZ) (jw ad ad2 cI cL cZ S M) A s H locs) (hl : lv_has ls 4 [(0, .ref b), (1, .ref (ad 0)), (2, .ref (ad2 0)), (3, .int x3)])
    (hback : ∀ (S M : MS) (H : Heap) (locs : List Loc) (ls : Array Slot), Inv S M → WW D (atys cI cL cZ) (jw ad ad2 cI cL cZ S M) A s H locs → lv_has ls 4 [(0, .ref b), (1, .ref (ad 0)), (2, .ref (ad2 0)), (3, .int x3)] → W p l e room_1 s m args below meth c H locs 49 1582 Qz (F0 m 951 ls [])) : W p l e room_1 s m args below meth c H locs 49 1582 Qz (F0 m 755 ls []) := by
  have hx := C.1
  have hb := C.2.1
  refine lv_aload_n hx hb dL_law_755 rfl (lv_at hl 1 rfl) ?_
  refine lv_aload_n hx hb dL_law_756 rfl (lv_at hl 0 rfl) ?_
  refine lv_iload_n hx hb dL_law_757 rfl (lv_at hl 3 rfl) ?_
  refine lv_iconst (v := 1) hx hb dL_law_758 (by decide) ?_
  refine lv_iadd hx hb dL_law_759 ?_
  refine va_sld hx hb hX hbl hbA hw.2.2.2.1 hv1 dL_law_760 ?_
  refine lv_aload_n hx hb dL_law_761 rfl (lv_at hl 0 rfl) ?_
  refine lv_iload_n hx hb dL_law_762 rfl (lv_at hl 3 rfl) ?_
  refine lv_iconst (v := 2) hx hb dL_law_763 (by decide) ?_
  refine lv_iadd hx hb dL_law_764 ?_
  refine va_sld hx hb hX hbl hbA hw.2.2.2.1 hv2 dL_law_765 ?_
  have hq := ok S M (xs (x3 + 1).toNatClampNeg) (xs (x3 + 2).toNatClampNeg) hI
  refine q_callCi (rest := []) C hw (mX5_most l D ad cI cL S (xs (x3 + 1).toNatClampNeg) (xs (x3 + 2).toNatClampNeg) _ hq) kc_X5_most ml_L_82 rfl ⟨rfl, rfl, (Nat.le_of_ble_eq_true rfl), (Nat.le_of_ble_eq_true rfl)⟩ rfl rfl (Nat.le_of_ble_eq_true rfl) hl.1 ⟨(Nat.le_of_ble_eq_true rfl), (Nat.le_of_ble_eq_true rfl)⟩ dL_law_766 ?_
  clear hw hq
  intro r S1 H locs hq hw
  refine lv_aload_n hx hb dL_law_769 rfl (lv_at hl 2 rfl) ?_
  refine lv_aload_n hx hb dL_law_770 rfl (lv_at hl 0 rfl) ?_
  refine lv_iload_n hx hb dL_law_771 rfl (lv_at hl 3 rfl) ?_
  refine lv_iconst (v := 1) hx hb dL_law_772 (by decide) ?_
  refine lv_iadd hx hb dL_law_773 ?_
  refine va_sld hx hb hX hbl hbA hw.2.2.2.1 hv1 dL_law_774 ?_
  refine lv_aload_n hx hb dL_law_775 rfl (lv_at hl 0 rfl) ?_
  refine lv_iload_n hx hb dL_law_776 rfl (lv_at hl 3 rfl) ?_
  refine lv_iconst (v := 2) hx hb dL_law_777 (by decide) ?_
  refine lv_iadd hx hb dL_law_778 ?_
  refine va_sld hx hb hX hbl hbA hw.2.2.2.1 hv2 dL_law_779 ?_
  refine q_callRi (rest := [.int r]) C hw (mX6_most l D ad2 cI cZ M (xs (x3 + 1).toNatClampNeg) (xs (x3 + 2).toNatClampNeg) _ hq) kc_X6_most ml_L_85 rfl ⟨rfl, rfl, (Nat.le_of_ble_eq_true rfl), (Nat.le_of_ble_eq_true rfl)⟩ rfl rfl (Nat.le_of_ble_eq_true rfl) hl.1 ⟨(Nat.le_of_ble_eq_true rfl), (Nat.le_of_ble_eq_true rfl)⟩ dL_law_780 ?_
  clear hw hq
  intro r1 M1 H locs hq hw
  obtain ⟨he, hI⟩ := hq
  subst he
  refine lv_icmp_eq (tgt := 951) hx hb dL_law_783 (by decide) (fun hc => ?_) (fun hc => absurd rfl hc)
  exact hback S1 M1 H locs ls hI hw hl
set_option maxHeartbeats 4000000 in
set_option maxRecDepth 100000 in
theorem law_cost {p : Program} {l : Launch} {e : Env} {s : State} {m : MethodId} {args : Array Value} {below : List Frame} {meth : Method} {c : Code} {D : va_G} {ad ad2 : Nat → Nat} {cI cL cZ : ClassId} {A : Nat → Prop} {Qz : State → Prop} {b L : Nat} {xs : Nat → Int32} {Inv : MS → MS → Prop} (ok : OK_cost Inv) (C : Cx p s m args meth c RL cL_law 4 ret) (hX : va_X b L xs s s.heap) (hbl : b < s.heap.size) (hbA : ¬ A b) (x3 : Int32) (hv1 : vp_in (x3 + 1) L) (hv2 : vp_in (x3 + 2) L) (S M : MS) (hI : Inv S M) (H : Heap) (locs : List Loc) (ls : Array Slot) (hw : WW D (atys cI cL cZ) (jw ad ad2 cI cL cZ S M) A s H locs) (hl : lv_has ls 4 [(0, .ref b), (1, .ref (ad 0)), (2, .ref (ad2 0)), (3, .int x3)])
    (hback : ∀ (S M : MS) (H : Heap) (locs : List Loc) (ls : Array Slot), Inv S M → WW D (atys cI cL cZ) (jw ad ad2 cI cL cZ S M) A s H locs → lv_has ls 4 [(0, .ref b), (1, .ref (ad 0)), (2, .ref (ad2 0)), (3, .int x3)] → W p l e room_1 s m args below meth c H locs 49 1582 Qz (F0 m 951 ls [])) : W p l e room_1 s m args below meth c H locs 49 1582 Qz (F0 m 788 ls []) := by
  have hx := C.1
  have hb := C.2.1
  refine lv_aload_n hx hb dL_law_788 rfl (lv_at hl 1 rfl) ?_
  refine lv_aload_n hx hb dL_law_789 rfl (lv_at hl 0 rfl) ?_
  refine lv_iload_n hx hb dL_law_790 rfl (lv_at hl 3 rfl) ?_
  refine lv_iconst (v := 1) hx hb dL_law_791 (by decide) ?_
  refine lv_iadd hx hb dL_law_792 ?_
  refine va_sld hx hb hX hbl hbA hw.2.2.2.1 hv1 dL_law_793 ?_
  refine lv_aload_n hx hb dL_law_794 rfl (lv_at hl 0 rfl) ?_
  refine lv_iload_n hx hb dL_law_795 rfl (lv_at hl 3 rfl) ?_
  refine lv_iconst (v := 2) hx hb dL_law_796 (by decide) ?_
  refine lv_iadd hx hb dL_law_797 ?_
  refine va_sld hx hb hX hbl hbA hw.2.2.2.1 hv2 dL_law_798 ?_
  have hq := ok S M (xs (x3 + 1).toNatClampNeg) (xs (x3 + 2).toNatClampNeg) hI
  refine q_callCi (rest := []) C hw (mX5_cost l D ad cI cL S (xs (x3 + 1).toNatClampNeg) (xs (x3 + 2).toNatClampNeg) _ hq) kc_X5_cost ml_L_86 rfl ⟨rfl, rfl, (Nat.le_of_ble_eq_true rfl), (Nat.le_of_ble_eq_true rfl)⟩ rfl rfl (Nat.le_of_ble_eq_true rfl) hl.1 ⟨(Nat.le_of_ble_eq_true rfl), (Nat.le_of_ble_eq_true rfl)⟩ dL_law_799 ?_
  clear hw hq
  intro r S1 H locs hq hw
  refine lv_aload_n hx hb dL_law_802 rfl (lv_at hl 2 rfl) ?_
  refine lv_aload_n hx hb dL_law_803 rfl (lv_at hl 0 rfl) ?_
  refine lv_iload_n hx hb dL_law_804 rfl (lv_at hl 3 rfl) ?_
  refine lv_iconst (v := 1) hx hb dL_law_805 (by decide) ?_
  refine lv_iadd hx hb dL_law_806 ?_
  refine va_sld hx hb hX hbl hbA hw.2.2.2.1 hv1 dL_law_807 ?_
  refine lv_aload_n hx hb dL_law_808 rfl (lv_at hl 0 rfl) ?_
  refine lv_iload_n hx hb dL_law_809 rfl (lv_at hl 3 rfl) ?_
  refine lv_iconst (v := 2) hx hb dL_law_810 (by decide) ?_
  refine lv_iadd hx hb dL_law_811 ?_
  refine va_sld hx hb hX hbl hbA hw.2.2.2.1 hv2 dL_law_812 ?_
  refine q_callRi (rest := [.int r]) C hw (mX6_cost l D ad2 cI cZ M (xs (x3 + 1).toNatClampNeg) (xs (x3 + 2).toNatClampNeg) _ hq) kc_X6_cost ml_L_89 rfl ⟨rfl, rfl, (Nat.le_of_ble_eq_true rfl), (Nat.le_of_ble_eq_true rfl)⟩ rfl rfl (Nat.le_of_ble_eq_true rfl) hl.1 ⟨(Nat.le_of_ble_eq_true rfl), (Nat.le_of_ble_eq_true rfl)⟩ dL_law_813 ?_
  clear hw hq
  intro r1 M1 H locs hq hw
  obtain ⟨he, hI⟩ := hq
  subst he
  refine lv_icmp_eq (tgt := 951) hx hb dL_law_816 (by decide) (fun hc => ?_) (fun hc => absurd rfl hc)
  exact hback S1 M1 H locs ls hI hw hl
set_option maxHeartbeats 4000000 in
set_option maxRecDepth 100000 in
theorem law_plan {p : Program} {l : Launch} {e : Env} {s : State} {m : MethodId} {args : Array Value} {below : List Frame} {meth : Method} {c : Code} {D : va_G} {ad ad2 : Nat → Nat} {cI cL cZ : ClassId} {A : Nat → Prop} {Qz : State → Prop} {b L : Nat} {xs : Nat → Int32} {Inv : MS → MS → Prop} (ok : OK_plan Inv) (C : Cx p s m args meth c RL cL_law 4 ret) (hX : va_X b L xs s s.heap) (hbl : b < s.heap.size) (hbA : ¬ A b) (x3 : Int32) (hv1 : vp_in (x3 + 1) L) (hv2 : vp_in (x3 + 2) L) (hv3 : vp_in (x3 + 3) L) (hv4 : vp_in (x3 + 4) L) (hv5 : vp_in (x3 + 5) L) (hv6 : vp_in (x3 + 6) L) (hv7 : vp_in (x3 + 7) L) (S M : MS) (hI : Inv S M) (H : Heap) (locs : List Loc) (ls : Array Slot) (hw : WW D (atys cI cL cZ) (jw ad ad2 cI cL cZ S M) A s H locs) (hl : lv_has ls 4 [(0, .ref b), (1, .ref (ad 0)), (2, .ref (ad2 0)), (3, .int x3)])
    (hback : ∀ (S M : MS) (H : Heap) (locs : List Loc) (ls : Array Slot), Inv S M → WW D (atys cI cL cZ) (jw ad ad2 cI cL cZ S M) A s H locs → lv_has ls 4 [(0, .ref b), (1, .ref (ad 0)), (2, .ref (ad2 0)), (3, .int x3)] → W p l e room_1 s m args below meth c H locs 49 1582 Qz (F0 m 951 ls [])) : W p l e room_1 s m args below meth c H locs 49 1582 Qz (F0 m 821 ls []) := by
  have hx := C.1
  have hb := C.2.1
  refine lv_aload_n hx hb dL_law_821 rfl (lv_at hl 1 rfl) ?_
  refine lv_aload_n hx hb dL_law_822 rfl (lv_at hl 0 rfl) ?_
  refine lv_iload_n hx hb dL_law_823 rfl (lv_at hl 3 rfl) ?_
  refine lv_iconst (v := 1) hx hb dL_law_824 (by decide) ?_
  refine lv_iadd hx hb dL_law_825 ?_
  refine va_sld hx hb hX hbl hbA hw.2.2.2.1 hv1 dL_law_826 ?_
  refine lv_aload_n hx hb dL_law_827 rfl (lv_at hl 0 rfl) ?_
  refine lv_iload_n hx hb dL_law_828 rfl (lv_at hl 3 rfl) ?_
  refine lv_iconst (v := 2) hx hb dL_law_829 (by decide) ?_
  refine lv_iadd hx hb dL_law_830 ?_
  refine va_sld hx hb hX hbl hbA hw.2.2.2.1 hv2 dL_law_831 ?_
  refine lv_aload_n hx hb dL_law_832 rfl (lv_at hl 0 rfl) ?_
  refine lv_iload_n hx hb dL_law_833 rfl (lv_at hl 3 rfl) ?_
  refine lv_iconst (v := 3) hx hb dL_law_834 (by decide) ?_
  refine lv_iadd hx hb dL_law_835 ?_
  refine va_sld hx hb hX hbl hbA hw.2.2.2.1 hv3 dL_law_836 ?_
  refine lv_aload_n hx hb dL_law_837 rfl (lv_at hl 0 rfl) ?_
  refine lv_iload_n hx hb dL_law_838 rfl (lv_at hl 3 rfl) ?_
  refine lv_iconst (v := 4) hx hb dL_law_839 (by decide) ?_
  refine lv_iadd hx hb dL_law_840 ?_
  refine va_sld hx hb hX hbl hbA hw.2.2.2.1 hv4 dL_law_841 ?_
  refine lv_aload_n hx hb dL_law_842 rfl (lv_at hl 0 rfl) ?_
  refine lv_iload_n hx hb dL_law_843 rfl (lv_at hl 3 rfl) ?_
  refine lv_iconst (v := 5) hx hb dL_law_844 (by decide) ?_
  refine lv_iadd hx hb dL_law_845 ?_
  refine va_sld hx hb hX hbl hbA hw.2.2.2.1 hv5 dL_law_846 ?_
  refine lv_i2l (v := (xs (x3 + 5).toNatClampNeg).toInt64) hx hb dL_law_847 rfl ?_
  refine lv_bipush (v := 32) hx hb dL_law_848 (by decide) ?_
  refine lv_lshl (v := (jlshl ((xs (x3 + 5).toNatClampNeg).toInt64) 32)) hx hb dL_law_850 rfl ?_
  refine lv_aload_n hx hb dL_law_851 rfl (lv_at hl 0 rfl) ?_
  refine lv_iload_n hx hb dL_law_852 rfl (lv_at hl 3 rfl) ?_
  refine lv_bipush (v := 6) hx hb dL_law_853 (by decide) ?_
  refine lv_iadd hx hb dL_law_855 ?_
  refine va_sld hx hb hX hbl hbA hw.2.2.2.1 hv6 dL_law_856 ?_
  refine lv_i2l (v := (xs (x3 + 6).toNatClampNeg).toInt64) hx hb dL_law_857 rfl ?_
  refine lv_ldc2 hx hb C.2.2.2.2.1 (C.w kk_L_66 rfl) dL_law_858 ?_
  refine lv_land hx hb dL_law_861 ?_
  refine lv_lor hx hb dL_law_862 ?_
  refine lv_aload_n hx hb dL_law_863 rfl (lv_at hl 0 rfl) ?_
  refine lv_iload_n hx hb dL_law_864 rfl (lv_at hl 3 rfl) ?_
  refine lv_bipush (v := 7) hx hb dL_law_865 (by decide) ?_
  refine lv_iadd hx hb dL_law_867 ?_
  refine va_sld hx hb hX hbl hbA hw.2.2.2.1 hv7 dL_law_868 ?_
  have hq := ok S M (xs (x3 + 1).toNatClampNeg) (xs (x3 + 2).toNatClampNeg) (xs (x3 + 3).toNatClampNeg) (xs (x3 + 4).toNatClampNeg) ((jlshl ((xs (x3 + 5).toNatClampNeg).toInt64) 32) ||| ((xs (x3 + 6).toNatClampNeg).toInt64 &&& 4294967295)) (xs (x3 + 7).toNatClampNeg) hI
  refine q_callCi (rest := []) C hw (mX5_plan l D ad cI cL S (xs (x3 + 1).toNatClampNeg) (xs (x3 + 2).toNatClampNeg) (xs (x3 + 3).toNatClampNeg) (xs (x3 + 4).toNatClampNeg) ((jlshl ((xs (x3 + 5).toNatClampNeg).toInt64) 32) ||| ((xs (x3 + 6).toNatClampNeg).toInt64 &&& 4294967295)) (xs (x3 + 7).toNatClampNeg) _ hq) kc_X5_plan ml_L_90 rfl ⟨rfl, rfl, (Nat.le_of_ble_eq_true rfl), (Nat.le_of_ble_eq_true rfl)⟩ rfl rfl (Nat.le_of_ble_eq_true rfl) hl.1 ⟨(Nat.le_of_ble_eq_true rfl), (Nat.le_of_ble_eq_true rfl)⟩ dL_law_869 ?_
  clear hw hq
  intro r S1 H locs hq hw
  refine lv_aload_n hx hb dL_law_872 rfl (lv_at hl 2 rfl) ?_
  refine lv_aload_n hx hb dL_law_873 rfl (lv_at hl 0 rfl) ?_
  refine lv_iload_n hx hb dL_law_874 rfl (lv_at hl 3 rfl) ?_
  refine lv_iconst (v := 1) hx hb dL_law_875 (by decide) ?_
  refine lv_iadd hx hb dL_law_876 ?_
  refine va_sld hx hb hX hbl hbA hw.2.2.2.1 hv1 dL_law_877 ?_
  refine lv_aload_n hx hb dL_law_878 rfl (lv_at hl 0 rfl) ?_
  refine lv_iload_n hx hb dL_law_879 rfl (lv_at hl 3 rfl) ?_
  refine lv_iconst (v := 2) hx hb dL_law_880 (by decide) ?_
  refine lv_iadd hx hb dL_law_881 ?_
  refine va_sld hx hb hX hbl hbA hw.2.2.2.1 hv2 dL_law_882 ?_
  refine lv_aload_n hx hb dL_law_883 rfl (lv_at hl 0 rfl) ?_
  refine lv_iload_n hx hb dL_law_884 rfl (lv_at hl 3 rfl) ?_
  refine lv_iconst (v := 3) hx hb dL_law_885 (by decide) ?_
  refine lv_iadd hx hb dL_law_886 ?_
  refine va_sld hx hb hX hbl hbA hw.2.2.2.1 hv3 dL_law_887 ?_
  refine lv_aload_n hx hb dL_law_888 rfl (lv_at hl 0 rfl) ?_
  refine lv_iload_n hx hb dL_law_889 rfl (lv_at hl 3 rfl) ?_
  refine lv_iconst (v := 4) hx hb dL_law_890 (by decide) ?_
  refine lv_iadd hx hb dL_law_891 ?_
  refine va_sld hx hb hX hbl hbA hw.2.2.2.1 hv4 dL_law_892 ?_
  refine lv_aload_n hx hb dL_law_893 rfl (lv_at hl 0 rfl) ?_
  refine lv_iload_n hx hb dL_law_894 rfl (lv_at hl 3 rfl) ?_
  refine lv_iconst (v := 5) hx hb dL_law_895 (by decide) ?_
  refine lv_iadd hx hb dL_law_896 ?_
  refine va_sld hx hb hX hbl hbA hw.2.2.2.1 hv5 dL_law_897 ?_
  refine lv_i2l (v := (xs (x3 + 5).toNatClampNeg).toInt64) hx hb dL_law_898 rfl ?_
  refine lv_bipush (v := 32) hx hb dL_law_899 (by decide) ?_
  refine lv_lshl (v := (jlshl ((xs (x3 + 5).toNatClampNeg).toInt64) 32)) hx hb dL_law_901 rfl ?_
  refine lv_aload_n hx hb dL_law_902 rfl (lv_at hl 0 rfl) ?_
  refine lv_iload_n hx hb dL_law_903 rfl (lv_at hl 3 rfl) ?_
  refine lv_bipush (v := 6) hx hb dL_law_904 (by decide) ?_
  refine lv_iadd hx hb dL_law_906 ?_
  refine va_sld hx hb hX hbl hbA hw.2.2.2.1 hv6 dL_law_907 ?_
  refine lv_i2l (v := (xs (x3 + 6).toNatClampNeg).toInt64) hx hb dL_law_908 rfl ?_
  refine lv_ldc2 hx hb C.2.2.2.2.1 (C.w kk_L_66 rfl) dL_law_909 ?_
  refine lv_land hx hb dL_law_912 ?_
  refine lv_lor hx hb dL_law_913 ?_
  refine lv_aload_n hx hb dL_law_914 rfl (lv_at hl 0 rfl) ?_
  refine lv_iload_n hx hb dL_law_915 rfl (lv_at hl 3 rfl) ?_
  refine lv_bipush (v := 7) hx hb dL_law_916 (by decide) ?_
  refine lv_iadd hx hb dL_law_918 ?_
  refine va_sld hx hb hX hbl hbA hw.2.2.2.1 hv7 dL_law_919 ?_
  refine q_callRi (rest := [.int r]) C hw (mX6_plan l D ad2 cI cZ M (xs (x3 + 1).toNatClampNeg) (xs (x3 + 2).toNatClampNeg) (xs (x3 + 3).toNatClampNeg) (xs (x3 + 4).toNatClampNeg) ((jlshl ((xs (x3 + 5).toNatClampNeg).toInt64) 32) ||| ((xs (x3 + 6).toNatClampNeg).toInt64 &&& 4294967295)) (xs (x3 + 7).toNatClampNeg) _ hq) kc_X6_plan ml_L_94 rfl ⟨rfl, rfl, (Nat.le_of_ble_eq_true rfl), (Nat.le_of_ble_eq_true rfl)⟩ rfl rfl (Nat.le_of_ble_eq_true rfl) hl.1 ⟨(Nat.le_of_ble_eq_true rfl), (Nat.le_of_ble_eq_true rfl)⟩ dL_law_920 ?_
  clear hw hq
  intro r1 M1 H locs hq hw
  obtain ⟨he, hI⟩ := hq
  subst he
  refine lv_icmp_eq (tgt := 951) hx hb dL_law_923 (by decide) (fun hc => ?_) (fun hc => absurd rfl hc)
  exact hback S1 M1 H locs ls hI hw hl
set_option maxHeartbeats 4000000 in
set_option maxRecDepth 100000 in
theorem law_count {p : Program} {l : Launch} {e : Env} {s : State} {m : MethodId} {args : Array Value} {below : List Frame} {meth : Method} {c : Code} {D : va_G} {ad ad2 : Nat → Nat} {cI cL cZ : ClassId} {A : Nat → Prop} {Qz : State → Prop} {b L : Nat} {xs : Nat → Int32} {Inv : MS → MS → Prop} (ok : OK_count Inv) (C : Cx p s m args meth c RL cL_law 4 ret) (hX : va_X b L xs s s.heap) (hbl : b < s.heap.size) (hbA : ¬ A b) (x3 : Int32) (hv1 : vp_in (x3 + 1) L) (S M : MS) (hI : Inv S M) (H : Heap) (locs : List Loc) (ls : Array Slot) (hw : WW D (atys cI cL cZ) (jw ad ad2 cI cL cZ S M) A s H locs) (hl : lv_has ls 4 [(0, .ref b), (1, .ref (ad 0)), (2, .ref (ad2 0)), (3, .int x3)])
    (hback : ∀ (S M : MS) (H : Heap) (locs : List Loc) (ls : Array Slot), Inv S M → WW D (atys cI cL cZ) (jw ad ad2 cI cL cZ S M) A s H locs → lv_has ls 4 [(0, .ref b), (1, .ref (ad 0)), (2, .ref (ad2 0)), (3, .int x3)] → W p l e room_1 s m args below meth c H locs 49 1582 Qz (F0 m 951 ls [])) : W p l e room_1 s m args below meth c H locs 49 1582 Qz (F0 m 928 ls []) := by
  have hx := C.1
  have hb := C.2.1
  refine lv_aload_n hx hb dL_law_928 rfl (lv_at hl 1 rfl) ?_
  refine lv_aload_n hx hb dL_law_929 rfl (lv_at hl 0 rfl) ?_
  refine lv_iload_n hx hb dL_law_930 rfl (lv_at hl 3 rfl) ?_
  refine lv_iconst (v := 1) hx hb dL_law_931 (by decide) ?_
  refine lv_iadd hx hb dL_law_932 ?_
  refine va_sld hx hb hX hbl hbA hw.2.2.2.1 hv1 dL_law_933 ?_
  have hq := ok S M (xs (x3 + 1).toNatClampNeg) hI
  refine q_callCi (rest := []) C hw (mX5_count l D ad cI cL S (xs (x3 + 1).toNatClampNeg) _ hq) kc_X5_count ml_L_95 rfl ⟨rfl, rfl, (Nat.le_of_ble_eq_true rfl), (Nat.le_of_ble_eq_true rfl)⟩ rfl rfl (Nat.le_of_ble_eq_true rfl) hl.1 ⟨(Nat.le_of_ble_eq_true rfl), (Nat.le_of_ble_eq_true rfl)⟩ dL_law_934 ?_
  clear hw hq
  intro r S1 H locs hq hw
  refine lv_aload_n hx hb dL_law_937 rfl (lv_at hl 2 rfl) ?_
  refine lv_aload_n hx hb dL_law_938 rfl (lv_at hl 0 rfl) ?_
  refine lv_iload_n hx hb dL_law_939 rfl (lv_at hl 3 rfl) ?_
  refine lv_iconst (v := 1) hx hb dL_law_940 (by decide) ?_
  refine lv_iadd hx hb dL_law_941 ?_
  refine va_sld hx hb hX hbl hbA hw.2.2.2.1 hv1 dL_law_942 ?_
  refine q_callRi (rest := [.int r]) C hw (mX6_count l D ad2 cI cZ M (xs (x3 + 1).toNatClampNeg) _ hq) kc_X6_count ml_L_99 rfl ⟨rfl, rfl, (Nat.le_of_ble_eq_true rfl), (Nat.le_of_ble_eq_true rfl)⟩ rfl rfl (Nat.le_of_ble_eq_true rfl) hl.1 ⟨(Nat.le_of_ble_eq_true rfl), (Nat.le_of_ble_eq_true rfl)⟩ dL_law_943 ?_
  clear hw hq
  intro r1 M1 H locs hq hw
  obtain ⟨he, hI⟩ := hq
  subst he
  refine lv_icmp_eq (tgt := 951) hx hb dL_law_946 (by decide) (fun hc => ?_) (fun hc => absurd rfl hc)
  exact hback S1 M1 H locs ls hI hw hl
set_option maxHeartbeats 4000000 in
set_option maxRecDepth 100000 in
/-- the law's loop, from its head on -/
theorem law_loop {p : Program} {l : Launch} {e : Env} {s : State} {m : MethodId} {below : List Frame} {meth : Method} {c : Code} {D : va_G} {ad ad2 : Nat → Nat} {cI cL cZ : ClassId} {b L : Nat} {xs : Nat → Int32} {Inv : MS → MS → Prop} (hL : L ≤ 4096) (ok : OK_all Inv) (C : Cx p s m #[Value.ref b] meth c RL cL_law 4 ret) (hX : va_X b L xs s s.heap) (hbl : b < s.heap.size) :
    ∀ (n i : Nat) (x3 : Int32), L < i + n → i ≤ L → x3 = nI i → ∀ (S M : MS), Inv S M → ∀ (H : Heap) (locs : List Loc) (ls : Array Slot), WW D (atys cI cL cZ) (jw ad ad2 cI cL cZ S M) (fun q : Nat => s.heap.size ≤ q) s H locs → lv_has ls 4 [(0, .ref b), (1, .ref (ad 0)), (2, .ref (ad2 0)), (3, .int x3)] → W p l e room_1 s m #[Value.ref b] below meth c H locs 49 1582 (lw_Z below #[Value.ref b] s) (F0 m 18 ls []) := by
  have hbA : ¬ (fun q : Nat => s.heap.size ≤ q) b := Nat.not_le.mpr hbl
  have hx := C.1
  have hb := C.2.1
  intro n
  induction n with
  | zero => intro i x3 h1 h2; exact absurd h1 (by omega)
  | succ n ih =>
    intro i x3 hi hiL ex S M hI H locs ls hw hl
    refine lv_iload_n hx hb dL_law_18 rfl (lv_at hl 3 rfl) ?_
    refine lv_aload_n hx hb dL_law_19 rfl (lv_at hl 0 rfl) ?_
    refine va_slen hx hb hX hbl hbA hw.2.2.2.1 dL_law_20 ?_
    refine lv_bipush (v := 8) hx hb dL_law_21 (by decide) ?_
    refine lv_isub hx hb dL_law_23 ?_
    refine lv_icmp_gt (tgt := 957) hx hb dL_law_24 (by decide) (fun hc => ?_) (fun hc => ?_)
    · refine lv_iconst (v := 1) hx hb dL_law_957 (by decide) ?_
      refine va_forget (fun q hq => hw.2.2.2.1.2.2 q hq) ?_
      exact lw_ret hx hb C.2.2.1 C.2.2.2.2.2.2 dL_law_958
    have hi8 : i + 8 ≤ L := by
      rw [ex] at hc
      have h1 : (Int32.ofNat L - 8).toInt = (L : Int) - 8 := pk_sub_toInt (a := L) (b := 8) (by omega) (by omega)
      rw [Int32.lt_iff_toInt_lt, h1, nI_toInt (by omega)] at hc
      omega
    have hvk : ∀ k : Nat, k < 8 → vp_in (nI i + nI k) L := fun k hk => by
      rw [nI_add]; exact vp_in_nI (by omega) (by omega)
    have hv0 : vp_in x3 L := by rw [ex]; exact vp_in_nI (by omega) (by omega)
    have hv1 : vp_in (x3 + 1) L := by rw [ex]; exact hvk 1 (by omega)
    have hv2 : vp_in (x3 + 2) L := by rw [ex]; exact hvk 2 (by omega)
    have hv3 : vp_in (x3 + 3) L := by rw [ex]; exact hvk 3 (by omega)
    have hv4 : vp_in (x3 + 4) L := by rw [ex]; exact hvk 4 (by omega)
    have hv5 : vp_in (x3 + 5) L := by rw [ex]; exact hvk 5 (by omega)
    have hv6 : vp_in (x3 + 6) L := by rw [ex]; exact hvk 6 (by omega)
    have hv7 : vp_in (x3 + 7) L := by rw [ex]; exact hvk 7 (by omega)
    have hback : ∀ (S M : MS) (H : Heap) (locs : List Loc) (ls : Array Slot), Inv S M → WW D (atys cI cL cZ) (jw ad ad2 cI cL cZ S M) (fun q : Nat => s.heap.size ≤ q) s H locs → lv_has ls 4 [(0, .ref b), (1, .ref (ad 0)), (2, .ref (ad2 0)), (3, .int x3)] → W p l e room_1 s m #[Value.ref b] below meth c H locs 49 1582 (lw_Z below #[Value.ref b] s) (F0 m 951 ls []) := by
      intro S M H locs ls hI hw hl
      refine lv_iinc (v := x3 + 8) (lv' := [(3, .int (x3 + 8)), (0, .ref b), (1, .ref (ad 0)), (2, .ref (ad2 0))]) hx hb dL_law_951 hl (k := 3) rfl rfl (by decide) rfl (fun ls hl => ?_)
      refine lv_goto (tgt := 18) hx hb dL_law_954 (by decide) ?_
      exact ih (i + 8) (x3 + 8) (by omega) hi8 (by rw [ex]; exact nI_add i 8) S M hI H locs ls hw (lv_sub hl [1, 2, 3, 0] rfl)
    refine lv_aload_n hx hb dL_law_27 rfl (lv_at hl 0 rfl) ?_
    refine lv_iload_n hx hb dL_law_28 rfl (lv_at hl 3 rfl) ?_
    refine va_sld hx hb hX hbl hbA hw.2.2.2.1 hv0 dL_law_29 ?_
    refine lv_bipush (v := 31) hx hb dL_law_30 (by decide) ?_
    refine lv_iand hx hb dL_law_32 ?_
    by_cases hc0 : xs x3.toNatClampNeg &&& 31 = 0
    · refine lv_tableIn (tgt := 124) (off := 91) hx hb dL_law_33 (by rw [hc0]; decide) (by rw [hc0]; decide) (by rw [hc0]; rfl) (by decide) ?_
      exact law_part ok.2.1 C hX hbl hbA x3 hv1 hv2 hv3 S M hI _ _ _ hw hl hback
    by_cases hc1 : xs x3.toNatClampNeg &&& 31 = 1
    · refine lv_tableIn (tgt := 167) (off := 134) hx hb dL_law_33 (by rw [hc1]; decide) (by rw [hc1]; decide) (by rw [hc1]; rfl) (by decide) ?_
      exact law_test ok.2.2.1 C hX hbl hbA x3 hv1 hv2 S M hI _ _ _ hw hl hback
    by_cases hc2 : xs x3.toNatClampNeg &&& 31 = 2
    · refine lv_tableIn (tgt := 200) (off := 167) hx hb dL_law_33 (by rw [hc2]; decide) (by rw [hc2]; decide) (by rw [hc2]; rfl) (by decide) ?_
      exact law_noTests ok.2.2.2.1 C hX hbl hbA x3 hv1 hv2 S M hI _ _ _ hw hl hback
    by_cases hc3 : xs x3.toNatClampNeg &&& 31 = 3
    · refine lv_tableIn (tgt := 233) (off := 200) hx hb dL_law_33 (by rw [hc3]; decide) (by rw [hc3]; decide) (by rw [hc3]; rfl) (by decide) ?_
      exact law_bypass ok.2.2.2.2.1 C hX hbl hbA x3 hv1 hv2 hv3 S M hI _ _ _ hw hl hback
    by_cases hc4 : xs x3.toNatClampNeg &&& 31 = 4
    · refine lv_tableIn (tgt := 276) (off := 243) hx hb dL_law_33 (by rw [hc4]; decide) (by rw [hc4]; decide) (by rw [hc4]; rfl) (by decide) ?_
      exact law_bypassed ok.2.2.2.2.2.1 C hX hbl hbA x3 hv1 hv2 hv3 S M hI _ _ _ hw hl hback
    by_cases hc5 : xs x3.toNatClampNeg &&& 31 = 5
    · refine lv_tableIn (tgt := 319) (off := 286) hx hb dL_law_33 (by rw [hc5]; decide) (by rw [hc5]; decide) (by rw [hc5]; rfl) (by decide) ?_
      exact law_group ok.2.2.2.2.2.2.1 C hX hbl hbA x3 hv1 hv2 S M hI _ _ _ hw hl hback
    by_cases hc6 : xs x3.toNatClampNeg &&& 31 = 6
    · refine lv_tableIn (tgt := 352) (off := 319) hx hb dL_law_33 (by rw [hc6]; decide) (by rw [hc6]; decide) (by rw [hc6]; rfl) (by decide) ?_
      exact law_vote ok.2.2.2.2.2.2.2.1 C hX hbl hbA x3 hv1 hv2 hv3 hv4 hv5 hv6 S M hI _ _ _ hw hl hback
    by_cases hc7 : xs x3.toNatClampNeg &&& 31 = 7
    · refine lv_tableIn (tgt := 427) (off := 394) hx hb dL_law_33 (by rw [hc7]; decide) (by rw [hc7]; decide) (by rw [hc7]; rfl) (by decide) ?_
      exact law_share ok.2.2.2.2.2.2.2.2.1 C hX hbl hbA x3 hv1 hv2 S M hI _ _ _ hw hl hback
    by_cases hc8 : xs x3.toNatClampNeg &&& 31 = 8
    · refine lv_tableIn (tgt := 460) (off := 427) hx hb dL_law_33 (by rw [hc8]; decide) (by rw [hc8]; decide) (by rw [hc8]; rfl) (by decide) ?_
      exact law_below ok.2.2.2.2.2.2.2.2.2.1 C hX hbl hbA x3 hv1 hv2 S M hI _ _ _ hw hl hback
    by_cases hc9 : xs x3.toNatClampNeg &&& 31 = 9
    · refine lv_tableIn (tgt := 493) (off := 460) hx hb dL_law_33 (by rw [hc9]; decide) (by rw [hc9]; decide) (by rw [hc9]; rfl) (by decide) ?_
      exact law_shared ok.2.2.2.2.2.2.2.2.2.2.1 C hX hbl hbA x3 hv1 hv2 S M hI _ _ _ hw hl hback
    by_cases hc10 : xs x3.toNatClampNeg &&& 31 = 10
    · refine lv_tableIn (tgt := 526) (off := 493) hx hb dL_law_33 (by rw [hc10]; decide) (by rw [hc10]; decide) (by rw [hc10]; rfl) (by decide) ?_
      exact law_chance ok.2.2.2.2.2.2.2.2.2.2.2.1 C hX hbl hbA x3 hv1 hv2 S M hI _ _ _ hw hl hback
    by_cases hc11 : xs x3.toNatClampNeg &&& 31 = 11
    · refine lv_tableIn (tgt := 560) (off := 527) hx hb dL_law_33 (by rw [hc11]; decide) (by rw [hc11]; decide) (by rw [hc11]; rfl) (by decide) ?_
      exact law_over ok.2.2.2.2.2.2.2.2.2.2.2.2.1 C hX hbl hbA x3 hv1 hv2 hv3 S M hI _ _ _ hw hl hback
    by_cases hc12 : xs x3.toNatClampNeg &&& 31 = 12
    · refine lv_tableIn (tgt := 604) (off := 571) hx hb dL_law_33 (by rw [hc12]; decide) (by rw [hc12]; decide) (by rw [hc12]; rfl) (by decide) ?_
      exact law_broken ok.2.2.2.2.2.2.2.2.2.2.2.2.2.1 C hX hbl hbA x3 hv1 hv2 hv3 hv4 hv5 S M hI _ _ _ hw hl hback
    by_cases hc13 : xs x3.toNatClampNeg &&& 31 = 13
    · refine lv_tableIn (tgt := 687) (off := 654) hx hb dL_law_33 (by rw [hc13]; decide) (by rw [hc13]; decide) (by rw [hc13]; rfl) (by decide) ?_
      exact law_nothing ok.2.2.2.2.2.2.2.2.2.2.2.2.2.2.1 C hX hbl hbA x3 hv1 S M hI _ _ _ hw hl hback
    by_cases hc14 : xs x3.toNatClampNeg &&& 31 = 14
    · refine lv_tableIn (tgt := 711) (off := 678) hx hb dL_law_33 (by rw [hc14]; decide) (by rw [hc14]; decide) (by rw [hc14]; rfl) (by decide) ?_
      exact law_matters ok.2.2.2.2.2.2.2.2.2.2.2.2.2.2.2.1 C hX hbl hbA x3 hv1 hv2 hv3 S M hI _ _ _ hw hl hback
    by_cases hc15 : xs x3.toNatClampNeg &&& 31 = 15
    · refine lv_tableIn (tgt := 755) (off := 722) hx hb dL_law_33 (by rw [hc15]; decide) (by rw [hc15]; decide) (by rw [hc15]; rfl) (by decide) ?_
      exact law_most ok.2.2.2.2.2.2.2.2.2.2.2.2.2.2.2.2.1 C hX hbl hbA x3 hv1 hv2 S M hI _ _ _ hw hl hback
    by_cases hc16 : xs x3.toNatClampNeg &&& 31 = 16
    · refine lv_tableIn (tgt := 788) (off := 755) hx hb dL_law_33 (by rw [hc16]; decide) (by rw [hc16]; decide) (by rw [hc16]; rfl) (by decide) ?_
      exact law_cost ok.2.2.2.2.2.2.2.2.2.2.2.2.2.2.2.2.2.1 C hX hbl hbA x3 hv1 hv2 S M hI _ _ _ hw hl hback
    by_cases hc17 : xs x3.toNatClampNeg &&& 31 = 17
    · refine lv_tableIn (tgt := 821) (off := 788) hx hb dL_law_33 (by rw [hc17]; decide) (by rw [hc17]; decide) (by rw [hc17]; rfl) (by decide) ?_
      exact law_plan ok.2.2.2.2.2.2.2.2.2.2.2.2.2.2.2.2.2.2.1 C hX hbl hbA x3 hv1 hv2 hv3 hv4 hv5 hv6 hv7 S M hI _ _ _ hw hl hback
    by_cases hc18 : xs x3.toNatClampNeg &&& 31 = 18
    · refine lv_tableIn (tgt := 928) (off := 895) hx hb dL_law_33 (by rw [hc18]; decide) (by rw [hc18]; decide) (by rw [hc18]; rfl) (by decide) ?_
      exact law_count ok.2.2.2.2.2.2.2.2.2.2.2.2.2.2.2.2.2.2.2 C hX hbl hbA x3 hv1 S M hI _ _ _ hw hl hback
    refine lv_tableOut (tgt := 951) hx hb dL_law_33 (by have g0 := lv_neT (a := 0) hc0 (by decide); have g1 := lv_neT (a := 1) hc1 (by decide); have g2 := lv_neT (a := 2) hc2 (by decide); have g3 := lv_neT (a := 3) hc3 (by decide); have g4 := lv_neT (a := 4) hc4 (by decide); have g5 := lv_neT (a := 5) hc5 (by decide); have g6 := lv_neT (a := 6) hc6 (by decide); have g7 := lv_neT (a := 7) hc7 (by decide); have g8 := lv_neT (a := 8) hc8 (by decide); have g9 := lv_neT (a := 9) hc9 (by decide); have g10 := lv_neT (a := 10) hc10 (by decide); have g11 := lv_neT (a := 11) hc11 (by decide); have g12 := lv_neT (a := 12) hc12 (by decide); have g13 := lv_neT (a := 13) hc13 (by decide); have g14 := lv_neT (a := 14) hc14 (by decide); have g15 := lv_neT (a := 15) hc15 (by decide); have g16 := lv_neT (a := 16) hc16 (by decide); have g17 := lv_neT (a := 17) hc17 (by decide); have g18 := lv_neT (a := 18) hc18 (by decide); omega) (by decide) ?_
    exact hback S M H locs ls hI hw hl
set_option maxHeartbeats 4000000 in
set_option maxRecDepth 100000 in
/-- the law, from its entry: once the pure side is given -/
theorem law_start {p : Program} {e : Env} {s : State} {m : MethodId} {below : List Frame} {meth : Method} {c : Code} (l : Launch) {b L : Nat} {xs : Nat → Int32} {Inv : MS → MS → Prop} (ok : OK_all Inv) (hL : L ≤ 4096) (C0 : lw_At p s m meth c b L xs) : W p l e room_1 s m #[Value.ref b] below meth c s.heap [] 0 0 (lw_Z below #[Value.ref b] s) (entryFrame m ([Value.ref b] : List Value).toArray 4) := by
  obtain ⟨hx, hb, hr, hml, hown, hts, hX, hbl, hlocks, hgv⟩ := id C0
  have C : Cx p s m #[Value.ref b] meth c RL cL_law 4 ret := ⟨hx, hb, hr, hml, hown, fun w h => hts w (List.mem_filter.mp h).1, hlocks⟩
  have hbA : ¬ (fun q : Nat => s.heap.size ≤ q) b := Nat.not_le.mpr hbl
  obtain ⟨c0, iS0, hKn0⟩ := u_known (C := RX0) (T := TX0) (N := 3) (n := 3) C.2.2.2.2.2.1 uw_X0 (C.w kn_X0.1 rfl)
  obtain ⟨c1, iS1, hKn1⟩ := u_known (C := RX1) (T := TX1) (N := 9) (n := 9) C.2.2.2.2.2.1 uw_X1 (C.w kn_X1.1 rfl)
  obtain ⟨c2, iS2, hKn2⟩ := u_known (C := RX2) (T := TX2) (N := 9) (n := 9) C.2.2.2.2.2.1 uw_X2 (C.w kn_X2.1 rfl)
  obtain ⟨c3, iS3, hKn3⟩ := u_known (C := RX3) (T := TX3) (N := 6) (n := 6) C.2.2.2.2.2.1 uw_X3 (C.w kn_X3.1 rfl)
  obtain ⟨c4, iS4, hKn4⟩ := u_known (C := RX4) (T := TX4) (N := 6) (n := 6) C.2.2.2.2.2.1 uw_X4 (C.w kn_X4.1 rfl)
  obtain ⟨c5, iS5, hKn5⟩ := u_known (C := RX5) (T := TX5) (N := 6) (n := 6) C.2.2.2.2.2.1 uw_X5 (C.w kn_X5.1 rfl)
  obtain ⟨c6, iS6, hKn6⟩ := u_known (C := RX6) (T := TX6) (N := 26) (n := 26) C.2.2.2.2.2.1 uw_X6 (C.w kn_X6.1 rfl)
  obtain ⟨dC, dI, hKc⟩ : ∃ (dC : Nat → ClassId) (dI : Nat → Nat → Nat), ∀ (k : Nat) (q : vw_C), vwCl[k]? = some q → u_Kn s q.1 q.2.1 q.2.2 (dC k) (dI k) := by
    refine ⟨fun k => ([c0, c1, c2, c3, c4, c5, c6] : List ClassId).getD k c0, fun k => ([iS0, iS1, iS2, iS3, iS4, iS5, iS6] : List (Nat → Nat)).getD k iS0, ?_⟩
    intro k q hq
    match k, hq with
    | 0, hq => cases hq; exact hKn0
    | 1, hq => cases hq; exact hKn1
    | 2, hq => cases hq; exact hKn2
    | 3, hq => cases hq; exact hKn3
    | 4, hq => cases hq; exact hKn4
    | 5, hq => cases hq; exact hKn5
    | 6, hq => cases hq; exact hKn6
    | k + 7, hq => simp [vwCl] at hq
  have harr : ∀ ty : FieldType, (Cond.arrayClass ty).before #[Value.ref b] s = true → (∀ (U : State) (c1 : ClassId), U.vm.findClass ("[" ++ ty.toString) = some c1 → refKind ty = false → va_RA U c1 ty) → refKind ty = false → ∃ cA : ClassId, ArrOfT s cA ty ∧ va_RA s cA ty := by
    intro ty h hra hrk
    obtain ⟨cA, kA, comp, hfind, hk, hkind⟩ := Cond.arrayClass_spec h
    exact ⟨cA, fun n z => ⟨fun k h => (by cases h), kA, hk, comp, hkind⟩, hra _ _ hfind hrk⟩
  obtain ⟨cI, hI1⟩ := harr .int (C.w ka_int rfl) (fun _ _ h _ => h) rfl
  obtain ⟨cL, hL1⟩ := harr .long (C.w ka_long rfl) (fun _ _ h _ => h) rfl
  obtain ⟨cZ, hZ1⟩ := harr .boolean (C.w ka_boolean rfl) (fun _ _ h _ => h) rfl
  have hK : va_K (dC, dI) vwCl (atys cI cL cZ) s := by
    refine ⟨hKc, fun k q h => ?_⟩
    match k, h with
    | 0, h => cases h; exact hI1
    | 1, h => cases h; exact hL1
    | 2, h => cases h; exact hZ1
    | k + 3, h => simp at h
  have hN : nests s := by
    intro q hq
    refine va_Nw.of (A := #[Value.ref b]) rfl (hts _ ?_)
    revert q
    show ∀ q ∈ nestW, Cond.methodLinkNest q.1 q.2.1 q.2.2.1 q.2.2.2 ∈ lw_tbl
    decide +kernel
  have hP : va_P (dC, dI) vwCl [] s.heap := fun k q h => by simp at h
  have hD : va_D (fun q : Nat => s.heap.size ≤ q) [] := ⟨fun i j p q h => by simp at h, fun k q h => by simp at h⟩
  have hw : WW (dC, dI) (atys cI cL cZ) [] (fun q : Nat => s.heap.size ≤ q) s s.heap [] := ⟨hK, hP, hD, va_S.rf, fun _ h => h, hN⟩
  have hl := lv_entry ([.ref b]) (n := 4) (Nat.le_of_ble_eq_true rfl)
  rw [lg_entry_eq]
  generalize (lg_sl ([.ref b]) ++ List.replicate (4 - (lg_sl ([.ref b])).length) Slot.unset).toArray = ls at hl ⊢
  have hl : lv_has ls 4 [(0, .ref b)] := hl
  generalize (dC, dI) = D at hw
  refine x_new (ci := 5) (fs := [.null, .null, .null, .null, .null, .null]) (Cn := RX5) (T := TX5) (N := 6) C hw uw_X5 tyX5 tyX5_ok cl_L_7 kn_X5 rfl (fun j hj => by rcases (show j = 0 ∨ j = 1 ∨ j = 2 ∨ j = 3 ∨ j = 4 ∨ j = 5 by omega) with rfl | rfl | rfl | rfl | rfl | rfl <;> rfl) (Nat.le_of_ble_eq_true rfl) (Nat.le_of_ble_eq_true rfl) dL_law_0 (fun q1 H hw => ?_)
  have hw : WW D (atys cI cL cZ) [(q1, .inr (5, [.null, .null, .null, .null, .null, .null]))] (fun q : Nat => s.heap.size ≤ q) s H [] := hw
  refine W.widen (k := 1) (n := 6) (by omega) (by omega) ?_
  refine lv_dup hx hb dL_law_3 rfl ?_
  have hwc : WW D (ctys cI cL) [(q1, .inr (5, [.null, .null, .null, .null, .null, .null]))] (fun q : Nat => s.heap.size ≤ q) s H [] := ⟨hw.1.sub [0, 1] rfl, hw.2⟩
  refine x_joinK (wr := []) (tyc := ctys cI cL) hw [0] [] rfl rfl (by decide) (by decide) (x_runI (n' := 0) (wc := [(q1, .inr (5, [.null, .null, .null, .null, .null, .null]))]) (rest := [.ref q1]) C hwc [0] (by decide) rfl (mX5_init l D cI cL q1 _) kc_X5_init ⟨by decide +kernel, by decide +kernel, by decide +kernel⟩ rfl ml_L_9 ⟨rfl, rfl, (Nat.le_of_ble_eq_true rfl), (Nat.le_of_ble_eq_true rfl)⟩ rfl rfl (Nat.le_of_ble_eq_true rfl) hl.1 ⟨(Nat.le_of_ble_eq_true rfl), (Nat.le_of_ble_eq_true rfl)⟩ dL_law_4) ?_
  clear hw hwc
  intro ad H locs had hw3
  subst had
  have hw : WW D (atys cI cL cZ) (cw ad cI cL ini0) (fun q : Nat => s.heap.size ≤ q) s H locs := hw3
  refine W.widen (k := 27) (n := 1113) (by omega) (by omega) ?_
  refine lv_astore_n (lv' := [(1, .ref (ad 0)), (0, .ref b)]) hx hb dL_law_7 rfl hl (by decide) rfl (fun ls hl => ?_)
  refine x_new (ci := 6) (fs := [.int 0, .null, .null, .null, .null, .null, .null, .null, .null, .int 0, .null, .null, .null, .int 0, .null, .null, .int 0, .null, .null, .null, .null, .null, .int 0, .null, .null, .null]) (Cn := RX6) (T := TX6) (N := 26) C hw uw_X6 tyX6 tyX6_ok cl_L_10 kn_X6 rfl (fun j hj => by rcases (show j = 0 ∨ j = 1 ∨ j = 2 ∨ j = 3 ∨ j = 4 ∨ j = 5 ∨ j = 6 ∨ j = 7 ∨ j = 8 ∨ j = 9 ∨ j = 10 ∨ j = 11 ∨ j = 12 ∨ j = 13 ∨ j = 14 ∨ j = 15 ∨ j = 16 ∨ j = 17 ∨ j = 18 ∨ j = 19 ∨ j = 20 ∨ j = 21 ∨ j = 22 ∨ j = 23 ∨ j = 24 ∨ j = 25 by omega) with rfl | rfl | rfl | rfl | rfl | rfl | rfl | rfl | rfl | rfl | rfl | rfl | rfl | rfl | rfl | rfl | rfl | rfl | rfl | rfl | rfl | rfl | rfl | rfl | rfl | rfl <;> rfl) (Nat.le_of_ble_eq_true rfl) (Nat.le_of_ble_eq_true rfl) dL_law_8 (fun q2 H hw => ?_)
  refine W.widen (k := 28) (n := 1139) (by omega) (by omega) ?_
  refine lv_dup hx hb dL_law_11 rfl ?_
  have hwc : WW D (rtys cI cZ) (cw ad cI cL ini0 ++ [(q2, .inr (6, [.int 0, .null, .null, .null, .null, .null, .null, .null, .null, .int 0, .null, .null, .null, .int 0, .null, .null, .int 0, .null, .null, .null, .null, .null, .int 0, .null, .null, .null]))]) (fun q : Nat => s.heap.size ≤ q) s H locs := ⟨hw.1.sub [0, 2] rfl, hw.2⟩
  refine x_joinK (wr := cw ad cI cL ini0) (tyc := rtys cI cZ) hw [27] idC rfl rfl (by decide) (by decide) (x_runI (n' := 0) (wc := [(q2, .inr (6, [.int 0, .null, .null, .null, .null, .null, .null, .null, .null, .int 0, .null, .null, .null, .int 0, .null, .null, .int 0, .null, .null, .null, .null, .null, .int 0, .null, .null, .null]))]) (rest := [.ref q2]) C hwc [27] (by decide) rfl (mX6_init l D cI cZ q2 _) kc_X6_init ⟨by decide +kernel, by decide +kernel, by decide +kernel⟩ rfl ml_L_12 ⟨rfl, rfl, (Nat.le_of_ble_eq_true rfl), (Nat.le_of_ble_eq_true rfl)⟩ rfl rfl (Nat.le_of_ble_eq_true rfl) hl.1 ⟨(Nat.le_of_ble_eq_true rfl), (Nat.le_of_ble_eq_true rfl)⟩ dL_law_12) ?_
  clear hw hwc
  intro u H locs hu hw3
  obtain ⟨ad2, M0⟩ := u
  obtain ⟨hu1, hu2⟩ := hu
  dsimp only at hu1 hu2
  subst hu1
  subst hu2
  have hw : WW D (atys cI cL cZ) (jw ad ad2 cI cL cZ ini0 iniM) (fun q : Nat => s.heap.size ≤ q) s H locs := hw3
  refine W.widen (k := 49) (n := 1582) (by omega) (by omega) ?_
  refine lv_astore_n (lv' := [(2, .ref (ad2 0)), (1, .ref (ad 0)), (0, .ref b)]) hx hb dL_law_15 rfl hl (by decide) rfl (fun ls hl => ?_)
  refine lv_iconst (v := 0) hx hb dL_law_16 (by decide) ?_
  refine lv_istore_n (lv' := [(3, .int 0), (2, .ref (ad2 0)), (1, .ref (ad 0)), (0, .ref b)]) hx hb dL_law_17 rfl hl (by decide) rfl (fun ls hl => ?_)
  exact law_loop hL ok C hX hbl (L + 1) 0 0 (by omega) (Nat.zero_le _) nI_0.symm ini0 iniM ok.1 H locs ls hw (lv_sub hl [3, 2, 1, 0] rfl)
