/-! the law's own rows: two worlds side by side -/
abbrev atys (cI cL cZ : ClassId) : List (ClassId × FieldType) := [(cI, .int), (cL, .long), (cZ, .boolean)]
abbrev jw (ad ad2 : Nat → Nat) (cI cL cZ : ClassId) (S M : MS) : va_W := cw ad cI cL S ++ rw_ ad2 cI cZ M
abbrev idC : List Nat := [0, 1, 2, 3, 4, 5, 6, 7, 8, 9, 10, 11, 12, 13, 14, 15, 16, 17, 18, 19, 20, 21, 22, 23, 24, 25, 26]
abbrev idR : List Nat := [27, 28, 29, 30, 31, 32, 33, 34, 35, 36, 37, 38, 39, 40, 41, 42, 43, 44, 45, 46, 47, 48]
abbrev idB : List Nat := [22, 23, 24, 25, 26, 27, 28, 29, 30, 31, 32, 33, 34, 35, 36, 37, 38, 39, 40, 41, 42, 43, 44, 45, 46, 47, 48, 0, 1, 2, 3, 4, 5, 6, 7, 8, 9, 10, 11, 12, 13, 14, 15, 16, 17, 18, 19, 20, 21]
theorem jw_C {ad ad2 : Nat → Nat} {cI cL cZ : ClassId} {S M : MS} : idC.map (fun i => (jw ad ad2 cI cL cZ S M)[i]?) = (cw ad cI cL S).map some := rfl
theorem jw_R {ad ad2 : Nat → Nat} {cI cL cZ : ClassId} {S M : MS} : idR.map (fun i => (jw ad ad2 cI cL cZ S M)[i]?) = (rw_ ad2 cI cZ M).map some := rfl
theorem jw_B {ad ad2 : Nat → Nat} {cI cL cZ : ClassId} {S M : MS} : idB.map (fun i => (rw_ ad2 cI cZ M ++ cw ad cI cL S)[i]?) = (jw ad ad2 cI cL cZ S M).map some := rfl
section LROWS
variable {p : Program} {l : Launch} {e : Env} {R : Room} {s : State} {m : MethodId} {args : Array Value} {below : List Frame} {meth : Method} {c : Code} {H : Heap} {locs : List Loc} {Qz : State → Prop} {own : String} {cc : ByteArray} {nL pc : Nat} {ret : Option FieldType} {ls : Array Slot} {rest st0 As : List Value}
  {D : va_G} {A : Nat → Prop} {S M : MS} {ad ad2 : Nat → Nat} {cI cL cZ : ClassId} {a : Nat} {cells slots : Nat} {tys : List (ClassId × FieldType)} {w : MS → va_W} {ws : va_W}
  {y : MethodName} {cc' : ByteArray} {nL' n' index : Nat} {ret' : Option FieldType} {rm : Room} {Qc : Array Value → State → Outcome → State → Prop} {free : Addr → Prop}
theorem q_C (hw : WW D (atys cI cL cZ) (jw ad ad2 cI cL cZ S M) A s H locs) : WW D (ctys cI cL) (cw ad cI cL S) A s H locs := by
  have h := hw.sub idC (by decide) jw_C
  exact ⟨h.1.sub [0, 1] rfl, h.2⟩
theorem q_R (hw : WW D (atys cI cL cZ) (jw ad ad2 cI cL cZ S M) A s H locs) : WW D (rtys cI cZ) (rw_ ad2 cI cZ M) A s H locs := by
  have h := hw.sub idR (by decide) jw_R
  exact ⟨h.1.sub [0, 2] rfl, h.2⟩
theorem q_runV (C : Cx p s m args meth c own cc nL ret) (hw : WW D tys ws A s H locs) (hM : Met l y (Cond.code y cc' nL' ret' :: gw) rm (va_Pc (.ref a :: As) (Kpre D tys ws H.size)) Qc 0 0 free) (K : CalV y cc' nL' ret' n') (hl : Cond.methodLink own index y ∈ lw_tbl)
    (q0 : Nat) {ci : Nat} {fs : List Value} {qq : vw_C} (he : ws[q0]? = some (a, .inr (ci, fs))) (hc : vwCl[ci]? = some qq) (hq : qq.1 = y.cls) (hrm : rm.cells = 0 ∧ rm.slots = 0 ∧ rm.frames + 1 ≤ R.frames ∧ 8 + (nL' + 11) + rm.locals ≤ R.locals) (hst : st0 = As.reverse ++ .ref a :: rest) (hn : As.length = n') (hcat : (rest.map fun v => v.category).sum ≤ 8) (hls : ls.size = nL) (hcs : cells + 0 ≤ R.cells ∧ slots + 0 ≤ R.slots) (hdg : decode cc pc = .ok (.invokevirtual index, 3)) :
    va_Run p l e R s m args below meth c H locs cells slots 0 0 (F0 m pc ls st0) rest (Qc (Value.ref a :: As).toArray) free := by
  subst hst
  have ok : ∀ w : Cond, w ∈ lw_tbl → goodWord w = true → w.before args s = true := fun w h hg => C.w h hg
  obtain ⟨hx, hb, hr, hml, hown, hts, hlocks⟩ := C
  obtain ⟨k1, k2, k3, k4, k5⟩ := K
  refine va_runV (Ts := gw) (C := y.cls) (bytes := cc') (maxL := nL') (ret := ret') (n := n') ⟨hx, hb, hml, hown, hts⟩ hM ⟨callB_of n' hts (gw_GoodIn' k1) rfl hrm.1 hrm.2.1 (ok _ k4 rfl) (ok _ hl rfl) k5 hrm.2.2, ok _ k2 rfl, ok _ k3 rfl⟩ ⟨Kpre.blind, ?_, Kpre.at hw⟩ rfl hn hls rfl (lv_room hcat) hdg hcs
  rw [← hq]
  exact va_recv hw.1 hw.2.1 hc he
theorem q_backC {S' : MS} {H1 : Heap} {locs1 : List Loc} {t : State} (hw : WW D (atys cI cL cZ) (jw ad ad2 cI cL cZ S M) A s H locs) (ht : t.heap = H1) (hk : ∀ q : Nat, q < H.size → ¬ va_A (cw ad cI cL S) H.size q → H1[q]? = H[q]?) (hB : Kpost D (ctys cI cL) (cw ad cI cL) (va_A (cw ad cI cL S) H.size) S' t) (hS1 : va_S A s.heap H1 locs1) :
    WW D (atys cI cL cZ) (jw ad ad2 cI cL cZ S' M) A s H1 locs1 := by
  have hF := va_free' (q_C hw)
  obtain ⟨hK, hP, hD, hS, hA, hN⟩ := hw
  obtain ⟨bP, bK, bD⟩ := hB
  rw [ht] at bP
  obtain ⟨jP, jD⟩ := va_join hP hD idC idR jw_C jw_R (by decide) (by decide) hk hF bP bD
  exact WW.sub (ws := rw_ ad2 cI cZ M ++ cw ad cI cL S') ⟨hK, jP, jD, hS1, hA, hN⟩ idB (by decide) jw_B
theorem q_backR {M' : MS} {H1 : Heap} {locs1 : List Loc} {t : State} (hw : WW D (atys cI cL cZ) (jw ad ad2 cI cL cZ S M) A s H locs) (ht : t.heap = H1) (hk : ∀ q : Nat, q < H.size → ¬ va_A (rw_ ad2 cI cZ M) H.size q → H1[q]? = H[q]?) (hB : Kpost D (rtys cI cZ) (rw_ ad2 cI cZ) (va_A (rw_ ad2 cI cZ M) H.size) M' t) (hS1 : va_S A s.heap H1 locs1) :
    WW D (atys cI cL cZ) (jw ad ad2 cI cL cZ S M') A s H1 locs1 := by
  have hF := va_free' (q_R hw)
  obtain ⟨hK, hP, hD, hS, hA, hN⟩ := hw
  obtain ⟨bP, bK, bD⟩ := hB
  rw [ht] at bP
  obtain ⟨jP, jD⟩ := va_join hP hD idR idC jw_R jw_C (by decide) (by decide) hk hF bP bD
  exact ⟨hK, jP, jD, hS1, hA, hN⟩
theorem q_callCi {Q : Int32 → MS → Prop} (C : Cx p s m args meth c own cc nL ret) (hw : WW D (atys cI cL cZ) (jw ad ad2 cI cL cZ S M) A s H locs) (hM : Mi l y cc' nL' ret' rm D (ctys cI cL) (cw ad cI cL) (.ref (ad 0) :: As) S Q) (K : CalV y cc' nL' ret' n') (hl : Cond.methodLink own index y ∈ lw_tbl) (hy : RX5 = y.cls)
    (hrm : rm.cells = 0 ∧ rm.slots = 0 ∧ rm.frames + 1 ≤ R.frames ∧ 8 + (nL' + 11) + rm.locals ≤ R.locals) (hst : st0 = As.reverse ++ .ref (ad 0) :: rest) (hn : As.length = n') (hcat : (rest.map fun v => v.category).sum ≤ 8) (hls : ls.size = nL) (hcs : cells + 0 ≤ R.cells ∧ slots + 0 ≤ R.slots) (hdg : decode cc pc = .ok (.invokevirtual index, 3))
    (kk : ∀ (r : Int32) (S' : MS) (H1 : Heap) (locs1 : List Loc), Q r S' → WW D (atys cI cL cZ) (jw ad ad2 cI cL cZ S' M) A s H1 locs1 → W p l e R s m args below meth c H1 locs1 cells slots Qz (F0 m (pc + 3) ls (.int r :: rest))) : W p l e R s m args below meth c H locs cells slots Qz (F0 m pc ls st0) := by
  have hwC := q_C hw
  have hF := va_free' hwC
  refine va_calli (q_runV C hwC (hM H.size) K hl 0 cO_X5 rfl hy hrm hst hn hcat hls hcs hdg) hw.2.2.2.1 (fun q _ h => hF q h) hF (fun r u t H1 locs1 ht hvm hq hB hz hk hS1 => ?_)
  exact kk r u H1 locs1 hq (q_backC hw ht hk hB hS1)
theorem q_callCl {Q : Int64 → MS → Prop} (C : Cx p s m args meth c own cc nL ret) (hw : WW D (atys cI cL cZ) (jw ad ad2 cI cL cZ S M) A s H locs) (hM : Ml l y cc' nL' ret' rm D (ctys cI cL) (cw ad cI cL) (.ref (ad 0) :: As) S Q) (K : CalV y cc' nL' ret' n') (hl : Cond.methodLink own index y ∈ lw_tbl) (hy : RX5 = y.cls)
    (hrm : rm.cells = 0 ∧ rm.slots = 0 ∧ rm.frames + 1 ≤ R.frames ∧ 8 + (nL' + 11) + rm.locals ≤ R.locals) (hst : st0 = As.reverse ++ .ref (ad 0) :: rest) (hn : As.length = n') (hcat : (rest.map fun v => v.category).sum ≤ 8) (hls : ls.size = nL) (hcs : cells + 0 ≤ R.cells ∧ slots + 0 ≤ R.slots) (hdg : decode cc pc = .ok (.invokevirtual index, 3))
    (kk : ∀ (r : Int64) (S' : MS) (H1 : Heap) (locs1 : List Loc), Q r S' → WW D (atys cI cL cZ) (jw ad ad2 cI cL cZ S' M) A s H1 locs1 → W p l e R s m args below meth c H1 locs1 cells slots Qz (F0 m (pc + 3) ls (.long r :: rest))) : W p l e R s m args below meth c H locs cells slots Qz (F0 m pc ls st0) := by
  have hwC := q_C hw
  have hF := va_free' hwC
  refine va_calll (q_runV C hwC (hM H.size) K hl 0 cO_X5 rfl hy hrm hst hn hcat hls hcs hdg) hw.2.2.2.1 (fun q _ h => hF q h) hF (fun r u t H1 locs1 ht hvm hq hB hz hk hS1 => ?_)
  exact kk r u H1 locs1 hq (q_backC hw ht hk hB hS1)
theorem q_callRi {Q : Int32 → MS → Prop} (C : Cx p s m args meth c own cc nL ret) (hw : WW D (atys cI cL cZ) (jw ad ad2 cI cL cZ S M) A s H locs) (hM : Mi l y cc' nL' ret' rm D (rtys cI cZ) (rw_ ad2 cI cZ) (.ref (ad2 0) :: As) M Q) (K : CalV y cc' nL' ret' n') (hl : Cond.methodLink own index y ∈ lw_tbl) (hy : RX6 = y.cls)
    (hrm : rm.cells = 0 ∧ rm.slots = 0 ∧ rm.frames + 1 ≤ R.frames ∧ 8 + (nL' + 11) + rm.locals ≤ R.locals) (hst : st0 = As.reverse ++ .ref (ad2 0) :: rest) (hn : As.length = n') (hcat : (rest.map fun v => v.category).sum ≤ 8) (hls : ls.size = nL) (hcs : cells + 0 ≤ R.cells ∧ slots + 0 ≤ R.slots) (hdg : decode cc pc = .ok (.invokevirtual index, 3))
    (kk : ∀ (r : Int32) (M' : MS) (H1 : Heap) (locs1 : List Loc), Q r M' → WW D (atys cI cL cZ) (jw ad ad2 cI cL cZ S M') A s H1 locs1 → W p l e R s m args below meth c H1 locs1 cells slots Qz (F0 m (pc + 3) ls (.int r :: rest))) : W p l e R s m args below meth c H locs cells slots Qz (F0 m pc ls st0) := by
  have hwR := q_R hw
  have hF := va_free' hwR
  refine va_calli (q_runV C hwR (hM H.size) K hl 0 rO rfl hy hrm hst hn hcat hls hcs hdg) hw.2.2.2.1 (fun q _ h => hF q h) hF (fun r u t H1 locs1 ht hvm hq hB hz hk hS1 => ?_)
  exact kk r u H1 locs1 hq (q_backR hw ht hk hB hS1)
theorem q_callRl {Q : Int64 → MS → Prop} (C : Cx p s m args meth c own cc nL ret) (hw : WW D (atys cI cL cZ) (jw ad ad2 cI cL cZ S M) A s H locs) (hM : Ml l y cc' nL' ret' rm D (rtys cI cZ) (rw_ ad2 cI cZ) (.ref (ad2 0) :: As) M Q) (K : CalV y cc' nL' ret' n') (hl : Cond.methodLink own index y ∈ lw_tbl) (hy : RX6 = y.cls)
    (hrm : rm.cells = 0 ∧ rm.slots = 0 ∧ rm.frames + 1 ≤ R.frames ∧ 8 + (nL' + 11) + rm.locals ≤ R.locals) (hst : st0 = As.reverse ++ .ref (ad2 0) :: rest) (hn : As.length = n') (hcat : (rest.map fun v => v.category).sum ≤ 8) (hls : ls.size = nL) (hcs : cells + 0 ≤ R.cells ∧ slots + 0 ≤ R.slots) (hdg : decode cc pc = .ok (.invokevirtual index, 3))
    (kk : ∀ (r : Int64) (M' : MS) (H1 : Heap) (locs1 : List Loc), Q r M' → WW D (atys cI cL cZ) (jw ad ad2 cI cL cZ S M') A s H1 locs1 → W p l e R s m args below meth c H1 locs1 cells slots Qz (F0 m (pc + 3) ls (.long r :: rest))) : W p l e R s m args below meth c H locs cells slots Qz (F0 m pc ls st0) := by
  have hwR := q_R hw
  have hF := va_free' hwR
  refine va_calll (q_runV C hwR (hM H.size) K hl 0 rO rfl hy hrm hst hn hcat hls hcs hdg) hw.2.2.2.1 (fun q _ h => hF q h) hF (fun r u t H1 locs1 ht hvm hq hB hz hk hS1 => ?_)
  exact kk r u H1 locs1 hq (q_backR hw ht hk hB hS1)
end LROWS
