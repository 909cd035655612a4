section COPY
variable {p : Program} {l : Launch} {e : Env} {R : Room} {s : State} {m : MethodId} {args : Array Value} {below : List Frame} {meth : Method} {c : Code} {H : Heap} {locs : List Loc} {Qz : State → Prop} {own : String} {cc : ByteArray} {nL pc : Nat} {ret : Option FieldType} {ls : Array Slot} {rest : List Value}
  {D : va_G} {tys : List (ClassId × FieldType)} {ws ws' : va_W} {A : Nat → Prop} {a : Nat}
theorem w_copyl {index : Nat} (C : Cx p s m args meth c own cc nL ret) (hw : WW D tys ws A s H locs) (q0 q1 t0 t1 : Nat) {a0 : Nat} {c0 c1 : ClassId} {n0 n1 : Nat} {f g : Nat → Int64} (ha0 : ws[q0]? = some (a0, .inl (c0, n0, .inr (.inl f)))) (ha1 : ws[q1]? = some (a, .inl (c1, n1, .inr (.inl g)))) (ht0 : tys[t0]? = some (c0, .long)) (ht1 : tys[t1]? = some (c1, .long))
    (hlink : (Cond.methodLink own index arraycopyName).before args s = true) (hnat : (Cond.native arraycopyName).before args s = true) (hstat : (Cond.static arraycopyName).before args s = true) (hini : (Cond.initialized "java/lang/System").before args s = true)
    {n : Int32} (h3 : ¬ n < 0) (h4 : n.toNatClampNeg ≤ n0) (h5 : n.toNatClampNeg ≤ n1) (hls : ls.size = nL) (hframes : 1 ≤ R.frames) (hlocals : (rest.map fun v => v.category).sum + (nativeFrameWords "java/lang/System" "arraycopy" 5 + 11) ≤ R.locals) (hdg : decode cc pc = .ok (.invokestatic index, 3)) (hset : ws.set q1 (a, .inl (c1, n1, .inr (.inl (va_cpy f g 0 0 n.toNatClampNeg)))) = ws')
    (kk : ∀ (H1 : Heap) (locs1 : List Loc), WW D tys ws' A s H1 locs1 → W p l e R s m args below meth c H1 locs1 0 0 Qz (F0 m (pc + 3) ls rest)) : W p l e R s m args below meth c H locs 0 0 Qz (F0 m pc ls (.int n :: .int 0 :: .ref a :: .int 0 :: .ref a0 :: rest)) := by
  obtain ⟨hK, hP, hD, hS, hA, hN⟩ := hw
  have e0 : (0 : Int32).toNatClampNeg = 0 := by decide
  refine va_copyl C.1 C.2.1 (C.2.2.2.1.trans hls.symm) C.2.2.2.2.1 hlink hnat hstat hini hK hP hD hS q0 q1 t0 t1 ha0 ha1 ht0 ht1 rfl (by decide) (by decide) h3 (by rw [e0, Nat.zero_add]; exact h4) (by rw [e0, Nat.zero_add]; exact h5) (fun _ _ => rfl) hframes hlocals hdg (fun H1 locs1 hP hD hS => kk H1 locs1 ⟨hK, ?_, ?_, hS, hA, hN⟩)
  · rw [e0] at hP; exact hset ▸ hP
  · rw [e0] at hD; exact hset ▸ hD
end COPY
