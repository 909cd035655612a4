set_option maxHeartbeats 4000000 in
set_option maxRecDepth 100000 in
theorem kLX6_lifted_2 {p : Program} {l : Launch} {e : Env} {s : State} {m : MethodId} {args : Array Value} {below : List Frame} {meth : Method} {c : Code} {D : va_G} {ad : Nat → Nat} {cI cL : ClassId} {A : Nat → Prop} (C : Cx p s m args meth c yX6_lifted.cls cX6_lifted 2 none) (K : MS → Prop) (Q : MS → Prop) (hK : ∀ (S : MS) (H : Heap) (locs : List Loc) (ls : Array Slot), K S  → WW D (rtys cI cL) (rw_ ad cI cL S) A s H locs → lv_has ls 2 [] → W p l e { frames := 0, cells := 0, slots := 0, locals := 0 } s m args below meth c H locs 0 0 (Zv D (rtys cI cL) (rw_ ad cI cL) A below args s Q) (F0 m 21 ls [])) : ∀ (n : Nat) (S : MS) (x1 : Int32) (_ : LX6_lifted_2 K Q n S x1) (H : Heap) (locs : List Loc) (ls : Array Slot), WW D (rtys cI cL) (rw_ ad cI cL S) A s H locs → lv_has ls 2 [(0, .ref (ad 0)), (1, .int x1)] → W p l e { frames := 0, cells := 0, slots := 0, locals := 0 } s m args below meth c H locs 0 0 (Zv D (rtys cI cL) (rw_ ad cI cL) A below args s Q) (F0 m 2 ls []) := by
  have hx := C.1
  have hb := C.2.1
  intro n
  induction n with
  | zero => intro S x1 hq; exact absurd hq (by rw [LX6_lifted_2]; exact id)
  | succ n ih =>
    intro S x1 hq H locs ls hw hl
    rw [LX6_lifted_2] at hq
    refine lv_iload_n hx hb dX6_lifted_2 rfl (lv_at hl 1 rfl) ?_
    refine lv_bipush (v := 12) hx hb dX6_lifted_3 (by decide) ?_
    refine lv_icmp_ge (tgt := 21) hx hb dX6_lifted_5 (by decide) (fun hc => ?_) (fun hc => ?_)
    · replace hq := hq.1 hc
      exact hK S  _ _ _ hq hw (lv_sub hl [] rfl)
    · replace hq := hq.2 hc
      refine lv_aload_n hx hb dX6_lifted_8 rfl (lv_at hl 0 rfl) ?_
      refine w_get C hw uw_X6 0 rO rfl 7 (by decide) fl_X6_28 rfl dX6_lifted_9 ?_
      refine lv_iload_n hx hb dX6_lifted_12 rfl (lv_at hl 1 rfl) ?_
      refine lv_iconst (v := 0) hx hb dX6_lifted_13 (by decide) ?_
      obtain ⟨hin, hq⟩ := hq
      obtain ⟨S_1, eS_1⟩ : ∃ z, z = uI S 6 x1.toNatClampNeg 0 := ⟨_, rfl⟩
      replace hq := hq S_1 eS_1
      refine w_ist (ws' := rw_ ad cI cL S_1) C hw 7 0 rI_6 rfl hin dX6_lifted_14 (by rw [eS_1]; exact rIs_6) (fun H locs hw => ?_)
      refine lv_iinc (v := x1 + 1) (lv' := [(1, .int (x1 + 1)), (0, .ref (ad 0))]) hx hb dX6_lifted_15 hl (k := 1) rfl rfl (by decide) rfl (fun ls hl => ?_)
      refine lv_goto (tgt := 2) hx hb dX6_lifted_18 (by decide) ?_
      exact ih S_1 (x1 + 1) hq _ _ _ hw (lv_sub hl [1, 0] rfl)
set_option maxHeartbeats 4000000 in
set_option maxRecDepth 100000 in
theorem mX6_lifted (l : Launch) (D : va_G) (ad : Nat → Nat) (cI cL : ClassId) (S : MS) (Q : MS → Prop) (hq : wX6_lifted S Q) : Mv l yX6_lifted cX6_lifted 2 none { frames := 0, cells := 0, slots := 0, locals := 0 } D (rtys cI cL) (rw_ ad cI cL) [.ref (ad 0)] S Q := by
  refine Mv.of (by decide +kernel) (Nat.le_of_ble_eq_true rfl) ?_
  intro p e s m args below meth c A ls C hw hl
  have hx := C.1
  have hb := C.2.1
  have hl : lv_has ls 2 [(0, .ref (ad 0))] := hl
  have hw : WW D (rtys cI cL) (rw_ ad cI cL S) A s s.heap [] := hw
  unfold wX6_lifted at hq
  refine lv_iconst (v := 0) hx hb dX6_lifted_0 (by decide) ?_
  refine lv_istore_n (lv' := [(1, .int 0), (0, .ref (ad 0))]) hx hb dX6_lifted_1 rfl hl (by decide) rfl (fun ls hl => ?_)
  obtain ⟨n0, hq⟩ := hq
  refine kLX6_lifted_2 C _ Q ?_ n0 S 0 hq _ _ _ hw (lv_sub hl [1, 0] rfl)
  clear hw hl hq
  intro S_1 H locs ls hq hw hl
  exact w_vret C hw hq dX6_lifted_21
set_option maxHeartbeats 4000000 in
set_option maxRecDepth 100000 in
theorem kJX6_plan_204 {p : Program} {l : Launch} {e : Env} {s : State} {m : MethodId} {args : Array Value} {below : List Frame} {meth : Method} {c : Code} {D : va_G} {ad : Nat → Nat} {cI cL : ClassId} {A : Nat → Prop} (C : Cx p s m args meth c yX6_plan.cls cX6_plan 18 (some .int)) (S : MS) (x1 : Int32) (x5 : Int64) (x7 : Int32) (x8 : Int32) (x9 : Int32) (x10 : Int32) (x11 : Int32) (x12 : Int32) (x13 : Int32) (x14 : Int32) (x15 : Int64) (x17 : Int32) (Hd : MS → Int64 → Int32 → Prop) (K : MS → Int64 → Prop) (Q : Int32 → MS → Prop) (hq : JX6_plan_204 S x1 x5 x7 x8 x9 x10 x11 x12 x13 x14 x15 x17 Hd K Q) (H : Heap) (locs : List Loc) (ls : Array Slot) (hw : WW D (rtys cI cL) (rw_ ad cI cL S) A s H locs) (hl : lv_has ls 18 [(0, .ref (ad 0)), (1, .int x1), (5, .long x5), (7, .int x7), (8, .int x8), (9, .int x9), (10, .int x10), (11, .int x11), (12, .int x12), (13, .int x13), (14, .int x14), (15, .long x15), (17, .int x17)]) (hH : ∀ (S : MS) (z15 : Int64) (z17 : Int32) (H : Heap) (locs : List Loc) (ls : Array Slot), Hd S z15 z17 → WW D (rtys cI cL) (rw_ ad cI cL S) A s H locs → lv_has ls 18 [(0, .ref (ad 0)), (1, .int x1), (5, .long x5), (7, .int x7), (8, .int x8), (9, .int x9), (10, .int x10), (11, .int x11), (12, .int x12), (13, .int x13), (14, .int x14), (15, .long z15), (17, .int z17)] → W p l e { frames := 4, cells := 0, slots := 0, locals := 97 } s m args below meth c H locs 0 0 (Zi D (rtys cI cL) (rw_ ad cI cL) A below args s Q) (F0 m 185 ls [])) (hK : ∀ (S : MS) (z15 : Int64) (H : Heap) (locs : List Loc) (ls : Array Slot), K S z15 → WW D (rtys cI cL) (rw_ ad cI cL S) A s H locs → lv_has ls 18 [(0, .ref (ad 0)), (1, .int x1), (5, .long x5), (7, .int x7), (8, .int x8), (9, .int x9), (10, .int x10), (11, .int x11), (12, .int x12), (13, .int x13), (14, .int x14), (15, .long z15)] → W p l e { frames := 4, cells := 0, slots := 0, locals := 97 } s m args below meth c H locs 0 0 (Zi D (rtys cI cL) (rw_ ad cI cL) A below args s Q) (F0 m 222 ls [])) : W p l e { frames := 4, cells := 0, slots := 0, locals := 97 } s m args below meth c H locs 0 0 (Zi D (rtys cI cL) (rw_ ad cI cL) A below args s Q) (F0 m 204 ls []) := by
  have hx := C.1
  have hb := C.2.1
  unfold JX6_plan_204 at hq
  refine lv_lload hx hb dX6_plan_204 (lv_at hl 11 rfl) ?_
  refine lv_aload_n hx hb dX6_plan_206 rfl (lv_at hl 0 rfl) ?_
  refine lv_iload_n hx hb dX6_plan_207 rfl (lv_at hl 1 rfl) ?_
  refine lv_iload hx hb dX6_plan_208 (lv_at hl 12 rfl) ?_
  refine w_calll hw (w_runV (rest := [.long x15]) C hw (mX6_chanceOf l D ad cI cL S x1 x17 _ hq _) kc_X6_chanceOf ml_X6_156 0 rO rfl rfl ⟨rfl, rfl, Nat.le_of_ble_eq_true rfl, Nat.le_of_ble_eq_true rfl⟩ rfl rfl (Nat.le_of_ble_eq_true rfl) hl.1 dX6_plan_210) ?_
  clear hw hq
  intro r_4 S_3 H locs hq hw
  refine lv_ladd hx hb dX6_plan_213 ?_
  refine lv_lstore (lv' := [(15, .long (x15 + r_4)), (0, .ref (ad 0)), (1, .int x1), (5, .long x5), (7, .int x7), (8, .int x8), (9, .int x9), (10, .int x10), (11, .int x11), (12, .int x12), (13, .int x13), (14, .int x14), (17, .int x17)]) hx hb dX6_plan_214 hl (by decide) rfl (fun ls hl => ?_)
  refine lv_iinc (v := x17 + 1) (lv' := [(17, .int (x17 + 1)), (15, .long (x15 + r_4)), (0, .ref (ad 0)), (1, .int x1), (5, .long x5), (7, .int x7), (8, .int x8), (9, .int x9), (10, .int x10), (11, .int x11), (12, .int x12), (13, .int x13), (14, .int x14)]) hx hb dX6_plan_216 hl (k := 12) rfl rfl (by decide) rfl (fun ls hl => ?_)
  refine lv_goto (tgt := 185) hx hb dX6_plan_219 (by decide) ?_
  exact hH S_3 (x15 + r_4) (x17 + 1) _ _ _ hq hw (lv_sub hl [2, 3, 4, 5, 6, 7, 8, 9, 10, 11, 12, 1, 0] rfl)
set_option maxHeartbeats 4000000 in
set_option maxRecDepth 100000 in
theorem kLX6_plan_185 {p : Program} {l : Launch} {e : Env} {s : State} {m : MethodId} {args : Array Value} {below : List Frame} {meth : Method} {c : Code} {D : va_G} {ad : Nat → Nat} {cI cL : ClassId} {A : Nat → Prop} (C : Cx p s m args meth c yX6_plan.cls cX6_plan 18 (some .int)) (x1 : Int32) (x5 : Int64) (x7 : Int32) (x8 : Int32) (x9 : Int32) (x10 : Int32) (x11 : Int32) (x12 : Int32) (x13 : Int32) (x14 : Int32) (K : MS → Int64 → Prop) (Q : Int32 → MS → Prop) (hK : ∀ (S : MS) (z15 : Int64) (H : Heap) (locs : List Loc) (ls : Array Slot), K S z15 → WW D (rtys cI cL) (rw_ ad cI cL S) A s H locs → lv_has ls 18 [(0, .ref (ad 0)), (1, .int x1), (5, .long x5), (7, .int x7), (8, .int x8), (9, .int x9), (10, .int x10), (11, .int x11), (12, .int x12), (13, .int x13), (14, .int x14), (15, .long z15)] → W p l e { frames := 4, cells := 0, slots := 0, locals := 97 } s m args below meth c H locs 0 0 (Zi D (rtys cI cL) (rw_ ad cI cL) A below args s Q) (F0 m 222 ls [])) : ∀ (n : Nat) (S : MS) (x15 : Int64) (x17 : Int32) (_ : LX6_plan_185 x1 x5 x7 x8 x9 x10 x11 x12 x13 x14 K Q n S x15 x17) (H : Heap) (locs : List Loc) (ls : Array Slot), WW D (rtys cI cL) (rw_ ad cI cL S) A s H locs → lv_has ls 18 [(0, .ref (ad 0)), (1, .int x1), (5, .long x5), (7, .int x7), (8, .int x8), (9, .int x9), (10, .int x10), (11, .int x11), (12, .int x12), (13, .int x13), (14, .int x14), (15, .long x15), (17, .int x17)] → W p l e { frames := 4, cells := 0, slots := 0, locals := 97 } s m args below meth c H locs 0 0 (Zi D (rtys cI cL) (rw_ ad cI cL) A below args s Q) (F0 m 185 ls []) := by
  have hx := C.1
  have hb := C.2.1
  intro n
  induction n with
  | zero => intro S x15 x17 hq; exact absurd hq (by rw [LX6_plan_185]; exact id)
  | succ n ih =>
    intro S x15 x17 hq H locs ls hw hl
    rw [LX6_plan_185] at hq
    refine lv_iload hx hb dX6_plan_185 (lv_at hl 12 rfl) ?_
    refine lv_bipush (v := 100) hx hb dX6_plan_187 (by decide) ?_
    refine lv_icmp_ge (tgt := 222) hx hb dX6_plan_189 (by decide) (fun hc => ?_) (fun hc => ?_)
    · replace hq := hq.1 hc
      exact hK S x15 _ _ _ hq hw (lv_sub hl [0, 1, 2, 3, 4, 5, 6, 7, 8, 9, 10, 11] rfl)
    · replace hq := hq.2 hc
      refine lv_iload hx hb dX6_plan_192 (lv_at hl 6 rfl) ?_
      refine lv_if_lt (tgt := 204) hx hb dX6_plan_194 (by decide) (fun hc => ?_) (fun hc => ?_)
      · replace hq := hq.1 hc
        exact kJX6_plan_204 C S x1 x5 x7 x8 x9 x10 x11 x12 x13 x14 x15 x17 _ K Q hq _ _ _ hw (lv_sub hl [0, 1, 2, 3, 4, 5, 6, 7, 8, 9, 10, 11, 12] rfl) (fun S a15 a17 H locs ls hq hw hl => ih S a15 a17 hq H locs ls hw hl) hK
      · replace hq := hq.2 hc
        refine lv_iload hx hb dX6_plan_197 (lv_at hl 10 rfl) ?_
        refine lv_iload hx hb dX6_plan_199 (lv_at hl 6 rfl) ?_
        refine lv_icmp_ge (tgt := 222) hx hb dX6_plan_201 (by decide) (fun hc => ?_) (fun hc => ?_)
        · replace hq := hq.1 hc
          exact hK S x15 _ _ _ hq hw (lv_sub hl [0, 1, 2, 3, 4, 5, 6, 7, 8, 9, 10, 11] rfl)
        · replace hq := hq.2 hc
          exact kJX6_plan_204 C S x1 x5 x7 x8 x9 x10 x11 x12 x13 x14 x15 x17 _ K Q hq _ _ _ hw (lv_sub hl [0, 1, 2, 3, 4, 5, 6, 7, 8, 9, 10, 11, 12] rfl) (fun S a15 a17 H locs ls hq hw hl => ih S a15 a17 hq H locs ls hw hl) hK
set_option maxHeartbeats 4000000 in
set_option maxRecDepth 100000 in
theorem kJX6_plan_250 {p : Program} {l : Launch} {e : Env} {s : State} {m : MethodId} {args : Array Value} {below : List Frame} {meth : Method} {c : Code} {D : va_G} {ad : Nat → Nat} {cI cL : ClassId} {A : Nat → Prop} (C : Cx p s m args meth c yX6_plan.cls cX6_plan 18 (some .int)) (S : MS) (x1 : Int32) (x5 : Int64) (x7 : Int32) (x8 : Int32) (x9 : Int32) (x10 : Int32) (x11 : Int32) (x12 : Int32) (x13 : Int32) (Hd : MS → Int32 → Int32 → Int32 → Prop) (K : MS → Int32 → Int32 → Prop) (Q : Int32 → MS → Prop) (hq : JX6_plan_250 S x1 x5 x7 x8 x9 x10 x11 x12 x13 Hd K Q) (H : Heap) (locs : List Loc) (ls : Array Slot) (hw : WW D (rtys cI cL) (rw_ ad cI cL S) A s H locs) (hl : lv_has ls 18 [(0, .ref (ad 0)), (1, .int x1), (5, .long x5), (7, .int x7), (8, .int x8), (9, .int x9), (10, .int x10), (11, .int x11), (12, .int x12), (13, .int x13)]) (hH : ∀ (S : MS) (z10 : Int32) (z11 : Int32) (z13 : Int32) (H : Heap) (locs : List Loc) (ls : Array Slot), Hd S z10 z11 z13 → WW D (rtys cI cL) (rw_ ad cI cL S) A s H locs → lv_has ls 18 [(0, .ref (ad 0)), (1, .int x1), (5, .long x5), (7, .int x7), (8, .int x8), (9, .int x9), (10, .int z10), (11, .int z11), (12, .int x12), (13, .int z13)] → W p l e { frames := 4, cells := 0, slots := 0, locals := 97 } s m args below meth c H locs 0 0 (Zi D (rtys cI cL) (rw_ ad cI cL) A below args s Q) (F0 m 160 ls [])) (hK : ∀ (S : MS) (z10 : Int32) (z11 : Int32) (H : Heap) (locs : List Loc) (ls : Array Slot), K S z10 z11 → WW D (rtys cI cL) (rw_ ad cI cL S) A s H locs → lv_has ls 18 [(0, .ref (ad 0)), (7, .int x7), (9, .int x9), (10, .int z10), (11, .int z11)] → W p l e { frames := 4, cells := 0, slots := 0, locals := 97 } s m args below meth c H locs 0 0 (Zi D (rtys cI cL) (rw_ ad cI cL) A below args s Q) (F0 m 256 ls [])) : W p l e { frames := 4, cells := 0, slots := 0, locals := 97 } s m args below meth c H locs 0 0 (Zi D (rtys cI cL) (rw_ ad cI cL) A below args s Q) (F0 m 250 ls []) := by
  have hx := C.1
  have hb := C.2.1
  unfold JX6_plan_250 at hq
  refine lv_iinc (v := x13 + 1) (lv' := [(13, .int (x13 + 1)), (0, .ref (ad 0)), (1, .int x1), (5, .long x5), (7, .int x7), (8, .int x8), (9, .int x9), (10, .int x10), (11, .int x11), (12, .int x12)]) hx hb dX6_plan_250 hl (k := 9) rfl rfl (by decide) rfl (fun ls hl => ?_)
  refine lv_goto (tgt := 160) hx hb dX6_plan_253 (by decide) ?_
  exact hH S x10 x11 (x13 + 1) _ _ _ hq hw (lv_sub hl [1, 2, 3, 4, 5, 6, 7, 8, 9, 0] rfl)
set_option maxHeartbeats 4000000 in
set_option maxRecDepth 100000 in
theorem kJX6_plan_234 {p : Program} {l : Launch} {e : Env} {s : State} {m : MethodId} {args : Array Value} {below : List Frame} {meth : Method} {c : Code} {D : va_G} {ad : Nat → Nat} {cI cL : ClassId} {A : Nat → Prop} (C : Cx p s m args meth c yX6_plan.cls cX6_plan 18 (some .int)) (S : MS) (x1 : Int32) (x5 : Int64) (x7 : Int32) (x8 : Int32) (x9 : Int32) (x10 : Int32) (x11 : Int32) (x12 : Int32) (x13 : Int32) (x14 : Int32) (x15 : Int64) (Hd : MS → Int32 → Int32 → Int32 → Prop) (K : MS → Int32 → Int32 → Prop) (Q : Int32 → MS → Prop) (hq : JX6_plan_234 S x1 x5 x7 x8 x9 x10 x11 x12 x13 x14 x15 Hd K Q) (H : Heap) (locs : List Loc) (ls : Array Slot) (hw : WW D (rtys cI cL) (rw_ ad cI cL S) A s H locs) (hl : lv_has ls 18 [(0, .ref (ad 0)), (1, .int x1), (5, .long x5), (7, .int x7), (8, .int x8), (9, .int x9), (10, .int x10), (11, .int x11), (12, .int x12), (13, .int x13), (14, .int x14), (15, .long x15)]) (hH : ∀ (S : MS) (z10 : Int32) (z11 : Int32) (z13 : Int32) (H : Heap) (locs : List Loc) (ls : Array Slot), Hd S z10 z11 z13 → WW D (rtys cI cL) (rw_ ad cI cL S) A s H locs → lv_has ls 18 [(0, .ref (ad 0)), (1, .int x1), (5, .long x5), (7, .int x7), (8, .int x8), (9, .int x9), (10, .int z10), (11, .int z11), (12, .int x12), (13, .int z13)] → W p l e { frames := 4, cells := 0, slots := 0, locals := 97 } s m args below meth c H locs 0 0 (Zi D (rtys cI cL) (rw_ ad cI cL) A below args s Q) (F0 m 160 ls [])) (hK : ∀ (S : MS) (z10 : Int32) (z11 : Int32) (H : Heap) (locs : List Loc) (ls : Array Slot), K S z10 z11 → WW D (rtys cI cL) (rw_ ad cI cL S) A s H locs → lv_has ls 18 [(0, .ref (ad 0)), (7, .int x7), (9, .int x9), (10, .int z10), (11, .int z11)] → W p l e { frames := 4, cells := 0, slots := 0, locals := 97 } s m args below meth c H locs 0 0 (Zi D (rtys cI cL) (rw_ ad cI cL) A below args s Q) (F0 m 256 ls [])) : W p l e { frames := 4, cells := 0, slots := 0, locals := 97 } s m args below meth c H locs 0 0 (Zi D (rtys cI cL) (rw_ ad cI cL) A below args s Q) (F0 m 234 ls []) := by
  have hx := C.1
  have hb := C.2.1
  unfold JX6_plan_234 at hq
  refine lv_lload hx hb dX6_plan_234 (lv_at hl 11 rfl) ?_
  refine lv_lload hx hb dX6_plan_236 (lv_at hl 2 rfl) ?_
  refine W.lcmp hx hb dX6_plan_238 ?_
  refine lv_if_gt (tgt := 250) hx hb dX6_plan_239 (by decide) (fun hc => ?_) (fun hc => ?_)
  · replace hq := hq.1 hc
    exact kJX6_plan_250 C S x1 x5 x7 x8 x9 x10 x11 x12 x13 Hd K Q hq _ _ _ hw (lv_sub hl [0, 1, 2, 3, 4, 5, 6, 7, 8, 9] rfl) hH hK
  · replace hq := hq.2 hc
    refine lv_iload hx hb dX6_plan_242 (lv_at hl 10 rfl) ?_
    refine lv_istore (lv' := [(10, .int x14), (0, .ref (ad 0)), (1, .int x1), (5, .long x5), (7, .int x7), (8, .int x8), (9, .int x9), (11, .int x11), (12, .int x12), (13, .int x13), (14, .int x14), (15, .long x15)]) hx hb dX6_plan_244 hl (by decide) rfl (fun ls hl => ?_)
    refine lv_iload hx hb dX6_plan_246 (lv_at hl 9 rfl) ?_
    refine lv_istore (lv' := [(11, .int x13), (10, .int x14), (0, .ref (ad 0)), (1, .int x1), (5, .long x5), (7, .int x7), (8, .int x8), (9, .int x9), (12, .int x12), (13, .int x13), (14, .int x14), (15, .long x15)]) hx hb dX6_plan_248 hl (by decide) rfl (fun ls hl => ?_)
    exact kJX6_plan_250 C S x1 x5 x7 x8 x9 x14 x13 x12 x13 Hd K Q hq _ _ _ hw (lv_sub hl [2, 3, 4, 5, 6, 7, 1, 0, 8, 9] rfl) hH hK
set_option maxHeartbeats 4000000 in
set_option maxRecDepth 100000 in
theorem kLX6_plan_160 {p : Program} {l : Launch} {e : Env} {s : State} {m : MethodId} {args : Array Value} {below : List Frame} {meth : Method} {c : Code} {D : va_G} {ad : Nat → Nat} {cI cL : ClassId} {A : Nat → Prop} (C : Cx p s m args meth c yX6_plan.cls cX6_plan 18 (some .int)) (x1 : Int32) (x5 : Int64) (x7 : Int32) (x8 : Int32) (x9 : Int32) (x12 : Int32) (K : MS → Int32 → Int32 → Prop) (Q : Int32 → MS → Prop) (hK : ∀ (S : MS) (z10 : Int32) (z11 : Int32) (H : Heap) (locs : List Loc) (ls : Array Slot), K S z10 z11 → WW D (rtys cI cL) (rw_ ad cI cL S) A s H locs → lv_has ls 18 [(0, .ref (ad 0)), (7, .int x7), (9, .int x9), (10, .int z10), (11, .int z11)] → W p l e { frames := 4, cells := 0, slots := 0, locals := 97 } s m args below meth c H locs 0 0 (Zi D (rtys cI cL) (rw_ ad cI cL) A below args s Q) (F0 m 256 ls [])) : ∀ (n : Nat) (S : MS) (x10 : Int32) (x11 : Int32) (x13 : Int32) (_ : LX6_plan_160 x1 x5 x7 x8 x9 x12 K Q n S x10 x11 x13) (H : Heap) (locs : List Loc) (ls : Array Slot), WW D (rtys cI cL) (rw_ ad cI cL S) A s H locs → lv_has ls 18 [(0, .ref (ad 0)), (1, .int x1), (5, .long x5), (7, .int x7), (8, .int x8), (9, .int x9), (10, .int x10), (11, .int x11), (12, .int x12), (13, .int x13)] → W p l e { frames := 4, cells := 0, slots := 0, locals := 97 } s m args below meth c H locs 0 0 (Zi D (rtys cI cL) (rw_ ad cI cL) A below args s Q) (F0 m 160 ls []) := by
  have hx := C.1
  have hb := C.2.1
  intro n
  induction n with
  | zero => intro S x10 x11 x13 hq; exact absurd hq (by rw [LX6_plan_160]; exact id)
  | succ n ih =>
    intro S x10 x11 x13 hq H locs ls hw hl
    rw [LX6_plan_160] at hq
    refine lv_iload hx hb dX6_plan_160 (lv_at hl 9 rfl) ?_
    refine lv_iload hx hb dX6_plan_162 (lv_at hl 8 rfl) ?_
    refine lv_icmp_ge (tgt := 256) hx hb dX6_plan_164 (by decide) (fun hc => ?_) (fun hc => ?_)
    · replace hq := hq.1 hc
      exact hK S x10 x11 _ _ _ hq hw (lv_sub hl [0, 3, 5, 6, 7] rfl)
    · replace hq := hq.2 hc
      refine lv_aload_n hx hb dX6_plan_167 rfl (lv_at hl 0 rfl) ?_
      refine lv_iload hx hb dX6_plan_168 (lv_at hl 4 rfl) ?_
      refine lv_iload hx hb dX6_plan_170 (lv_at hl 5 rfl) ?_
      refine lv_iload hx hb dX6_plan_172 (lv_at hl 9 rfl) ?_
      refine w_calli hw (w_runV (rest := []) C hw (mX6_laid l D ad cI cL S x8 x9 x13 _ hq _) kc_X6_laid ml_X6_175 0 rO rfl rfl ⟨rfl, rfl, Nat.le_of_ble_eq_true rfl, Nat.le_of_ble_eq_true rfl⟩ rfl rfl (Nat.le_of_ble_eq_true rfl) hl.1 dX6_plan_174) ?_
      clear hw hq
      intro r_2 S_1 H locs hq hw
      refine lv_istore (lv' := [(14, .int r_2), (0, .ref (ad 0)), (1, .int x1), (5, .long x5), (7, .int x7), (8, .int x8), (9, .int x9), (10, .int x10), (11, .int x11), (12, .int x12), (13, .int x13)]) hx hb dX6_plan_177 hl (by decide) rfl (fun ls hl => ?_)
      refine lv_lconst (v := 0) hx hb dX6_plan_179 (by decide) ?_
      refine lv_lstore (lv' := [(15, .long 0), (14, .int r_2), (0, .ref (ad 0)), (1, .int x1), (5, .long x5), (7, .int x7), (8, .int x8), (9, .int x9), (10, .int x10), (11, .int x11), (12, .int x12), (13, .int x13)]) hx hb dX6_plan_180 hl (by decide) rfl (fun ls hl => ?_)
      refine lv_iconst (v := 0) hx hb dX6_plan_182 (by decide) ?_
      refine lv_istore (lv' := [(17, .int 0), (15, .long 0), (14, .int r_2), (0, .ref (ad 0)), (1, .int x1), (5, .long x5), (7, .int x7), (8, .int x8), (9, .int x9), (10, .int x10), (11, .int x11), (12, .int x12), (13, .int x13)]) hx hb dX6_plan_183 hl (by decide) rfl (fun ls hl => ?_)
      obtain ⟨n0, hq⟩ := hq
      refine kLX6_plan_185 C x1 x5 x7 x8 x9 x10 x11 x12 x13 r_2 _ Q ?_ n0 S_1 0 0 hq _ _ _ hw (lv_sub hl [3, 4, 5, 6, 7, 8, 9, 10, 11, 12, 2, 1, 0] rfl)
      clear hw hl hq
      intro S_3 y_4 H locs ls hq hw hl
      refine lv_iload hx hb dX6_plan_222 (lv_at hl 6 rfl) ?_
      refine lv_if_lt (tgt := 234) hx hb dX6_plan_224 (by decide) (fun hc => ?_) (fun hc => ?_)
      · replace hq := hq.1 hc
        exact kJX6_plan_234 C S_3 x1 x5 x7 x8 x9 x10 x11 x12 x13 r_2 y_4 _ K Q hq _ _ _ hw (lv_sub hl [0, 1, 2, 3, 4, 5, 6, 7, 8, 9, 10, 11] rfl) (fun S a10 a11 a13 H locs ls hq hw hl => ih S a10 a11 a13 hq H locs ls hw hl) hK
      · replace hq := hq.2 hc
        refine lv_iload hx hb dX6_plan_227 (lv_at hl 10 rfl) ?_
        refine lv_iload hx hb dX6_plan_229 (lv_at hl 6 rfl) ?_
        refine lv_icmp_ge (tgt := 250) hx hb dX6_plan_231 (by decide) (fun hc => ?_) (fun hc => ?_)
        · replace hq := hq.1 hc
          exact kJX6_plan_250 C S_3 x1 x5 x7 x8 x9 x10 x11 x12 x13 _ K Q hq _ _ _ hw (lv_sub hl [0, 1, 2, 3, 4, 5, 6, 7, 8, 9] rfl) (fun S a10 a11 a13 H locs ls hq hw hl => ih S a10 a11 a13 hq H locs ls hw hl) hK
        · replace hq := hq.2 hc
          exact kJX6_plan_234 C S_3 x1 x5 x7 x8 x9 x10 x11 x12 x13 r_2 y_4 _ K Q hq _ _ _ hw (lv_sub hl [0, 1, 2, 3, 4, 5, 6, 7, 8, 9, 10, 11] rfl) (fun S a10 a11 a13 H locs ls hq hw hl => ih S a10 a11 a13 hq H locs ls hw hl) hK
set_option maxHeartbeats 4000000 in
set_option maxRecDepth 100000 in
theorem kLX6_plan_283 {p : Program} {l : Launch} {e : Env} {s : State} {m : MethodId} {args : Array Value} {below : List Frame} {meth : Method} {c : Code} {D : va_G} {ad : Nat → Nat} {cI cL : ClassId} {A : Nat → Prop} (C : Cx p s m args meth c yX6_plan.cls cX6_plan 18 (some .int)) (x9 : Int32) (K : MS → Int32 → Prop) (Q : Int32 → MS → Prop) (hK : ∀ (S : MS) (z13 : Int32) (H : Heap) (locs : List Loc) (ls : Array Slot), K S z13 → WW D (rtys cI cL) (rw_ ad cI cL S) A s H locs → lv_has ls 18 [(13, .int z13)] → W p l e { frames := 4, cells := 0, slots := 0, locals := 97 } s m args below meth c H locs 0 0 (Zi D (rtys cI cL) (rw_ ad cI cL) A below args s Q) (F0 m 313 ls [])) : ∀ (n : Nat) (S : MS) (x13 : Int32) (x14 : Int32) (x15 : Int32) (_ : LX6_plan_283 x9 K Q n S x13 x14 x15) (H : Heap) (locs : List Loc) (ls : Array Slot), WW D (rtys cI cL) (rw_ ad cI cL S) A s H locs → lv_has ls 18 [(9, .int x9), (13, .int x13), (14, .int x14), (15, .int x15)] → W p l e { frames := 4, cells := 0, slots := 0, locals := 97 } s m args below meth c H locs 0 0 (Zi D (rtys cI cL) (rw_ ad cI cL) A below args s Q) (F0 m 283 ls []) := by
  have hx := C.1
  have hb := C.2.1
  intro n
  induction n with
  | zero => intro S x13 x14 x15 hq; exact absurd hq (by rw [LX6_plan_283]; exact id)
  | succ n ih =>
    intro S x13 x14 x15 hq H locs ls hw hl
    rw [LX6_plan_283] at hq
    refine lv_iload hx hb dX6_plan_283 (lv_at hl 3 rfl) ?_
    refine lv_iload hx hb dX6_plan_285 (lv_at hl 0 rfl) ?_
    refine lv_icmp_ge (tgt := 313) hx hb dX6_plan_287 (by decide) (fun hc => ?_) (fun hc => ?_)
    · replace hq := hq.1 hc
      exact hK S x13 _ _ _ hq hw (lv_sub hl [1] rfl)
    · replace hq := hq.2 hc
      refine lv_iconst (v := 3) hx hb dX6_plan_290 (by decide) ?_
      refine lv_iload hx hb dX6_plan_291 (lv_at hl 1 rfl) ?_
      refine lv_imul hx hb dX6_plan_293 ?_
      refine lv_iload hx hb dX6_plan_294 (lv_at hl 2 rfl) ?_
      refine lv_iconst (v := 3) hx hb dX6_plan_296 (by decide) ?_
      refine lv_irem hx hb dX6_plan_297 (by decide) ?_
      refine lv_iadd hx hb dX6_plan_298 ?_
      refine lv_istore (lv' := [(13, .int ((3 * x13) + (x14 - x14 / 3 * 3))), (9, .int x9), (14, .int x14), (15, .int x15)]) hx hb dX6_plan_299 hl (by decide) rfl (fun ls hl => ?_)
      refine lv_iload hx hb dX6_plan_301 (lv_at hl 2 rfl) ?_
      refine lv_iconst (v := 3) hx hb dX6_plan_303 (by decide) ?_
      refine lv_idiv hx hb dX6_plan_304 (by decide) ?_
      refine lv_istore (lv' := [(14, .int (x14 / 3)), (13, .int ((3 * x13) + (x14 - x14 / 3 * 3))), (9, .int x9), (15, .int x15)]) hx hb dX6_plan_305 hl (by decide) rfl (fun ls hl => ?_)
      refine lv_iinc (v := x15 + 1) (lv' := [(15, .int (x15 + 1)), (14, .int (x14 / 3)), (13, .int ((3 * x13) + (x14 - x14 / 3 * 3))), (9, .int x9)]) hx hb dX6_plan_307 hl (k := 3) rfl rfl (by decide) rfl (fun ls hl => ?_)
      refine lv_goto (tgt := 283) hx hb dX6_plan_310 (by decide) ?_
      exact ih S ((3 * x13) + (x14 - x14 / 3 * 3)) (x14 / 3) (x15 + 1) hq _ _ _ hw (lv_sub hl [3, 2, 1, 0] rfl)
set_option maxHeartbeats 4000000 in
set_option maxRecDepth 100000 in
theorem kJX6_plan_155 {p : Program} {l : Launch} {e : Env} {s : State} {m : MethodId} {args : Array Value} {below : List Frame} {meth : Method} {c : Code} {D : va_G} {ad : Nat → Nat} {cI cL : ClassId} {A : Nat → Prop} (C : Cx p s m args meth c yX6_plan.cls cX6_plan 18 (some .int)) (S : MS) (x1 : Int32) (x5 : Int64) (x7 : Int32) (x8 : Int32) (x9 : Int32) (x10 : Int32) (x11 : Int32) (t0 : Int32) (Q : Int32 → MS → Prop) (hq : JX6_plan_155 S x1 x5 x7 x8 x9 x10 x11 t0 Q) (H : Heap) (locs : List Loc) (ls : Array Slot) (hw : WW D (rtys cI cL) (rw_ ad cI cL S) A s H locs) (hl : lv_has ls 18 [(0, .ref (ad 0)), (1, .int x1), (5, .long x5), (7, .int x7), (8, .int x8), (9, .int x9), (10, .int x10), (11, .int x11)]) : W p l e { frames := 4, cells := 0, slots := 0, locals := 97 } s m args below meth c H locs 0 0 (Zi D (rtys cI cL) (rw_ ad cI cL) A below args s Q) (F0 m 155 ls [.int t0]) := by
  have hx := C.1
  have hb := C.2.1
  unfold JX6_plan_155 at hq
  refine lv_istore (lv' := [(12, .int t0), (0, .ref (ad 0)), (1, .int x1), (5, .long x5), (7, .int x7), (8, .int x8), (9, .int x9), (10, .int x10), (11, .int x11)]) hx hb dX6_plan_155 hl (by decide) rfl (fun ls hl => ?_)
  refine lv_iconst (v := 0) hx hb dX6_plan_157 (by decide) ?_
  refine lv_istore (lv' := [(13, .int 0), (12, .int t0), (0, .ref (ad 0)), (1, .int x1), (5, .long x5), (7, .int x7), (8, .int x8), (9, .int x9), (10, .int x10), (11, .int x11)]) hx hb dX6_plan_158 hl (by decide) rfl (fun ls hl => ?_)
  obtain ⟨n0, hq⟩ := hq
  refine kLX6_plan_160 C x1 x5 x7 x8 x9 t0 _ Q ?_ n0 S x10 x11 0 hq _ _ _ hw (lv_sub hl [2, 3, 4, 5, 6, 7, 8, 9, 1, 0] rfl)
  clear hw hl hq
  intro S_8 y_9 y_10 H locs ls hq hw hl
  refine lv_aload_n hx hb dX6_plan_256 rfl (lv_at hl 0 rfl) ?_
  refine w_callv hw (w_runV (rest := []) C hw (mX6_lifted l D ad cI cL S_8 _ hq _) kc_X6_lifted ml_X6_179 0 rO rfl rfl ⟨rfl, rfl, Nat.le_of_ble_eq_true rfl, Nat.le_of_ble_eq_true rfl⟩ rfl rfl (Nat.le_of_ble_eq_true rfl) hl.1 dX6_plan_257) ?_
  clear hw hq
  intro S_11 H locs hq hw
  refine lv_iload hx hb dX6_plan_260 (lv_at hl 1 rfl) ?_
  refine lv_if_eq (tgt := 270) hx hb dX6_plan_262 (by decide) (fun hc => ?_) (fun hc => ?_)
  · replace hq := hq.1 hc
    refine lv_iload hx hb dX6_plan_270 (lv_at hl 3 rfl) ?_
    exact w_iret C hw hq dX6_plan_272
  · replace hq := hq.2 hc
    refine lv_iload hx hb dX6_plan_265 (lv_at hl 4 rfl) ?_
    refine lv_if_ge (tgt := 273) hx hb dX6_plan_267 (by decide) (fun hc => ?_) (fun hc => ?_)
    · replace hq := hq.1 hc
      refine lv_iconst (v := 0) hx hb dX6_plan_273 (by decide) ?_
      refine lv_istore (lv' := [(13, .int 0), (0, .ref (ad 0)), (7, .int x7), (9, .int x9), (10, .int y_9), (11, .int y_10)]) hx hb dX6_plan_274 hl (by decide) rfl (fun ls hl => ?_)
      refine lv_iload hx hb dX6_plan_276 (lv_at hl 5 rfl) ?_
      refine lv_istore (lv' := [(14, .int y_10), (13, .int 0), (0, .ref (ad 0)), (7, .int x7), (9, .int x9), (10, .int y_9), (11, .int y_10)]) hx hb dX6_plan_278 hl (by decide) rfl (fun ls hl => ?_)
      refine lv_iconst (v := 0) hx hb dX6_plan_280 (by decide) ?_
      refine lv_istore (lv' := [(15, .int 0), (14, .int y_10), (13, .int 0), (0, .ref (ad 0)), (7, .int x7), (9, .int x9), (10, .int y_9), (11, .int y_10)]) hx hb dX6_plan_281 hl (by decide) rfl (fun ls hl => ?_)
      obtain ⟨n0, hq⟩ := hq
      refine kLX6_plan_283 C x9 _ Q ?_ n0 S_11 0 y_10 0 hq _ _ _ hw (lv_sub hl [5, 2, 1, 0] rfl)
      clear hw hl hq
      intro S_13 y_14 H locs ls hq hw hl
      refine lv_iload hx hb dX6_plan_313 (lv_at hl 0 rfl) ?_
      exact w_iret C hw hq dX6_plan_315
    · replace hq := hq.2 hc
      refine lv_iload hx hb dX6_plan_270 (lv_at hl 3 rfl) ?_
      exact w_iret C hw hq dX6_plan_272
set_option maxHeartbeats 4000000 in
set_option maxRecDepth 100000 in
theorem mX6_plan (l : Launch) (D : va_G) (ad : Nat → Nat) (cI cL : ClassId) (S : MS) (x1 : Int32) (x2 : Int32) (x3 : Int32) (x4 : Int32) (x5 : Int64) (x7 : Int32) (Q : Int32 → MS → Prop) (hq : wX6_plan S x1 x2 x3 x4 x5 x7 Q) : Mi l yX6_plan cX6_plan 18 (some .int) { frames := 4, cells := 0, slots := 0, locals := 97 } D (rtys cI cL) (rw_ ad cI cL) [.ref (ad 0), .int x1, .int x2, .int x3, .int x4, .long x5, .int x7] S Q := by
  refine Mi.of (by decide +kernel) (Nat.le_of_ble_eq_true rfl) ?_
  intro p e s m args below meth c A ls C hw hl
  have hx := C.1
  have hb := C.2.1
  have hl : lv_has ls 18 [(0, .ref (ad 0)), (1, .int x1), (2, .int x2), (3, .int x3), (4, .int x4), (5, .long x5), (7, .int x7)] := hl
  have hw : WW D (rtys cI cL) (rw_ ad cI cL S) A s s.heap [] := hw
  unfold wX6_plan at hq
  refine lv_aload_n hx hb dX6_plan_0 rfl (lv_at hl 0 rfl) ?_
  refine lv_iload_n hx hb dX6_plan_1 rfl (lv_at hl 1 rfl) ?_
  refine w_calli hw (w_runV (rest := []) C hw (mX6_isVote l D ad cI cL S x1 _ hq _) kc_X6_isVote ml_X6_130 0 rO rfl rfl ⟨rfl, rfl, Nat.le_of_ble_eq_true rfl, Nat.le_of_ble_eq_true rfl⟩ rfl rfl (Nat.le_of_ble_eq_true rfl) hl.1 dX6_plan_2) ?_
  clear hw hq
  intro r_2 S_1 H locs hq hw
  refine lv_if_eq (tgt := 68) hx hb dX6_plan_5 (by decide) (fun hc => ?_) (fun hc => ?_)
  · replace hq := hq.1 hc
    refine lv_iconst (v := (-1)) hx hb dX6_plan_68 (by decide) ?_
    exact w_iret C hw hq dX6_plan_69
  · replace hq := hq.2 hc
    refine lv_iload_n hx hb dX6_plan_8 rfl (lv_at hl 2 rfl) ?_
    refine lv_i2l (v := x2.toInt64) hx hb dX6_plan_9 rfl ?_
    refine lv_lconst (v := 1) hx hb dX6_plan_10 (by decide) ?_
    refine lv_ldc2 hx hb C.2.2.2.2.1 (C.w kk_X6_171 rfl) dX6_plan_11 ?_
    refine w_calli hw (w_runS (rest := []) C hw (mX6_in l D ad cI cL S_1 x2.toInt64 1 100 _ hq _) kc_X6_in ml_X6_78 ⟨rfl, rfl, Nat.le_of_ble_eq_true rfl, Nat.le_of_ble_eq_true rfl⟩ rfl rfl (Nat.le_of_ble_eq_true rfl) hl.1 dX6_plan_14) ?_
    clear hw hq
    intro r_4 S_3 H locs hq hw
    refine lv_if_eq (tgt := 68) hx hb dX6_plan_17 (by decide) (fun hc => ?_) (fun hc => ?_)
    · replace hq := hq.1 hc
      refine lv_iconst (v := (-1)) hx hb dX6_plan_68 (by decide) ?_
      exact w_iret C hw hq dX6_plan_69
    · replace hq := hq.2 hc
      refine lv_iload_n hx hb dX6_plan_20 rfl (lv_at hl 3 rfl) ?_
      refine lv_i2l (v := x3.toInt64) hx hb dX6_plan_21 rfl ?_
      refine lv_lconst (v := 1) hx hb dX6_plan_22 (by decide) ?_
      refine lv_ldc2 hx hb C.2.2.2.2.1 (C.w kk_X6_171 rfl) dX6_plan_23 ?_
      refine w_calli hw (w_runS (rest := []) C hw (mX6_in l D ad cI cL S_3 x3.toInt64 1 100 _ hq _) kc_X6_in ml_X6_78 ⟨rfl, rfl, Nat.le_of_ble_eq_true rfl, Nat.le_of_ble_eq_true rfl⟩ rfl rfl (Nat.le_of_ble_eq_true rfl) hl.1 dX6_plan_26) ?_
      clear hw hq
      intro r_6 S_5 H locs hq hw
      refine lv_if_eq (tgt := 68) hx hb dX6_plan_29 (by decide) (fun hc => ?_) (fun hc => ?_)
      · replace hq := hq.1 hc
        refine lv_iconst (v := (-1)) hx hb dX6_plan_68 (by decide) ?_
        exact w_iret C hw hq dX6_plan_69
      · replace hq := hq.2 hc
        refine lv_iload hx hb dX6_plan_32 (lv_at hl 4 rfl) ?_
        refine lv_i2l (v := x4.toInt64) hx hb dX6_plan_34 rfl ?_
        refine lv_lconst (v := 1) hx hb dX6_plan_35 (by decide) ?_
        refine lv_ldc2 hx hb C.2.2.2.2.1 (C.w kk_X6_171 rfl) dX6_plan_36 ?_
        refine w_calli hw (w_runS (rest := []) C hw (mX6_in l D ad cI cL S_5 x4.toInt64 1 100 _ hq _) kc_X6_in ml_X6_78 ⟨rfl, rfl, Nat.le_of_ble_eq_true rfl, Nat.le_of_ble_eq_true rfl⟩ rfl rfl (Nat.le_of_ble_eq_true rfl) hl.1 dX6_plan_39) ?_
        clear hw hq
        intro r_8 S_7 H locs hq hw
        refine lv_if_eq (tgt := 68) hx hb dX6_plan_42 (by decide) (fun hc => ?_) (fun hc => ?_)
        · replace hq := hq.1 hc
          refine lv_iconst (v := (-1)) hx hb dX6_plan_68 (by decide) ?_
          exact w_iret C hw hq dX6_plan_69
        · replace hq := hq.2 hc
          refine lv_lload hx hb dX6_plan_45 (lv_at hl 5 rfl) ?_
          refine lv_lconst (v := 0) hx hb dX6_plan_47 (by decide) ?_
          refine lv_ldc2 hx hb C.2.2.2.2.1 (C.w kk_X6_173 rfl) dX6_plan_48 ?_
          refine w_calli hw (w_runS (rest := []) C hw (mX6_in l D ad cI cL S_7 x5 0 28147497671065600 _ hq _) kc_X6_in ml_X6_78 ⟨rfl, rfl, Nat.le_of_ble_eq_true rfl, Nat.le_of_ble_eq_true rfl⟩ rfl rfl (Nat.le_of_ble_eq_true rfl) hl.1 dX6_plan_51) ?_
          clear hw hq
          intro r_10 S_9 H locs hq hw
          refine lv_if_eq (tgt := 68) hx hb dX6_plan_54 (by decide) (fun hc => ?_) (fun hc => ?_)
          · replace hq := hq.1 hc
            refine lv_iconst (v := (-1)) hx hb dX6_plan_68 (by decide) ?_
            exact w_iret C hw hq dX6_plan_69
          · replace hq := hq.2 hc
            refine lv_iload hx hb dX6_plan_57 (lv_at hl 6 rfl) ?_
            refine lv_i2l (v := x7.toInt64) hx hb dX6_plan_59 rfl ?_
            refine lv_lconst (v := 0) hx hb dX6_plan_60 (by decide) ?_
            refine lv_lconst (v := 1) hx hb dX6_plan_61 (by decide) ?_
            refine w_calli hw (w_runS (rest := []) C hw (mX6_in l D ad cI cL S_9 x7.toInt64 0 1 _ hq _) kc_X6_in ml_X6_78 ⟨rfl, rfl, Nat.le_of_ble_eq_true rfl, Nat.le_of_ble_eq_true rfl⟩ rfl rfl (Nat.le_of_ble_eq_true rfl) hl.1 dX6_plan_62) ?_
            clear hw hq
            intro r_12 S_11 H locs hq hw
            refine lv_if_ne (tgt := 70) hx hb dX6_plan_65 (by decide) (fun hc => ?_) (fun hc => ?_)
            · replace hq := hq.2 hc
              refine lv_aload_n hx hb dX6_plan_70 rfl (lv_at hl 0 rfl) ?_
              refine lv_iload_n hx hb dX6_plan_71 rfl (lv_at hl 1 rfl) ?_
              refine w_calli hw (w_runV (rest := []) C hw (mX6_partsOf l D ad cI cL S_11 x1 _ hq _) kc_X6_partsOf ml_X6_124 0 rO rfl rfl ⟨rfl, rfl, Nat.le_of_ble_eq_true rfl, Nat.le_of_ble_eq_true rfl⟩ rfl rfl (Nat.le_of_ble_eq_true rfl) hl.1 dX6_plan_72) ?_
              clear hw hq
              intro r_14 S_13 H locs hq hw
              refine lv_istore (lv' := [(8, .int r_14), (0, .ref (ad 0)), (1, .int x1), (2, .int x2), (3, .int x3), (4, .int x4), (5, .long x5), (7, .int x7)]) hx hb dX6_plan_75 hl (by decide) rfl (fun ls hl => ?_)
              refine lv_iload hx hb dX6_plan_77 (lv_at hl 0 rfl) ?_
              refine w_calli hw (w_runS (rest := []) C hw (mX6_bits l D ad cI cL S_13 r_14 _ hq _) kc_X6_bits ml_X6_106 ⟨rfl, rfl, Nat.le_of_ble_eq_true rfl, Nat.le_of_ble_eq_true rfl⟩ rfl rfl (Nat.le_of_ble_eq_true rfl) hl.1 dX6_plan_79) ?_
              clear hw hq
              intro r_16 S_15 H locs hq hw
              refine lv_istore (lv' := [(9, .int r_16), (8, .int r_14), (0, .ref (ad 0)), (1, .int x1), (2, .int x2), (3, .int x3), (4, .int x4), (5, .long x5), (7, .int x7)]) hx hb dX6_plan_82 hl (by decide) rfl (fun ls hl => ?_)
              refine lv_iload hx hb dX6_plan_84 (lv_at hl 0 rfl) ?_
              refine lv_iconst (v := 3) hx hb dX6_plan_86 (by decide) ?_
              refine lv_icmp_gt (tgt := 100) hx hb dX6_plan_87 (by decide) (fun hc => ?_) (fun hc => ?_)
              · replace hq := hq.1 hc
                refine lv_bipush (v := (-2)) hx hb dX6_plan_100 (by decide) ?_
                exact w_iret C hw hq dX6_plan_102
              · replace hq := hq.2 hc
                refine lv_aload_n hx hb dX6_plan_90 rfl (lv_at hl 2 rfl) ?_
                refine lv_iload_n hx hb dX6_plan_91 rfl (lv_at hl 3 rfl) ?_
                refine w_calli hw (w_runV (rest := []) C hw (mX6_eventsOf l D ad cI cL S_15 x1 _ hq _) kc_X6_eventsOf ml_X6_135 0 rO rfl rfl ⟨rfl, rfl, Nat.le_of_ble_eq_true rfl, Nat.le_of_ble_eq_true rfl⟩ rfl rfl (Nat.le_of_ble_eq_true rfl) hl.1 dX6_plan_92) ?_
                clear hw hq
                intro r_18 S_17 H locs hq hw
                refine lv_bipush (v := 8) hx hb dX6_plan_95 (by decide) ?_
                refine lv_icmp_le (tgt := 103) hx hb dX6_plan_97 (by decide) (fun hc => ?_) (fun hc => ?_)
                · replace hq := hq.1 hc
                  refine lv_aload_n hx hb dX6_plan_103 rfl (lv_at hl 2 rfl) ?_
                  refine w_get C hw uw_X6 0 rO rfl 25 (by decide) fl_X6_71 rfl dX6_plan_104 ?_
                  refine lv_iconst (v := 0) hx hb dX6_plan_107 (by decide) ?_
                  refine lv_iload_n hx hb dX6_plan_108 rfl (lv_at hl 4 rfl) ?_
                  obtain ⟨hin, hq⟩ := hq
                  obtain ⟨S_19, eS_19⟩ : ∃ z, z = uI S_17 19 (0 : Int32).toNatClampNeg x2 := ⟨_, rfl⟩
                  replace hq := hq S_19 eS_19
                  refine w_ist (ws' := rw_ ad cI cL S_19) C hw 20 0 rI_19 rfl hin dX6_plan_109 (by rw [eS_19]; exact rIs_19) (fun H locs hw => ?_)
                  refine lv_aload_n hx hb dX6_plan_110 rfl (lv_at hl 2 rfl) ?_
                  refine w_get C hw uw_X6 0 rO rfl 25 (by decide) fl_X6_71 rfl dX6_plan_111 ?_
                  refine lv_iconst (v := 1) hx hb dX6_plan_114 (by decide) ?_
                  refine lv_iload_n hx hb dX6_plan_115 rfl (lv_at hl 5 rfl) ?_
                  obtain ⟨hin, hq⟩ := hq
                  obtain ⟨S_20, eS_20⟩ : ∃ z, z = uI S_19 19 (1 : Int32).toNatClampNeg x3 := ⟨_, rfl⟩
                  replace hq := hq S_20 eS_20
                  refine w_ist (ws' := rw_ ad cI cL S_20) C hw 20 0 rI_19 rfl hin dX6_plan_116 (by rw [eS_20]; exact rIs_19) (fun H locs hw => ?_)
                  refine lv_aload_n hx hb dX6_plan_117 rfl (lv_at hl 2 rfl) ?_
                  refine w_get C hw uw_X6 0 rO rfl 25 (by decide) fl_X6_71 rfl dX6_plan_118 ?_
                  refine lv_iconst (v := 2) hx hb dX6_plan_121 (by decide) ?_
                  refine lv_iload hx hb dX6_plan_122 (lv_at hl 6 rfl) ?_
                  obtain ⟨hin, hq⟩ := hq
                  obtain ⟨S_21, eS_21⟩ : ∃ z, z = uI S_20 19 (2 : Int32).toNatClampNeg x4 := ⟨_, rfl⟩
                  replace hq := hq S_21 eS_21
                  refine w_ist (ws' := rw_ ad cI cL S_21) C hw 20 0 rI_19 rfl hin dX6_plan_124 (by rw [eS_21]; exact rIs_19) (fun H locs hw => ?_)
                  refine lv_bipush (v := (-4)) hx hb dX6_plan_125 (by decide) ?_
                  refine lv_istore (lv' := [(10, .int (-4)), (9, .int r_16), (8, .int r_14), (0, .ref (ad 0)), (1, .int x1), (2, .int x2), (3, .int x3), (4, .int x4), (5, .long x5), (7, .int x7)]) hx hb dX6_plan_127 hl (by decide) rfl (fun ls hl => ?_)
                  refine lv_iconst (v := (-1)) hx hb dX6_plan_129 (by decide) ?_
                  refine lv_istore (lv' := [(11, .int (-1)), (10, .int (-4)), (9, .int r_16), (8, .int r_14), (0, .ref (ad 0)), (1, .int x1), (2, .int x2), (3, .int x3), (4, .int x4), (5, .long x5), (7, .int x7)]) hx hb dX6_plan_130 hl (by decide) rfl (fun ls hl => ?_)
                  refine lv_iload hx hb dX6_plan_132 (lv_at hl 2 rfl) ?_
                  refine lv_iconst (v := 1) hx hb dX6_plan_134 (by decide) ?_
                  refine lv_icmp_ne (tgt := 142) hx hb dX6_plan_135 (by decide) (fun hc => ?_) (fun hc => ?_)
                  · replace hq := hq.2 hc
                    refine lv_iload hx hb dX6_plan_142 (lv_at hl 2 rfl) ?_
                    refine lv_iconst (v := 2) hx hb dX6_plan_144 (by decide) ?_
                    refine lv_icmp_ne (tgt := 153) hx hb dX6_plan_145 (by decide) (fun hc => ?_) (fun hc => ?_)
                    · replace hq := hq.2 hc
                      refine lv_bipush (v := 27) hx hb dX6_plan_153 (by decide) ?_
                      exact kJX6_plan_155 C S_21 x1 x5 x7 r_14 r_16 (-4) (-1) 27 Q hq _ _ _ hw (lv_sub hl [4, 5, 9, 10, 3, 2, 1, 0] rfl)
                    · replace hq := hq.1 hc
                      refine lv_bipush (v := 9) hx hb dX6_plan_148 (by decide) ?_
                      refine lv_goto (tgt := 155) hx hb dX6_plan_150 (by decide) ?_
                      exact kJX6_plan_155 C S_21 x1 x5 x7 r_14 r_16 (-4) (-1) 9 Q hq _ _ _ hw (lv_sub hl [4, 5, 9, 10, 3, 2, 1, 0] rfl)
                  · replace hq := hq.1 hc
                    refine lv_iconst (v := 3) hx hb dX6_plan_138 (by decide) ?_
                    refine lv_goto (tgt := 155) hx hb dX6_plan_139 (by decide) ?_
                    exact kJX6_plan_155 C S_21 x1 x5 x7 r_14 r_16 (-4) (-1) 3 Q hq _ _ _ hw (lv_sub hl [4, 5, 9, 10, 3, 2, 1, 0] rfl)
                · replace hq := hq.2 hc
                  refine lv_bipush (v := (-2)) hx hb dX6_plan_100 (by decide) ?_
                  exact w_iret C hw hq dX6_plan_102
            · replace hq := hq.1 hc
              refine lv_iconst (v := (-1)) hx hb dX6_plan_68 (by decide) ?_
              exact w_iret C hw hq dX6_plan_69
set_option maxHeartbeats 4000000 in
set_option maxRecDepth 100000 in
theorem kLX6_count_4 {p : Program} {l : Launch} {e : Env} {s : State} {m : MethodId} {args : Array Value} {below : List Frame} {meth : Method} {c : Code} {D : va_G} {ad : Nat → Nat} {cI cL : ClassId} {A : Nat → Prop} (C : Cx p s m args meth c yX6_count.cls cX6_count 4 (some .int)) (x1 : Int32) (K : MS → Int32 → Prop) (Q : Int32 → MS → Prop) (hK : ∀ (S : MS) (z2 : Int32) (H : Heap) (locs : List Loc) (ls : Array Slot), K S z2 → WW D (rtys cI cL) (rw_ ad cI cL S) A s H locs → lv_has ls 4 [(0, .ref (ad 0)), (1, .int x1), (2, .int z2)] → W p l e { frames := 0, cells := 0, slots := 0, locals := 0 } s m args below meth c H locs 0 0 (Zi D (rtys cI cL) (rw_ ad cI cL) A below args s Q) (F0 m 25 ls [])) : ∀ (n : Nat) (S : MS) (x2 : Int32) (x3 : Int32) (_ : LX6_count_4 x1 K Q n S x2 x3) (H : Heap) (locs : List Loc) (ls : Array Slot), WW D (rtys cI cL) (rw_ ad cI cL S) A s H locs → lv_has ls 4 [(0, .ref (ad 0)), (1, .int x1), (2, .int x2), (3, .int x3)] → W p l e { frames := 0, cells := 0, slots := 0, locals := 0 } s m args below meth c H locs 0 0 (Zi D (rtys cI cL) (rw_ ad cI cL) A below args s Q) (F0 m 4 ls []) := by
  have hx := C.1
  have hb := C.2.1
  intro n
  induction n with
  | zero => intro S x2 x3 hq; exact absurd hq (by rw [LX6_count_4]; exact id)
  | succ n ih =>
    intro S x2 x3 hq H locs ls hw hl
    rw [LX6_count_4] at hq
    refine lv_iload_n hx hb dX6_count_4 rfl (lv_at hl 3 rfl) ?_
    refine lv_bipush (v := 12) hx hb dX6_count_5 (by decide) ?_
    refine lv_icmp_ge (tgt := 25) hx hb dX6_count_7 (by decide) (fun hc => ?_) (fun hc => ?_)
    · replace hq := hq.1 hc
      exact hK S x2 _ _ _ hq hw (lv_sub hl [0, 1, 2] rfl)
    · replace hq := hq.2 hc
      refine lv_iload_n hx hb dX6_count_10 rfl (lv_at hl 2 rfl) ?_
      refine lv_aload_n hx hb dX6_count_11 rfl (lv_at hl 0 rfl) ?_
      refine w_get C hw uw_X6 0 rO rfl 5 (by decide) fl_X6_22 rfl dX6_count_12 ?_
      refine lv_iload_n hx hb dX6_count_15 rfl (lv_at hl 3 rfl) ?_
      obtain ⟨hin, hq⟩ := hq
      refine w_ild C hw 5 0 rI_4 rfl hin dX6_count_16 ?_
      refine lv_iadd hx hb dX6_count_17 ?_
      refine lv_istore_n (lv' := [(2, .int (x2 + (S.1 4 x3.toNatClampNeg))), (0, .ref (ad 0)), (1, .int x1), (3, .int x3)]) hx hb dX6_count_18 rfl hl (by decide) rfl (fun ls hl => ?_)
      refine lv_iinc (v := x3 + 1) (lv' := [(3, .int (x3 + 1)), (2, .int (x2 + (S.1 4 x3.toNatClampNeg))), (0, .ref (ad 0)), (1, .int x1)]) hx hb dX6_count_19 hl (k := 3) rfl rfl (by decide) rfl (fun ls hl => ?_)
      refine lv_goto (tgt := 4) hx hb dX6_count_22 (by decide) ?_
      exact ih S (x2 + (S.1 4 x3.toNatClampNeg)) (x3 + 1) hq _ _ _ hw (lv_sub hl [2, 3, 1, 0] rfl)
set_option maxHeartbeats 4000000 in
set_option maxRecDepth 100000 in
theorem mX6_count (l : Launch) (D : va_G) (ad : Nat → Nat) (cI cL : ClassId) (S : MS) (x1 : Int32) (Q : Int32 → MS → Prop) (hq : wX6_count S x1 Q) : Mi l yX6_count cX6_count 4 (some .int) { frames := 0, cells := 0, slots := 0, locals := 0 } D (rtys cI cL) (rw_ ad cI cL) [.ref (ad 0), .int x1] S Q := by
  refine Mi.of (by decide +kernel) (Nat.le_of_ble_eq_true rfl) ?_
  intro p e s m args below meth c A ls C hw hl
  have hx := C.1
  have hb := C.2.1
  have hl : lv_has ls 4 [(0, .ref (ad 0)), (1, .int x1)] := hl
  have hw : WW D (rtys cI cL) (rw_ ad cI cL S) A s s.heap [] := hw
  unfold wX6_count at hq
  refine lv_iconst (v := 0) hx hb dX6_count_0 (by decide) ?_
  refine lv_istore_n (lv' := [(2, .int 0), (0, .ref (ad 0)), (1, .int x1)]) hx hb dX6_count_1 rfl hl (by decide) rfl (fun ls hl => ?_)
  refine lv_iconst (v := 0) hx hb dX6_count_2 (by decide) ?_
  refine lv_istore_n (lv' := [(3, .int 0), (2, .int 0), (0, .ref (ad 0)), (1, .int x1)]) hx hb dX6_count_3 rfl hl (by decide) rfl (fun ls hl => ?_)
  obtain ⟨n0, hq⟩ := hq
  refine kLX6_count_4 C x1 _ Q ?_ n0 S 0 0 hq _ _ _ hw (lv_sub hl [2, 3, 1, 0] rfl)
  clear hw hl hq
  intro S_1 y_2 H locs ls hq hw hl
  refine lv_iload_n hx hb dX6_count_25 rfl (lv_at hl 1 rfl) ?_
  by_cases hc0 : x1 = 0
  · replace hq := hq.1 hc0
    refine lv_tableIn (tgt := 60) (off := 34) hx hb dX6_count_26 (by rw [hc0]; decide) (by rw [hc0]; decide) (by rw [hc0]; rfl) (by decide) ?_
    refine lv_aload_n hx hb dX6_count_60 rfl (lv_at hl 0 rfl) ?_
    refine w_get C hw uw_X6 0 rO rfl 0 (by decide) fl_X6_74 rfl dX6_count_61 ?_
    exact w_iret C hw hq dX6_count_64
  by_cases hc1 : x1 = 1
  · replace hq := hq.2.1 hc1
    refine lv_tableIn (tgt := 65) (off := 39) hx hb dX6_count_26 (by rw [hc1]; decide) (by rw [hc1]; decide) (by rw [hc1]; rfl) (by decide) ?_
    refine lv_iload_n hx hb dX6_count_65 rfl (lv_at hl 2 rfl) ?_
    exact w_iret C hw hq dX6_count_66
  by_cases hc2 : x1 = 2
  · replace hq := hq.2.2.1 hc2
    refine lv_tableIn (tgt := 67) (off := 41) hx hb dX6_count_26 (by rw [hc2]; decide) (by rw [hc2]; decide) (by rw [hc2]; rfl) (by decide) ?_
    refine lv_aload_n hx hb dX6_count_67 rfl (lv_at hl 0 rfl) ?_
    refine w_get C hw uw_X6 0 rO rfl 9 (by decide) fl_X6_100 rfl dX6_count_68 ?_
    exact w_iret C hw hq dX6_count_71
  by_cases hc3 : x1 = 3
  · replace hq := hq.2.2.2.1 hc3
    refine lv_tableIn (tgt := 72) (off := 46) hx hb dX6_count_26 (by rw [hc3]; decide) (by rw [hc3]; decide) (by rw [hc3]; rfl) (by decide) ?_
    refine lv_aload_n hx hb dX6_count_72 rfl (lv_at hl 0 rfl) ?_
    refine w_get C hw uw_X6 0 rO rfl 13 (by decide) fl_X6_110 rfl dX6_count_73 ?_
    exact w_iret C hw hq dX6_count_76
  by_cases hc4 : x1 = 4
  · replace hq := hq.2.2.2.2.1 hc4
    refine lv_tableIn (tgt := 77) (off := 51) hx hb dX6_count_26 (by rw [hc4]; decide) (by rw [hc4]; decide) (by rw [hc4]; rfl) (by decide) ?_
    refine lv_aload_n hx hb dX6_count_77 rfl (lv_at hl 0 rfl) ?_
    refine w_get C hw uw_X6 0 rO rfl 16 (by decide) fl_X6_82 rfl dX6_count_78 ?_
    exact w_iret C hw hq dX6_count_81
  replace hq := hq.2.2.2.2.2 hc0 hc1 hc2 hc3 hc4
  refine lv_tableOut (tgt := 82) hx hb dX6_count_26 (by have g0 := lv_neT (a := 0) hc0 (by decide); have g1 := lv_neT (a := 1) hc1 (by decide); have g2 := lv_neT (a := 2) hc2 (by decide); have g3 := lv_neT (a := 3) hc3 (by decide); have g4 := lv_neT (a := 4) hc4 (by decide); omega) (by decide) ?_
  refine lv_iconst (v := (-1)) hx hb dX6_count_82 (by decide) ?_
  exact w_iret C hw hq dX6_count_83
