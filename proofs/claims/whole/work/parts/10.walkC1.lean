set_option maxHeartbeats 4000000 in
set_option maxRecDepth 100000 in
theorem kLX1_takeSharesOn_2 {p : Program} {l : Launch} {e : Env} {s : State} {m : MethodId} {args : Array Value} {below : List Frame} {meth : Method} {c : Code} {D : va_G} {ad : Nat → Nat} {cI cL : ClassId} {A : Nat → Prop} (C : Cx p s m args meth c yX1_takeSharesOn.cls cX1_takeSharesOn 3 none) (x1 : Int32) (K : MS → Prop) (Q : MS → Prop) (hK : ∀ (S : MS) (H : Heap) (locs : List Loc) (ls : Array Slot), K S  → WW D (ctys cI cL) (cw ad cI cL S) A s H locs → lv_has ls 3 [] → W p l e { frames := 3, cells := 0, slots := 0, locals := 60 } s m args below meth c H locs 0 0 (Zv D (ctys cI cL) (cw ad cI cL) A below args s Q) (F0 m 36 ls [])) : ∀ (n : Nat) (S : MS) (x2 : Int32) (_ : LX1_takeSharesOn_2 x1 K Q n S x2) (H : Heap) (locs : List Loc) (ls : Array Slot), WW D (ctys cI cL) (cw ad cI cL S) A s H locs → lv_has ls 3 [(0, .ref (ad 4)), (1, .int x1), (2, .int x2)] → W p l e { frames := 3, cells := 0, slots := 0, locals := 60 } s m args below meth c H locs 0 0 (Zv D (ctys cI cL) (cw ad cI cL) A below args s Q) (F0 m 2 ls []) := by
  have hx := C.1
  have hb := C.2.1
  intro n
  induction n with
  | zero => intro S x2 hq; exact absurd hq (by rw [LX1_takeSharesOn_2]; exact id)
  | succ n ih =>
    intro S x2 hq H locs ls hw hl
    rw [LX1_takeSharesOn_2] at hq
    refine lv_iload_n hx hb dX1_takeSharesOn_2 rfl (lv_at hl 2 rfl) ?_
    refine lv_aload_n hx hb dX1_takeSharesOn_3 rfl (lv_at hl 0 rfl) ?_
    refine w_get C hw uw_X1 4 cO_X1 rfl 7 (by decide) fl_X1_25 rfl dX1_takeSharesOn_4 ?_
    refine lv_icmp_ge (tgt := 36) hx hb dX1_takeSharesOn_7 (by decide) (fun hc => ?_) (fun hc => ?_)
    · replace hq := hq.1 hc
      exact hK S  _ _ _ hq hw (lv_sub hl [] rfl)
    · replace hq := hq.2 hc
      refine lv_aload_n hx hb dX1_takeSharesOn_10 rfl (lv_at hl 0 rfl) ?_
      refine w_get C hw uw_X1 4 cO_X1 rfl 6 (by decide) fl_X1_22 rfl dX1_takeSharesOn_11 ?_
      refine lv_iload_n hx hb dX1_takeSharesOn_14 rfl (lv_at hl 2 rfl) ?_
      refine lv_aload_n hx hb dX1_takeSharesOn_15 rfl (lv_at hl 0 rfl) ?_
      refine w_get C hw uw_X1 4 cO_X1 rfl 0 (by decide) fl_X1_32 rfl dX1_takeSharesOn_16 ?_
      refine lv_aload_n hx hb dX1_takeSharesOn_19 rfl (lv_at hl 0 rfl) ?_
      refine w_get C hw uw_X1 4 cO_X1 rfl 5 (by decide) fl_X1_18 rfl dX1_takeSharesOn_20 ?_
      refine lv_iload_n hx hb dX1_takeSharesOn_23 rfl (lv_at hl 2 rfl) ?_
      obtain ⟨hin, hq⟩ := hq
      refine w_ild C hw 18 0 cI_12 rfl hin dX1_takeSharesOn_24 ?_
      refine lv_iload_n hx hb dX1_takeSharesOn_25 rfl (lv_at hl 1 rfl) ?_
      refine w_calli hw (w_runV (rest := [.int x2, .ref (ad 19)]) C hw (mX2_shareOn l D ad cI cL S (S.1 12 x2.toNatClampNeg) x1 _ hq _) kc_X2_shareOn ml_X1_121 1 cO_X2 rfl rfl ⟨rfl, rfl, Nat.le_of_ble_eq_true rfl, Nat.le_of_ble_eq_true rfl⟩ rfl rfl (Nat.le_of_ble_eq_true rfl) hl.1 dX1_takeSharesOn_26) ?_
      clear hw hq
      intro r_2 S_1 H locs hq hw
      obtain ⟨hin, hq⟩ := hq
      obtain ⟨S_3, eS_3⟩ : ∃ z, z = uI S_1 13 x2.toNatClampNeg r_2 := ⟨_, rfl⟩
      replace hq := hq S_3 eS_3
      refine w_ist (ws' := cw ad cI cL S_3) C hw 19 0 cI_13 rfl hin dX1_takeSharesOn_29 (by rw [eS_3]; exact cIs_13) (fun H locs hw => ?_)
      refine lv_iinc (v := x2 + 1) (lv' := [(2, .int (x2 + 1)), (0, .ref (ad 4)), (1, .int x1)]) hx hb dX1_takeSharesOn_30 hl (k := 2) rfl rfl (by decide) rfl (fun ls hl => ?_)
      refine lv_goto (tgt := 2) hx hb dX1_takeSharesOn_33 (by decide) ?_
      exact ih S_3 (x2 + 1) hq _ _ _ hw (lv_sub hl [1, 2, 0] rfl)
set_option maxHeartbeats 4000000 in
set_option maxRecDepth 100000 in
theorem mX1_takeSharesOn (l : Launch) (D : va_G) (ad : Nat → Nat) (cI cL : ClassId) (S : MS) (x1 : Int32) (Q : MS → Prop) (hq : wX1_takeSharesOn S x1 Q) : Mv l yX1_takeSharesOn cX1_takeSharesOn 3 none { frames := 3, cells := 0, slots := 0, locals := 60 } D (ctys cI cL) (cw ad cI cL) [.ref (ad 4), .int x1] S Q := by
  refine Mv.of (by decide +kernel) (Nat.le_of_ble_eq_true rfl) ?_
  intro p e s m args below meth c A ls C hw hl
  have hx := C.1
  have hb := C.2.1
  have hl : lv_has ls 3 [(0, .ref (ad 4)), (1, .int x1)] := hl
  have hw : WW D (ctys cI cL) (cw ad cI cL S) A s s.heap [] := hw
  unfold wX1_takeSharesOn at hq
  refine lv_iconst (v := 0) hx hb dX1_takeSharesOn_0 (by decide) ?_
  refine lv_istore_n (lv' := [(2, .int 0), (0, .ref (ad 4)), (1, .int x1)]) hx hb dX1_takeSharesOn_1 rfl hl (by decide) rfl (fun ls hl => ?_)
  obtain ⟨n0, hq⟩ := hq
  refine kLX1_takeSharesOn_2 C x1 _ Q ?_ n0 S 0 hq _ _ _ hw (lv_sub hl [1, 2, 0] rfl)
  clear hw hl hq
  intro S_1 H locs ls hq hw hl
  exact w_vret C hw hq dX1_takeSharesOn_36
set_option maxHeartbeats 4000000 in
set_option maxRecDepth 100000 in
theorem kLX1_sum_45 {p : Program} {l : Launch} {e : Env} {s : State} {m : MethodId} {args : Array Value} {below : List Frame} {meth : Method} {c : Code} {D : va_G} {ad : Nat → Nat} {cI cL : ClassId} {A : Nat → Prop} (C : Cx p s m args meth c yX1_sum.cls cX1_sum 6 (some .long)) (x1 : Int32) (x2 : Int32) (x3 : Int64) (K : MS → Prop) (Q : Int64 → MS → Prop) (hK : ∀ (S : MS) (H : Heap) (locs : List Loc) (ls : Array Slot), K S  → WW D (ctys cI cL) (cw ad cI cL S) A s H locs → lv_has ls 6 [(0, .ref (ad 4)), (1, .int x1)] → W p l e { frames := 1, cells := 0, slots := 0, locals := 18 } s m args below meth c H locs 0 0 (Zl D (ctys cI cL) (cw ad cI cL) A below args s Q) (F0 m 89 ls [])) : ∀ (n : Nat) (S : MS) (x5 : Int32) (_ : LX1_sum_45 x1 x2 x3 K Q n S x5) (H : Heap) (locs : List Loc) (ls : Array Slot), WW D (ctys cI cL) (cw ad cI cL S) A s H locs → lv_has ls 6 [(0, .ref (ad 4)), (1, .int x1), (2, .int x2), (3, .long x3), (5, .int x5)] → W p l e { frames := 1, cells := 0, slots := 0, locals := 18 } s m args below meth c H locs 0 0 (Zl D (ctys cI cL) (cw ad cI cL) A below args s Q) (F0 m 45 ls []) := by
  have hx := C.1
  have hb := C.2.1
  intro n
  induction n with
  | zero => intro S x5 hq; exact absurd hq (by rw [LX1_sum_45]; exact id)
  | succ n ih =>
    intro S x5 hq H locs ls hw hl
    rw [LX1_sum_45] at hq
    refine lv_iload hx hb dX1_sum_45 (lv_at hl 4 rfl) ?_
    refine lv_iload_n hx hb dX1_sum_47 rfl (lv_at hl 2 rfl) ?_
    refine lv_icmp_ge (tgt := 89) hx hb dX1_sum_48 (by decide) (fun hc => ?_) (fun hc => ?_)
    · replace hq := hq.1 hc
      exact hK S  _ _ _ hq hw (lv_sub hl [0, 1] rfl)
    · replace hq := hq.2 hc
      refine lv_aload_n hx hb dX1_sum_51 rfl (lv_at hl 0 rfl) ?_
      refine w_get C hw uw_X1 4 cO_X1 rfl 4 (by decide) fl_X1_15 rfl dX1_sum_52 ?_
      refine lv_iload hx hb dX1_sum_55 (lv_at hl 4 rfl) ?_
      refine lv_ldc2 hx hb C.2.2.2.2.1 (C.w kk_X1_116 rfl) dX1_sum_57 ?_
      refine lv_lload_n hx hb dX1_sum_60 rfl (lv_at hl 3 rfl) ?_
      refine lv_lsub hx hb dX1_sum_61 ?_
      refine lv_aload_n hx hb dX1_sum_62 rfl (lv_at hl 0 rfl) ?_
      refine w_get C hw uw_X1 4 cO_X1 rfl 4 (by decide) fl_X1_15 rfl dX1_sum_63 ?_
      refine lv_iload hx hb dX1_sum_66 (lv_at hl 4 rfl) ?_
      obtain ⟨hin, hq⟩ := hq
      refine w_lld C hw 26 1 cL_3 rfl hin dX1_sum_68 ?_
      refine lv_lmul hx hb dX1_sum_69 ?_
      refine lv_lload_n hx hb dX1_sum_70 rfl (lv_at hl 3 rfl) ?_
      refine lv_aload_n hx hb dX1_sum_71 rfl (lv_at hl 0 rfl) ?_
      refine w_get C hw uw_X1 4 cO_X1 rfl 4 (by decide) fl_X1_15 rfl dX1_sum_72 ?_
      refine lv_iload hx hb dX1_sum_75 (lv_at hl 4 rfl) ?_
      refine lv_iload_n hx hb dX1_sum_77 rfl (lv_at hl 2 rfl) ?_
      refine lv_iadd hx hb dX1_sum_78 ?_
      obtain ⟨hin, hq⟩ := hq
      refine w_lld C hw 26 1 cL_3 rfl hin dX1_sum_79 ?_
      refine lv_lmul hx hb dX1_sum_80 ?_
      refine lv_ladd hx hb dX1_sum_81 ?_
      obtain ⟨hin, hq⟩ := hq
      obtain ⟨S_1, eS_1⟩ : ∃ z, z = uL S 3 x5.toNatClampNeg (((64 - x3) * (S.2.1 3 x5.toNatClampNeg)) + (x3 * (S.2.1 3 (x5 + x2).toNatClampNeg))) := ⟨_, rfl⟩
      replace hq := hq S_1 eS_1
      refine w_lst (ws' := cw ad cI cL S_1) C hw 26 1 cL_3 rfl hin dX1_sum_82 (by rw [eS_1]; exact cLs_3) (fun H locs hw => ?_)
      refine lv_iinc (v := x5 + 1) (lv' := [(5, .int (x5 + 1)), (0, .ref (ad 4)), (1, .int x1), (2, .int x2), (3, .long x3)]) hx hb dX1_sum_83 hl (k := 4) rfl rfl (by decide) rfl (fun ls hl => ?_)
      refine lv_goto (tgt := 45) hx hb dX1_sum_86 (by decide) ?_
      exact ih S_1 (x5 + 1) hq _ _ _ hw (lv_sub hl [1, 2, 3, 4, 0] rfl)
set_option maxHeartbeats 4000000 in
set_option maxRecDepth 100000 in
theorem kLX1_sum_26 {p : Program} {l : Launch} {e : Env} {s : State} {m : MethodId} {args : Array Value} {below : List Frame} {meth : Method} {c : Code} {D : va_G} {ad : Nat → Nat} {cI cL : ClassId} {A : Nat → Prop} (C : Cx p s m args meth c yX1_sum.cls cX1_sum 6 (some .long)) (K : MS → Prop) (Q : Int64 → MS → Prop) (hK : ∀ (S : MS) (H : Heap) (locs : List Loc) (ls : Array Slot), K S  → WW D (ctys cI cL) (cw ad cI cL S) A s H locs → lv_has ls 6 [(0, .ref (ad 4))] → W p l e { frames := 1, cells := 0, slots := 0, locals := 18 } s m args below meth c H locs 0 0 (Zl D (ctys cI cL) (cw ad cI cL) A below args s Q) (F0 m 95 ls [])) : ∀ (n : Nat) (S : MS) (x1 : Int32) (_ : LX1_sum_26 K Q n S x1) (H : Heap) (locs : List Loc) (ls : Array Slot), WW D (ctys cI cL) (cw ad cI cL S) A s H locs → lv_has ls 6 [(0, .ref (ad 4)), (1, .int x1)] → W p l e { frames := 1, cells := 0, slots := 0, locals := 18 } s m args below meth c H locs 0 0 (Zl D (ctys cI cL) (cw ad cI cL) A below args s Q) (F0 m 26 ls []) := by
  have hx := C.1
  have hb := C.2.1
  intro n
  induction n with
  | zero => intro S x1 hq; exact absurd hq (by rw [LX1_sum_26]; exact id)
  | succ n ih =>
    intro S x1 hq H locs ls hw hl
    rw [LX1_sum_26] at hq
    refine lv_iload_n hx hb dX1_sum_26 rfl (lv_at hl 1 rfl) ?_
    refine lv_if_lt (tgt := 95) hx hb dX1_sum_27 (by decide) (fun hc => ?_) (fun hc => ?_)
    · replace hq := hq.1 hc
      exact hK S  _ _ _ hq hw (lv_sub hl [0] rfl)
    · replace hq := hq.2 hc
      refine lv_iconst (v := 1) hx hb dX1_sum_30 (by decide) ?_
      refine lv_iload_n hx hb dX1_sum_31 rfl (lv_at hl 1 rfl) ?_
      refine lv_ishl hx hb dX1_sum_32 ?_
      refine lv_istore_n (lv' := [(2, .int ((1 : Int32) <<< (x1 &&& 31))), (0, .ref (ad 4)), (1, .int x1)]) hx hb dX1_sum_33 rfl hl (by decide) rfl (fun ls hl => ?_)
      refine lv_aload_n hx hb dX1_sum_34 rfl (lv_at hl 1 rfl) ?_
      refine w_get C hw uw_X1 4 cO_X1 rfl 6 (by decide) fl_X1_22 rfl dX1_sum_35 ?_
      refine lv_iload_n hx hb dX1_sum_38 rfl (lv_at hl 2 rfl) ?_
      obtain ⟨hin, hq⟩ := hq
      refine w_ild C hw 19 0 cI_13 rfl hin dX1_sum_39 ?_
      refine lv_i2l (v := (S.1 13 x1.toNatClampNeg).toInt64) hx hb dX1_sum_40 rfl ?_
      refine lv_lstore_n (lv' := [(3, .long (S.1 13 x1.toNatClampNeg).toInt64), (2, .int ((1 : Int32) <<< (x1 &&& 31))), (0, .ref (ad 4)), (1, .int x1)]) hx hb dX1_sum_41 rfl hl (by decide) rfl (fun ls hl => ?_)
      refine lv_iconst (v := 0) hx hb dX1_sum_42 (by decide) ?_
      refine lv_istore (lv' := [(5, .int 0), (3, .long (S.1 13 x1.toNatClampNeg).toInt64), (2, .int ((1 : Int32) <<< (x1 &&& 31))), (0, .ref (ad 4)), (1, .int x1)]) hx hb dX1_sum_43 hl (by decide) rfl (fun ls hl => ?_)
      obtain ⟨n0, hq⟩ := hq
      refine kLX1_sum_45 C x1 ((1 : Int32) <<< (x1 &&& 31)) ((S.1 13 x1.toNatClampNeg).toInt64) _ Q ?_ n0 S 0 hq _ _ _ hw (lv_sub hl [3, 4, 2, 1, 0] rfl)
      clear hw hl hq
      intro S_1 H locs ls hq hw hl
      refine lv_iinc (v := x1 + (-1)) (lv' := [(1, .int (x1 + (-1))), (0, .ref (ad 4))]) hx hb dX1_sum_89 hl (k := 1) rfl rfl (by decide) rfl (fun ls hl => ?_)
      refine lv_goto (tgt := 26) hx hb dX1_sum_92 (by decide) ?_
      exact ih S_1 (x1 + (-1)) hq _ _ _ hw (lv_sub hl [1, 0] rfl)
set_option maxHeartbeats 4000000 in
set_option maxRecDepth 100000 in
theorem mX1_sum (l : Launch) (D : va_G) (ad : Nat → Nat) (cI cL : ClassId) (S : MS) (Q : Int64 → MS → Prop) (hq : wX1_sum S Q) : Ml l yX1_sum cX1_sum 6 (some .long) { frames := 1, cells := 0, slots := 0, locals := 18 } D (ctys cI cL) (cw ad cI cL) [.ref (ad 4)] S Q := by
  refine Ml.of (by decide +kernel) (Nat.le_of_ble_eq_true rfl) ?_
  intro p e s m args below meth c A ls C hw hl
  have hx := C.1
  have hb := C.2.1
  have hl : lv_has ls 6 [(0, .ref (ad 4))] := hl
  have hw : WW D (ctys cI cL) (cw ad cI cL S) A s s.heap [] := hw
  unfold wX1_sum at hq
  refine lv_aload_n hx hb dX1_sum_0 rfl (lv_at hl 0 rfl) ?_
  refine w_get C hw uw_X1 4 cO_X1 rfl 3 (by decide) fl_X1_9 rfl dX1_sum_1 ?_
  refine lv_iconst (v := 0) hx hb dX1_sum_4 (by decide) ?_
  refine lv_aload_n hx hb dX1_sum_5 rfl (lv_at hl 0 rfl) ?_
  refine w_get C hw uw_X1 4 cO_X1 rfl 4 (by decide) fl_X1_15 rfl dX1_sum_6 ?_
  refine lv_iconst (v := 0) hx hb dX1_sum_9 (by decide) ?_
  refine lv_iconst (v := 1) hx hb dX1_sum_10 (by decide) ?_
  refine lv_aload_n hx hb dX1_sum_11 rfl (lv_at hl 0 rfl) ?_
  refine w_get C hw uw_X1 4 cO_X1 rfl 7 (by decide) fl_X1_25 rfl dX1_sum_12 ?_
  refine lv_ishl hx hb dX1_sum_15 ?_
  obtain ⟨hn0, hn1, hn2, hq⟩ := hq
  obtain ⟨S_1, eS_1⟩ : ∃ z, z = uC S 3 (va_cpy (S.2.1 2) (S.2.1 3) 0 0 ((1 : Int32) <<< ((S.2.2 4) &&& 31)).toNatClampNeg) := ⟨_, rfl⟩
  replace hq := hq S_1 eS_1
  refine w_copyl (ws' := cw ad cI cL S_1) C hw 25 26 1 1 cL_2 cL_3 rfl rfl (C.w ml_X1_110 rfl) (C.w kc_copy.1 rfl) (C.w kc_copy.2.1 rfl) (C.w kc_copy.2.2 rfl) hn0 hn1 hn2 (hl.1) (Nat.le_of_ble_eq_true rfl) (by decide) dX1_sum_16 (by rw [eS_1]; exact cLc_3) (fun H locs hw => ?_)
  refine lv_aload_n hx hb dX1_sum_19 rfl (lv_at hl 0 rfl) ?_
  refine w_get C hw uw_X1 4 cO_X1 rfl 7 (by decide) fl_X1_25 rfl dX1_sum_20 ?_
  refine lv_iconst (v := 1) hx hb dX1_sum_23 (by decide) ?_
  refine lv_isub hx hb dX1_sum_24 ?_
  refine lv_istore_n (lv' := [(1, .int ((S_1.2.2 4) - 1)), (0, .ref (ad 4))]) hx hb dX1_sum_25 rfl hl (by decide) rfl (fun ls hl => ?_)
  obtain ⟨n0, hq⟩ := hq
  refine kLX1_sum_26 C _ Q ?_ n0 S_1 ((S_1.2.2 4) - 1) hq _ _ _ hw (lv_sub hl [1, 0] rfl)
  clear hw hl hq
  intro S_2 H locs ls hq hw hl
  refine lv_aload_n hx hb dX1_sum_95 rfl (lv_at hl 0 rfl) ?_
  refine w_get C hw uw_X1 4 cO_X1 rfl 4 (by decide) fl_X1_15 rfl dX1_sum_96 ?_
  refine lv_iconst (v := 0) hx hb dX1_sum_99 (by decide) ?_
  obtain ⟨hin, hq⟩ := hq
  refine w_lld C hw 26 1 cL_3 rfl hin dX1_sum_100 ?_
  refine lv_bipush (v := 6) hx hb dX1_sum_101 (by decide) ?_
  refine lv_bipush (v := 8) hx hb dX1_sum_103 (by decide) ?_
  refine lv_aload_n hx hb dX1_sum_105 rfl (lv_at hl 0 rfl) ?_
  refine w_get C hw uw_X1 4 cO_X1 rfl 8 (by decide) fl_X1_29 rfl dX1_sum_106 ?_
  refine lv_isub hx hb dX1_sum_109 ?_
  refine lv_imul hx hb dX1_sum_110 ?_
  refine lv_lshl (v := (jlshl (S_2.2.1 3 (0 : Int32).toNatClampNeg) (6 * (8 - (S_2.2.2 5))))) hx hb dX1_sum_111 rfl ?_
  exact w_lret C hw hq dX1_sum_112
set_option maxHeartbeats 4000000 in
set_option maxRecDepth 100000 in
theorem mX1_onDay (l : Launch) (D : va_G) (ad : Nat → Nat) (cI cL : ClassId) (S : MS) (x1 : Int32) (Q : Int64 → MS → Prop) (hq : wX1_onDay S x1 Q) : Ml l yX1_onDay cX1_onDay 2 (some .long) { frames := 4, cells := 0, slots := 0, locals := 82 } D (ctys cI cL) (cw ad cI cL) [.ref (ad 4), .int x1] S Q := by
  refine Ml.of (by decide +kernel) (Nat.le_of_ble_eq_true rfl) ?_
  intro p e s m args below meth c A ls C hw hl
  have hx := C.1
  have hb := C.2.1
  have hl : lv_has ls 2 [(0, .ref (ad 4)), (1, .int x1)] := hl
  have hw : WW D (ctys cI cL) (cw ad cI cL S) A s s.heap [] := hw
  unfold wX1_onDay at hq
  refine lv_aload_n hx hb dX1_onDay_0 rfl (lv_at hl 0 rfl) ?_
  refine lv_iload_n hx hb dX1_onDay_1 rfl (lv_at hl 1 rfl) ?_
  refine w_callv hw (w_runV (rest := []) C hw (mX1_takeSharesOn l D ad cI cL S x1 _ hq _) kc_X1_takeSharesOn ml_X1_94 4 cO_X1 rfl rfl ⟨rfl, rfl, Nat.le_of_ble_eq_true rfl, Nat.le_of_ble_eq_true rfl⟩ rfl rfl (Nat.le_of_ble_eq_true rfl) hl.1 dX1_onDay_2) ?_
  clear hw hq
  intro S_1 H locs hq hw
  refine lv_aload_n hx hb dX1_onDay_5 rfl (lv_at hl 0 rfl) ?_
  refine w_calll hw (w_runV (rest := []) C hw (mX1_sum l D ad cI cL S_1 _ hq _) kc_X1_sum ml_X1_97 4 cO_X1 rfl rfl ⟨rfl, rfl, Nat.le_of_ble_eq_true rfl, Nat.le_of_ble_eq_true rfl⟩ rfl rfl (Nat.le_of_ble_eq_true rfl) hl.1 dX1_onDay_6) ?_
  clear hw hq
  intro r_4 S_3 H locs hq hw
  exact w_lret C hw hq dX1_onDay_9
set_option maxHeartbeats 4000000 in
set_option maxRecDepth 100000 in
theorem mX2_shareForNothing (l : Launch) (D : va_G) (ad : Nat → Nat) (cI cL : ClassId) (S : MS) (x1 : Int32) (Q : Int32 → MS → Prop) (hq : wX2_shareForNothing S x1 Q) : Mi l yX2_shareForNothing cX2_shareForNothing 2 (some .int) { frames := 0, cells := 0, slots := 0, locals := 0 } D (ctys cI cL) (cw ad cI cL) [.ref (ad 1), .int x1] S Q := by
  refine Mi.of (by decide +kernel) (Nat.le_of_ble_eq_true rfl) ?_
  intro p e s m args below meth c A ls C hw hl
  have hx := C.1
  have hb := C.2.1
  have hl : lv_has ls 2 [(0, .ref (ad 1)), (1, .int x1)] := hl
  have hw : WW D (ctys cI cL) (cw ad cI cL S) A s s.heap [] := hw
  unfold wX2_shareForNothing at hq
  refine lv_aload_n hx hb dX2_shareForNothing_0 rfl (lv_at hl 0 rfl) ?_
  refine w_get C hw uw_X2 1 cO_X2 rfl 2 (by decide) fl_X2_18 rfl dX2_shareForNothing_1 ?_
  refine lv_iload_n hx hb dX2_shareForNothing_4 rfl (lv_at hl 1 rfl) ?_
  obtain ⟨hin, hq⟩ := hq
  refine w_ild C hw 8 0 cI_2 rfl hin dX2_shareForNothing_5 ?_
  exact w_iret C hw hq dX2_shareForNothing_6
set_option maxHeartbeats 4000000 in
set_option maxRecDepth 100000 in
theorem kJX1_forNothing_41 {p : Program} {l : Launch} {e : Env} {s : State} {m : MethodId} {args : Array Value} {below : List Frame} {meth : Method} {c : Code} {D : va_G} {ad : Nat → Nat} {cI cL : ClassId} {A : Nat → Prop} (C : Cx p s m args meth c yX1_forNothing.cls cX1_forNothing 4 (some .long)) (S : MS) (x1 : Int32) (x2 : Int32) (x3 : Int32) (t0 : Int32) (t1 : Int64) (Hd : MS → Int32 → Prop) (K : MS → Prop) (Q : Int64 → MS → Prop) (hq : JX1_forNothing_41 S x1 x2 x3 t0 t1 Hd K Q) (H : Heap) (locs : List Loc) (ls : Array Slot) (hw : WW D (ctys cI cL) (cw ad cI cL S) A s H locs) (hl : lv_has ls 4 [(0, .ref (ad 4)), (1, .int x1), (2, .int x2), (3, .int x3)]) (hH : ∀ (S : MS) (z3 : Int32) (H : Heap) (locs : List Loc) (ls : Array Slot), Hd S z3 → WW D (ctys cI cL) (cw ad cI cL S) A s H locs → lv_has ls 4 [(0, .ref (ad 4)), (1, .int x1), (2, .int x2), (3, .int z3)] → W p l e { frames := 2, cells := 0, slots := 0, locals := 43 } s m args below meth c H locs 0 0 (Zl D (ctys cI cL) (cw ad cI cL) A below args s Q) (F0 m 14 ls [])) (hK : ∀ (S : MS) (H : Heap) (locs : List Loc) (ls : Array Slot), K S  → WW D (ctys cI cL) (cw ad cI cL S) A s H locs → lv_has ls 4 [(0, .ref (ad 4))] → W p l e { frames := 2, cells := 0, slots := 0, locals := 43 } s m args below meth c H locs 0 0 (Zl D (ctys cI cL) (cw ad cI cL) A below args s Q) (F0 m 48 ls [])) : W p l e { frames := 2, cells := 0, slots := 0, locals := 43 } s m args below meth c H locs 0 0 (Zl D (ctys cI cL) (cw ad cI cL) A below args s Q) (F0 m 41 ls [.long t1, .int t0, .ref (ad 25)]) := by
  have hx := C.1
  have hb := C.2.1
  unfold JX1_forNothing_41 at hq
  obtain ⟨hin, hq⟩ := hq
  obtain ⟨S_2, eS_2⟩ : ∃ z, z = uL S 2 t0.toNatClampNeg t1 := ⟨_, rfl⟩
  replace hq := hq S_2 eS_2
  refine w_lst (ws' := cw ad cI cL S_2) C hw 25 1 cL_2 rfl hin dX1_forNothing_41 (by rw [eS_2]; exact cLs_2) (fun H locs hw => ?_)
  refine lv_iinc (v := x3 + 1) (lv' := [(3, .int (x3 + 1)), (0, .ref (ad 4)), (1, .int x1), (2, .int x2)]) hx hb dX1_forNothing_42 hl (k := 3) rfl rfl (by decide) rfl (fun ls hl => ?_)
  refine lv_goto (tgt := 14) hx hb dX1_forNothing_45 (by decide) ?_
  exact hH S_2 (x3 + 1) _ _ _ hq hw (lv_sub hl [1, 2, 3, 0] rfl)
set_option maxHeartbeats 4000000 in
set_option maxRecDepth 100000 in
theorem kLX1_forNothing_14 {p : Program} {l : Launch} {e : Env} {s : State} {m : MethodId} {args : Array Value} {below : List Frame} {meth : Method} {c : Code} {D : va_G} {ad : Nat → Nat} {cI cL : ClassId} {A : Nat → Prop} (C : Cx p s m args meth c yX1_forNothing.cls cX1_forNothing 4 (some .long)) (x1 : Int32) (x2 : Int32) (K : MS → Prop) (Q : Int64 → MS → Prop) (hK : ∀ (S : MS) (H : Heap) (locs : List Loc) (ls : Array Slot), K S  → WW D (ctys cI cL) (cw ad cI cL S) A s H locs → lv_has ls 4 [(0, .ref (ad 4))] → W p l e { frames := 2, cells := 0, slots := 0, locals := 43 } s m args below meth c H locs 0 0 (Zl D (ctys cI cL) (cw ad cI cL) A below args s Q) (F0 m 48 ls [])) : ∀ (n : Nat) (S : MS) (x3 : Int32) (_ : LX1_forNothing_14 x1 x2 K Q n S x3) (H : Heap) (locs : List Loc) (ls : Array Slot), WW D (ctys cI cL) (cw ad cI cL S) A s H locs → lv_has ls 4 [(0, .ref (ad 4)), (1, .int x1), (2, .int x2), (3, .int x3)] → W p l e { frames := 2, cells := 0, slots := 0, locals := 43 } s m args below meth c H locs 0 0 (Zl D (ctys cI cL) (cw ad cI cL) A below args s Q) (F0 m 14 ls []) := by
  have hx := C.1
  have hb := C.2.1
  intro n
  induction n with
  | zero => intro S x3 hq; exact absurd hq (by rw [LX1_forNothing_14]; exact id)
  | succ n ih =>
    intro S x3 hq H locs ls hw hl
    rw [LX1_forNothing_14] at hq
    refine lv_iload_n hx hb dX1_forNothing_14 rfl (lv_at hl 3 rfl) ?_
    refine lv_iload_n hx hb dX1_forNothing_15 rfl (lv_at hl 2 rfl) ?_
    refine lv_icmp_ge (tgt := 48) hx hb dX1_forNothing_16 (by decide) (fun hc => ?_) (fun hc => ?_)
    · replace hq := hq.1 hc
      exact hK S  _ _ _ hq hw (lv_sub hl [0] rfl)
    · replace hq := hq.2 hc
      refine lv_aload_n hx hb dX1_forNothing_19 rfl (lv_at hl 0 rfl) ?_
      refine w_get C hw uw_X1 4 cO_X1 rfl 3 (by decide) fl_X1_9 rfl dX1_forNothing_20 ?_
      refine lv_iload_n hx hb dX1_forNothing_23 rfl (lv_at hl 3 rfl) ?_
      refine lv_aload_n hx hb dX1_forNothing_24 rfl (lv_at hl 0 rfl) ?_
      refine w_get C hw uw_X1 4 cO_X1 rfl 2 (by decide) fl_X1_40 rfl dX1_forNothing_25 ?_
      refine lv_iload_n hx hb dX1_forNothing_28 rfl (lv_at hl 1 rfl) ?_
      refine lv_iload_n hx hb dX1_forNothing_29 rfl (lv_at hl 3 rfl) ?_
      refine w_calli hw (w_runV (rest := [.int x3, .ref (ad 25)]) C hw (mX4_actsIn l D ad cI cL S x1 x3 _ hq _) kc_X4_actsIn ml_X1_73 3 cO_X4 rfl rfl ⟨rfl, rfl, Nat.le_of_ble_eq_true rfl, Nat.le_of_ble_eq_true rfl⟩ rfl rfl (Nat.le_of_ble_eq_true rfl) hl.1 dX1_forNothing_30) ?_
      clear hw hq
      intro r_2 S_1 H locs hq hw
      refine lv_if_eq (tgt := 40) hx hb dX1_forNothing_33 (by decide) (fun hc => ?_) (fun hc => ?_)
      · replace hq := hq.1 hc
        refine lv_lconst (v := 0) hx hb dX1_forNothing_40 (by decide) ?_
        exact kJX1_forNothing_41 C S_1 x1 x2 x3 x3 0 _ K Q hq _ _ _ hw (lv_sub hl [0, 1, 2, 3] rfl) (fun S a3 H locs ls hq hw hl => ih S a3 hq H locs ls hw hl) hK
      · replace hq := hq.2 hc
        refine lv_lconst (v := 1) hx hb dX1_forNothing_36 (by decide) ?_
        refine lv_goto (tgt := 41) hx hb dX1_forNothing_37 (by decide) ?_
        exact kJX1_forNothing_41 C S_1 x1 x2 x3 x3 1 _ K Q hq _ _ _ hw (lv_sub hl [0, 1, 2, 3] rfl) (fun S a3 H locs ls hq hw hl => ih S a3 hq H locs ls hw hl) hK
set_option maxHeartbeats 4000000 in
set_option maxRecDepth 100000 in
theorem kLX1_forNothing_50 {p : Program} {l : Launch} {e : Env} {s : State} {m : MethodId} {args : Array Value} {below : List Frame} {meth : Method} {c : Code} {D : va_G} {ad : Nat → Nat} {cI cL : ClassId} {A : Nat → Prop} (C : Cx p s m args meth c yX1_forNothing.cls cX1_forNothing 4 (some .long)) (K : MS → Prop) (Q : Int64 → MS → Prop) (hK : ∀ (S : MS) (H : Heap) (locs : List Loc) (ls : Array Slot), K S  → WW D (ctys cI cL) (cw ad cI cL S) A s H locs → lv_has ls 4 [(0, .ref (ad 4))] → W p l e { frames := 2, cells := 0, slots := 0, locals := 43 } s m args below meth c H locs 0 0 (Zl D (ctys cI cL) (cw ad cI cL) A below args s Q) (F0 m 83 ls [])) : ∀ (n : Nat) (S : MS) (x3 : Int32) (_ : LX1_forNothing_50 K Q n S x3) (H : Heap) (locs : List Loc) (ls : Array Slot), WW D (ctys cI cL) (cw ad cI cL S) A s H locs → lv_has ls 4 [(0, .ref (ad 4)), (3, .int x3)] → W p l e { frames := 2, cells := 0, slots := 0, locals := 43 } s m args below meth c H locs 0 0 (Zl D (ctys cI cL) (cw ad cI cL) A below args s Q) (F0 m 50 ls []) := by
  have hx := C.1
  have hb := C.2.1
  intro n
  induction n with
  | zero => intro S x3 hq; exact absurd hq (by rw [LX1_forNothing_50]; exact id)
  | succ n ih =>
    intro S x3 hq H locs ls hw hl
    rw [LX1_forNothing_50] at hq
    refine lv_iload_n hx hb dX1_forNothing_50 rfl (lv_at hl 1 rfl) ?_
    refine lv_aload_n hx hb dX1_forNothing_51 rfl (lv_at hl 0 rfl) ?_
    refine w_get C hw uw_X1 4 cO_X1 rfl 7 (by decide) fl_X1_25 rfl dX1_forNothing_52 ?_
    refine lv_icmp_ge (tgt := 83) hx hb dX1_forNothing_55 (by decide) (fun hc => ?_) (fun hc => ?_)
    · replace hq := hq.1 hc
      exact hK S  _ _ _ hq hw (lv_sub hl [0] rfl)
    · replace hq := hq.2 hc
      refine lv_aload_n hx hb dX1_forNothing_58 rfl (lv_at hl 0 rfl) ?_
      refine w_get C hw uw_X1 4 cO_X1 rfl 6 (by decide) fl_X1_22 rfl dX1_forNothing_59 ?_
      refine lv_iload_n hx hb dX1_forNothing_62 rfl (lv_at hl 1 rfl) ?_
      refine lv_aload_n hx hb dX1_forNothing_63 rfl (lv_at hl 0 rfl) ?_
      refine w_get C hw uw_X1 4 cO_X1 rfl 0 (by decide) fl_X1_32 rfl dX1_forNothing_64 ?_
      refine lv_aload_n hx hb dX1_forNothing_67 rfl (lv_at hl 0 rfl) ?_
      refine w_get C hw uw_X1 4 cO_X1 rfl 5 (by decide) fl_X1_18 rfl dX1_forNothing_68 ?_
      refine lv_iload_n hx hb dX1_forNothing_71 rfl (lv_at hl 1 rfl) ?_
      obtain ⟨hin, hq⟩ := hq
      refine w_ild C hw 18 0 cI_12 rfl hin dX1_forNothing_72 ?_
      refine w_calli hw (w_runV (rest := [.int x3, .ref (ad 19)]) C hw (mX2_shareForNothing l D ad cI cL S (S.1 12 x3.toNatClampNeg) _ hq _) kc_X2_shareForNothing ml_X1_101 1 cO_X2 rfl rfl ⟨rfl, rfl, Nat.le_of_ble_eq_true rfl, Nat.le_of_ble_eq_true rfl⟩ rfl rfl (Nat.le_of_ble_eq_true rfl) hl.1 dX1_forNothing_73) ?_
      clear hw hq
      intro r_2 S_1 H locs hq hw
      obtain ⟨hin, hq⟩ := hq
      obtain ⟨S_3, eS_3⟩ : ∃ z, z = uI S_1 13 x3.toNatClampNeg r_2 := ⟨_, rfl⟩
      replace hq := hq S_3 eS_3
      refine w_ist (ws' := cw ad cI cL S_3) C hw 19 0 cI_13 rfl hin dX1_forNothing_76 (by rw [eS_3]; exact cIs_13) (fun H locs hw => ?_)
      refine lv_iinc (v := x3 + 1) (lv' := [(3, .int (x3 + 1)), (0, .ref (ad 4))]) hx hb dX1_forNothing_77 hl (k := 1) rfl rfl (by decide) rfl (fun ls hl => ?_)
      refine lv_goto (tgt := 50) hx hb dX1_forNothing_80 (by decide) ?_
      exact ih S_3 (x3 + 1) hq _ _ _ hw (lv_sub hl [1, 0] rfl)
set_option maxHeartbeats 4000000 in
set_option maxRecDepth 100000 in
theorem mX1_forNothing (l : Launch) (D : va_G) (ad : Nat → Nat) (cI cL : ClassId) (S : MS) (x1 : Int32) (Q : Int64 → MS → Prop) (hq : wX1_forNothing S x1 Q) : Ml l yX1_forNothing cX1_forNothing 4 (some .long) { frames := 2, cells := 0, slots := 0, locals := 43 } D (ctys cI cL) (cw ad cI cL) [.ref (ad 4), .int x1] S Q := by
  refine Ml.of (by decide +kernel) (Nat.le_of_ble_eq_true rfl) ?_
  intro p e s m args below meth c A ls C hw hl
  have hx := C.1
  have hb := C.2.1
  have hl : lv_has ls 4 [(0, .ref (ad 4)), (1, .int x1)] := hl
  have hw : WW D (ctys cI cL) (cw ad cI cL S) A s s.heap [] := hw
  unfold wX1_forNothing at hq
  refine lv_aload_n hx hb dX1_forNothing_0 rfl (lv_at hl 0 rfl) ?_
  refine lv_iload_n hx hb dX1_forNothing_1 rfl (lv_at hl 1 rfl) ?_
  refine w_callv hw (w_runV (rest := []) C hw (mX1_takeMembers l D ad cI cL S x1 _ hq _) kc_X1_takeMembers ml_X1_69 4 cO_X1 rfl rfl ⟨rfl, rfl, Nat.le_of_ble_eq_true rfl, Nat.le_of_ble_eq_true rfl⟩ rfl rfl (Nat.le_of_ble_eq_true rfl) hl.1 dX1_forNothing_2) ?_
  clear hw hq
  intro S_1 H locs hq hw
  refine lv_iconst (v := 1) hx hb dX1_forNothing_5 (by decide) ?_
  refine lv_aload_n hx hb dX1_forNothing_6 rfl (lv_at hl 0 rfl) ?_
  refine w_get C hw uw_X1 4 cO_X1 rfl 7 (by decide) fl_X1_25 rfl dX1_forNothing_7 ?_
  refine lv_ishl hx hb dX1_forNothing_10 ?_
  refine lv_topi (fun v_3 ev_3 => ?_)
  replace hq := hq v_3 ev_3
  refine lv_istore_n (lv' := [(2, .int v_3), (0, .ref (ad 4)), (1, .int x1)]) hx hb dX1_forNothing_11 rfl hl (by decide) rfl (fun ls hl => ?_)
  refine lv_iconst (v := 0) hx hb dX1_forNothing_12 (by decide) ?_
  refine lv_istore_n (lv' := [(3, .int 0), (2, .int v_3), (0, .ref (ad 4)), (1, .int x1)]) hx hb dX1_forNothing_13 rfl hl (by decide) rfl (fun ls hl => ?_)
  obtain ⟨n0, hq⟩ := hq
  refine kLX1_forNothing_14 C x1 v_3 _ Q ?_ n0 S_1 0 hq _ _ _ hw (lv_sub hl [2, 3, 1, 0] rfl)
  clear hw hl hq
  intro S_4 H locs ls hq hw hl
  refine lv_iconst (v := 0) hx hb dX1_forNothing_48 (by decide) ?_
  refine lv_istore_n (lv' := [(3, .int 0), (0, .ref (ad 4))]) hx hb dX1_forNothing_49 rfl hl (by decide) rfl (fun ls hl => ?_)
  obtain ⟨n0, hq⟩ := hq
  refine kLX1_forNothing_50 C _ Q ?_ n0 S_4 0 hq _ _ _ hw (lv_sub hl [1, 0] rfl)
  clear hw hl hq
  intro S_5 H locs ls hq hw hl
  refine lv_aload_n hx hb dX1_forNothing_83 rfl (lv_at hl 0 rfl) ?_
  refine w_calll hw (w_runV (rest := []) C hw (mX1_sum l D ad cI cL S_5 _ hq _) kc_X1_sum ml_X1_97 4 cO_X1 rfl rfl ⟨rfl, rfl, Nat.le_of_ble_eq_true rfl, Nat.le_of_ble_eq_true rfl⟩ rfl rfl (Nat.le_of_ble_eq_true rfl) hl.1 dX1_forNothing_84) ?_
  clear hw hq
  intro r_7 S_6 H locs hq hw
  exact w_lret C hw hq dX1_forNothing_87
set_option maxHeartbeats 4000000 in
set_option maxRecDepth 100000 in
theorem mX1_weightAt (l : Launch) (D : va_G) (ad : Nat → Nat) (cI cL : ClassId) (S : MS) (x1 : Int32) (Q : Int64 → MS → Prop) (hq : wX1_weightAt S x1 Q) : Ml l yX1_weightAt cX1_weightAt 7 (some .long) { frames := 2, cells := 0, slots := 0, locals := 43 } D (ctys cI cL) (cw ad cI cL) [.ref (ad 4), .int x1] S Q := by
  refine Ml.of (by decide +kernel) (Nat.le_of_ble_eq_true rfl) ?_
  intro p e s m args below meth c A ls C hw hl
  have hx := C.1
  have hb := C.2.1
  have hl : lv_has ls 7 [(0, .ref (ad 4)), (1, .int x1)] := hl
  have hw : WW D (ctys cI cL) (cw ad cI cL S) A s s.heap [] := hw
  unfold wX1_weightAt at hq
  refine lv_aload_n hx hb dX1_weightAt_0 rfl (lv_at hl 0 rfl) ?_
  refine w_get C hw uw_X1 4 cO_X1 rfl 6 (by decide) fl_X1_22 rfl dX1_weightAt_1 ?_
  refine lv_iload_n hx hb dX1_weightAt_4 rfl (lv_at hl 1 rfl) ?_
  obtain ⟨hin, hq⟩ := hq
  refine w_ild C hw 19 0 cI_13 rfl hin dX1_weightAt_5 ?_
  refine lv_istore_n (lv' := [(2, .int (S.1 13 x1.toNatClampNeg)), (0, .ref (ad 4)), (1, .int x1)]) hx hb dX1_weightAt_6 rfl hl (by decide) rfl (fun ls hl => ?_)
  refine lv_aload_n hx hb dX1_weightAt_7 rfl (lv_at hl 1 rfl) ?_
  refine w_get C hw uw_X1 4 cO_X1 rfl 6 (by decide) fl_X1_22 rfl dX1_weightAt_8 ?_
  refine lv_iload_n hx hb dX1_weightAt_11 rfl (lv_at hl 2 rfl) ?_
  refine lv_bipush (v := 64) hx hb dX1_weightAt_12 (by decide) ?_
  obtain ⟨hin, hq⟩ := hq
  obtain ⟨S_1, eS_1⟩ : ∃ z, z = uI S 13 x1.toNatClampNeg 64 := ⟨_, rfl⟩
  replace hq := hq S_1 eS_1
  refine w_ist (ws' := cw ad cI cL S_1) C hw 19 0 cI_13 rfl hin dX1_weightAt_14 (by rw [eS_1]; exact cIs_13) (fun H locs hw => ?_)
  refine lv_aload_n hx hb dX1_weightAt_15 rfl (lv_at hl 1 rfl) ?_
  refine w_calll hw (w_runV (rest := []) C hw (mX1_sum l D ad cI cL S_1 _ hq _) kc_X1_sum ml_X1_97 4 cO_X1 rfl rfl ⟨rfl, rfl, Nat.le_of_ble_eq_true rfl, Nat.le_of_ble_eq_true rfl⟩ rfl rfl (Nat.le_of_ble_eq_true rfl) hl.1 dX1_weightAt_16) ?_
  clear hw hq
  intro r_3 S_2 H locs hq hw
  refine lv_lstore_n (lv' := [(3, .long r_3), (2, .int (S.1 13 x1.toNatClampNeg)), (0, .ref (ad 4)), (1, .int x1)]) hx hb dX1_weightAt_19 rfl hl (by decide) rfl (fun ls hl => ?_)
  refine lv_aload_n hx hb dX1_weightAt_20 rfl (lv_at hl 2 rfl) ?_
  refine w_get C hw uw_X1 4 cO_X1 rfl 6 (by decide) fl_X1_22 rfl dX1_weightAt_21 ?_
  refine lv_iload_n hx hb dX1_weightAt_24 rfl (lv_at hl 3 rfl) ?_
  refine lv_iconst (v := 0) hx hb dX1_weightAt_25 (by decide) ?_
  obtain ⟨hin, hq⟩ := hq
  obtain ⟨S_4, eS_4⟩ : ∃ z, z = uI S_2 13 x1.toNatClampNeg 0 := ⟨_, rfl⟩
  replace hq := hq S_4 eS_4
  refine w_ist (ws' := cw ad cI cL S_4) C hw 19 0 cI_13 rfl hin dX1_weightAt_26 (by rw [eS_4]; exact cIs_13) (fun H locs hw => ?_)
  refine lv_aload_n hx hb dX1_weightAt_27 rfl (lv_at hl 2 rfl) ?_
  refine w_calll hw (w_runV (rest := []) C hw (mX1_sum l D ad cI cL S_4 _ hq _) kc_X1_sum ml_X1_97 4 cO_X1 rfl rfl ⟨rfl, rfl, Nat.le_of_ble_eq_true rfl, Nat.le_of_ble_eq_true rfl⟩ rfl rfl (Nat.le_of_ble_eq_true rfl) hl.1 dX1_weightAt_28) ?_
  clear hw hq
  intro r_6 S_5 H locs hq hw
  refine lv_lstore (lv' := [(5, .long r_6), (3, .long r_3), (2, .int (S.1 13 x1.toNatClampNeg)), (0, .ref (ad 4)), (1, .int x1)]) hx hb dX1_weightAt_31 hl (by decide) rfl (fun ls hl => ?_)
  refine lv_aload_n hx hb dX1_weightAt_33 rfl (lv_at hl 3 rfl) ?_
  refine w_get C hw uw_X1 4 cO_X1 rfl 6 (by decide) fl_X1_22 rfl dX1_weightAt_34 ?_
  refine lv_iload_n hx hb dX1_weightAt_37 rfl (lv_at hl 4 rfl) ?_
  refine lv_iload_n hx hb dX1_weightAt_38 rfl (lv_at hl 2 rfl) ?_
  obtain ⟨hin, hq⟩ := hq
  obtain ⟨S_7, eS_7⟩ : ∃ z, z = uI S_5 13 x1.toNatClampNeg (S.1 13 x1.toNatClampNeg) := ⟨_, rfl⟩
  replace hq := hq S_7 eS_7
  refine w_ist (ws' := cw ad cI cL S_7) C hw 19 0 cI_13 rfl hin dX1_weightAt_39 (by rw [eS_7]; exact cIs_13) (fun H locs hw => ?_)
  refine lv_lload_n hx hb dX1_weightAt_40 rfl (lv_at hl 1 rfl) ?_
  refine lv_lload hx hb dX1_weightAt_41 (lv_at hl 0 rfl) ?_
  refine lv_lsub hx hb dX1_weightAt_43 ?_
  exact w_lret C hw hq dX1_weightAt_44
set_option maxHeartbeats 4000000 in
set_option maxRecDepth 100000 in
theorem kLX1_weightOf_7 {p : Program} {l : Launch} {e : Env} {s : State} {m : MethodId} {args : Array Value} {below : List Frame} {meth : Method} {c : Code} {D : va_G} {ad : Nat → Nat} {cI cL : ClassId} {A : Nat → Prop} (C : Cx p s m args meth c yX1_weightOf.cls cX1_weightOf 4 (some .long)) (x1 : Int32) (K : MS → Prop) (Q : Int64 → MS → Prop) (hK : ∀ (S : MS) (H : Heap) (locs : List Loc) (ls : Array Slot), K S  → WW D (ctys cI cL) (cw ad cI cL S) A s H locs → lv_has ls 4 [] → W p l e { frames := 4, cells := 0, slots := 0, locals := 82 } s m args below meth c H locs 0 0 (Zl D (ctys cI cL) (cw ad cI cL) A below args s Q) (F0 m 37 ls [])) : ∀ (n : Nat) (S : MS) (x3 : Int32) (_ : LX1_weightOf_7 x1 K Q n S x3) (H : Heap) (locs : List Loc) (ls : Array Slot), WW D (ctys cI cL) (cw ad cI cL S) A s H locs → lv_has ls 4 [(0, .ref (ad 4)), (1, .int x1), (3, .int x3)] → W p l e { frames := 4, cells := 0, slots := 0, locals := 82 } s m args below meth c H locs 0 0 (Zl D (ctys cI cL) (cw ad cI cL) A below args s Q) (F0 m 7 ls []) := by
  have hx := C.1
  have hb := C.2.1
  intro n
  induction n with
  | zero => intro S x3 hq; exact absurd hq (by rw [LX1_weightOf_7]; exact id)
  | succ n ih =>
    intro S x3 hq H locs ls hw hl
    rw [LX1_weightOf_7] at hq
    refine lv_iload_n hx hb dX1_weightOf_7 rfl (lv_at hl 2 rfl) ?_
    refine lv_aload_n hx hb dX1_weightOf_8 rfl (lv_at hl 0 rfl) ?_
    refine w_get C hw uw_X1 4 cO_X1 rfl 7 (by decide) fl_X1_25 rfl dX1_weightOf_9 ?_
    refine lv_icmp_ge (tgt := 37) hx hb dX1_weightOf_12 (by decide) (fun hc => ?_) (fun hc => ?_)
    · replace hq := hq.1 hc
      exact hK S  _ _ _ hq hw (lv_sub hl [] rfl)
    · replace hq := hq.2 hc
      refine lv_aload_n hx hb dX1_weightOf_15 rfl (lv_at hl 0 rfl) ?_
      refine w_get C hw uw_X1 4 cO_X1 rfl 5 (by decide) fl_X1_18 rfl dX1_weightOf_16 ?_
      refine lv_iload_n hx hb dX1_weightOf_19 rfl (lv_at hl 2 rfl) ?_
      obtain ⟨hin, hq⟩ := hq
      refine w_ild C hw 18 0 cI_12 rfl hin dX1_weightOf_20 ?_
      refine lv_iload_n hx hb dX1_weightOf_21 rfl (lv_at hl 1 rfl) ?_
      refine lv_icmp_ne (tgt := 31) hx hb dX1_weightOf_22 (by decide) (fun hc => ?_) (fun hc => ?_)
      · replace hq := hq.2 hc
        refine lv_iinc (v := x3 + 1) (lv' := [(3, .int (x3 + 1)), (0, .ref (ad 4)), (1, .int x1)]) hx hb dX1_weightOf_31 hl (k := 2) rfl rfl (by decide) rfl (fun ls hl => ?_)
        refine lv_goto (tgt := 7) hx hb dX1_weightOf_34 (by decide) ?_
        exact ih S (x3 + 1) hq _ _ _ hw (lv_sub hl [1, 2, 0] rfl)
      · replace hq := hq.1 hc
        refine lv_aload_n hx hb dX1_weightOf_25 rfl (lv_at hl 0 rfl) ?_
        refine lv_iload_n hx hb dX1_weightOf_26 rfl (lv_at hl 2 rfl) ?_
        refine w_calll hw (w_runV (rest := []) C hw (mX1_weightAt l D ad cI cL S x3 _ hq _) kc_X1_weightAt ml_X1_106 4 cO_X1 rfl rfl ⟨rfl, rfl, Nat.le_of_ble_eq_true rfl, Nat.le_of_ble_eq_true rfl⟩ rfl rfl (Nat.le_of_ble_eq_true rfl) hl.1 dX1_weightOf_27) ?_
        clear hw hq
        intro r_2 S_1 H locs hq hw
        exact w_lret C hw hq dX1_weightOf_30
set_option maxHeartbeats 4000000 in
set_option maxRecDepth 100000 in
theorem mX1_weightOf (l : Launch) (D : va_G) (ad : Nat → Nat) (cI cL : ClassId) (S : MS) (x1 : Int32) (x2 : Int32) (Q : Int64 → MS → Prop) (hq : wX1_weightOf S x1 x2 Q) : Ml l yX1_weightOf cX1_weightOf 4 (some .long) { frames := 4, cells := 0, slots := 0, locals := 82 } D (ctys cI cL) (cw ad cI cL) [.ref (ad 4), .int x1, .int x2] S Q := by
  refine Ml.of (by decide +kernel) (Nat.le_of_ble_eq_true rfl) ?_
  intro p e s m args below meth c A ls C hw hl
  have hx := C.1
  have hb := C.2.1
  have hl : lv_has ls 4 [(0, .ref (ad 4)), (1, .int x1), (2, .int x2)] := hl
  have hw : WW D (ctys cI cL) (cw ad cI cL S) A s s.heap [] := hw
  unfold wX1_weightOf at hq
  refine lv_aload_n hx hb dX1_weightOf_0 rfl (lv_at hl 0 rfl) ?_
  refine lv_iload_n hx hb dX1_weightOf_1 rfl (lv_at hl 2 rfl) ?_
  refine w_callv hw (w_runV (rest := []) C hw (mX1_takeSharesOn l D ad cI cL S x2 _ hq _) kc_X1_takeSharesOn ml_X1_94 4 cO_X1 rfl rfl ⟨rfl, rfl, Nat.le_of_ble_eq_true rfl, Nat.le_of_ble_eq_true rfl⟩ rfl rfl (Nat.le_of_ble_eq_true rfl) hl.1 dX1_weightOf_2) ?_
  clear hw hq
  intro S_1 H locs hq hw
  refine lv_iconst (v := 0) hx hb dX1_weightOf_5 (by decide) ?_
  refine lv_istore_n (lv' := [(3, .int 0), (0, .ref (ad 4)), (1, .int x1), (2, .int x2)]) hx hb dX1_weightOf_6 rfl hl (by decide) rfl (fun ls hl => ?_)
  obtain ⟨n0, hq⟩ := hq
  refine kLX1_weightOf_7 C x1 _ Q ?_ n0 S_1 0 hq _ _ _ hw (lv_sub hl [1, 2, 0] rfl)
  clear hw hl hq
  intro S_3 H locs ls hq hw hl
  refine lv_lconst (v := 0) hx hb dX1_weightOf_37 (by decide) ?_
  exact w_lret C hw hq dX1_weightOf_38
set_option maxHeartbeats 4000000 in
set_option maxRecDepth 100000 in
theorem kJX1_weightiestPart_46 {p : Program} {l : Launch} {e : Env} {s : State} {m : MethodId} {args : Array Value} {below : List Frame} {meth : Method} {c : Code} {D : va_G} {ad : Nat → Nat} {cI cL : ClassId} {A : Nat → Prop} (C : Cx p s m args meth c yX1_weightiestPart.cls cX1_weightiestPart 8 (some .int)) (S : MS) (x2 : Int32) (x3 : Int64) (x5 : Int32) (Hd : MS → Int32 → Int64 → Int32 → Prop) (K : MS → Int32 → Prop) (Q : Int32 → MS → Prop) (hq : JX1_weightiestPart_46 S x2 x3 x5 Hd K Q) (H : Heap) (locs : List Loc) (ls : Array Slot) (hw : WW D (ctys cI cL) (cw ad cI cL S) A s H locs) (hl : lv_has ls 8 [(0, .ref (ad 4)), (2, .int x2), (3, .long x3), (5, .int x5)]) (hH : ∀ (S : MS) (z2 : Int32) (z3 : Int64) (z5 : Int32) (H : Heap) (locs : List Loc) (ls : Array Slot), Hd S z2 z3 z5 → WW D (ctys cI cL) (cw ad cI cL S) A s H locs → lv_has ls 8 [(0, .ref (ad 4)), (2, .int z2), (3, .long z3), (5, .int z5)] → W p l e { frames := 4, cells := 0, slots := 0, locals := 82 } s m args below meth c H locs 0 0 (Zi D (ctys cI cL) (cw ad cI cL) A below args s Q) (F0 m 16 ls [])) (hK : ∀ (S : MS) (z2 : Int32) (H : Heap) (locs : List Loc) (ls : Array Slot), K S z2 → WW D (ctys cI cL) (cw ad cI cL S) A s H locs → lv_has ls 8 [(0, .ref (ad 4)), (2, .int z2)] → W p l e { frames := 4, cells := 0, slots := 0, locals := 82 } s m args below meth c H locs 0 0 (Zi D (ctys cI cL) (cw ad cI cL) A below args s Q) (F0 m 52 ls [])) : W p l e { frames := 4, cells := 0, slots := 0, locals := 82 } s m args below meth c H locs 0 0 (Zi D (ctys cI cL) (cw ad cI cL) A below args s Q) (F0 m 46 ls []) := by
  have hx := C.1
  have hb := C.2.1
  unfold JX1_weightiestPart_46 at hq
  refine lv_iinc (v := x5 + 1) (lv' := [(5, .int (x5 + 1)), (0, .ref (ad 4)), (2, .int x2), (3, .long x3)]) hx hb dX1_weightiestPart_46 hl (k := 3) rfl rfl (by decide) rfl (fun ls hl => ?_)
  refine lv_goto (tgt := 16) hx hb dX1_weightiestPart_49 (by decide) ?_
  exact hH S x2 x3 (x5 + 1) _ _ _ hq hw (lv_sub hl [1, 2, 3, 0] rfl)
set_option maxHeartbeats 4000000 in
set_option maxRecDepth 100000 in
theorem kLX1_weightiestPart_16 {p : Program} {l : Launch} {e : Env} {s : State} {m : MethodId} {args : Array Value} {below : List Frame} {meth : Method} {c : Code} {D : va_G} {ad : Nat → Nat} {cI cL : ClassId} {A : Nat → Prop} (C : Cx p s m args meth c yX1_weightiestPart.cls cX1_weightiestPart 8 (some .int)) (K : MS → Int32 → Prop) (Q : Int32 → MS → Prop) (hK : ∀ (S : MS) (z2 : Int32) (H : Heap) (locs : List Loc) (ls : Array Slot), K S z2 → WW D (ctys cI cL) (cw ad cI cL S) A s H locs → lv_has ls 8 [(0, .ref (ad 4)), (2, .int z2)] → W p l e { frames := 4, cells := 0, slots := 0, locals := 82 } s m args below meth c H locs 0 0 (Zi D (ctys cI cL) (cw ad cI cL) A below args s Q) (F0 m 52 ls [])) : ∀ (n : Nat) (S : MS) (x2 : Int32) (x3 : Int64) (x5 : Int32) (_ : LX1_weightiestPart_16 K Q n S x2 x3 x5) (H : Heap) (locs : List Loc) (ls : Array Slot), WW D (ctys cI cL) (cw ad cI cL S) A s H locs → lv_has ls 8 [(0, .ref (ad 4)), (2, .int x2), (3, .long x3), (5, .int x5)] → W p l e { frames := 4, cells := 0, slots := 0, locals := 82 } s m args below meth c H locs 0 0 (Zi D (ctys cI cL) (cw ad cI cL) A below args s Q) (F0 m 16 ls []) := by
  have hx := C.1
  have hb := C.2.1
  intro n
  induction n with
  | zero => intro S x2 x3 x5 hq; exact absurd hq (by rw [LX1_weightiestPart_16]; exact id)
  | succ n ih =>
    intro S x2 x3 x5 hq H locs ls hw hl
    rw [LX1_weightiestPart_16] at hq
    refine lv_iload hx hb dX1_weightiestPart_16 (lv_at hl 3 rfl) ?_
    refine lv_aload_n hx hb dX1_weightiestPart_18 rfl (lv_at hl 0 rfl) ?_
    refine w_get C hw uw_X1 4 cO_X1 rfl 7 (by decide) fl_X1_25 rfl dX1_weightiestPart_19 ?_
    refine lv_icmp_ge (tgt := 52) hx hb dX1_weightiestPart_22 (by decide) (fun hc => ?_) (fun hc => ?_)
    · replace hq := hq.1 hc
      exact hK S x2 _ _ _ hq hw (lv_sub hl [0, 1] rfl)
    · replace hq := hq.2 hc
      refine lv_aload_n hx hb dX1_weightiestPart_25 rfl (lv_at hl 0 rfl) ?_
      refine lv_iload hx hb dX1_weightiestPart_26 (lv_at hl 3 rfl) ?_
      refine w_calll hw (w_runV (rest := []) C hw (mX1_weightAt l D ad cI cL S x5 _ hq _) kc_X1_weightAt ml_X1_106 4 cO_X1 rfl rfl ⟨rfl, rfl, Nat.le_of_ble_eq_true rfl, Nat.le_of_ble_eq_true rfl⟩ rfl rfl (Nat.le_of_ble_eq_true rfl) hl.1 dX1_weightiestPart_28) ?_
      clear hw hq
      intro r_2 S_1 H locs hq hw
      refine lv_lstore (lv' := [(6, .long r_2), (0, .ref (ad 4)), (2, .int x2), (3, .long x3), (5, .int x5)]) hx hb dX1_weightiestPart_31 hl (by decide) rfl (fun ls hl => ?_)
      refine lv_lload hx hb dX1_weightiestPart_33 (lv_at hl 0 rfl) ?_
      refine lv_lload_n hx hb dX1_weightiestPart_35 rfl (lv_at hl 3 rfl) ?_
      refine W.lcmp hx hb dX1_weightiestPart_36 ?_
      refine lv_if_le (tgt := 46) hx hb dX1_weightiestPart_37 (by decide) (fun hc => ?_) (fun hc => ?_)
      · replace hq := hq.1 hc
        exact kJX1_weightiestPart_46 C S_1 x2 x3 x5 _ K Q hq _ _ _ hw (lv_sub hl [1, 2, 3, 4] rfl) (fun S a2 a3 a5 H locs ls hq hw hl => ih S a2 a3 a5 hq H locs ls hw hl) hK
      · replace hq := hq.2 hc
        refine lv_iload hx hb dX1_weightiestPart_40 (lv_at hl 4 rfl) ?_
        refine lv_istore_n (lv' := [(2, .int x5), (6, .long r_2), (0, .ref (ad 4)), (3, .long x3), (5, .int x5)]) hx hb dX1_weightiestPart_42 rfl hl (by decide) rfl (fun ls hl => ?_)
        refine lv_lload hx hb dX1_weightiestPart_43 (lv_at hl 1 rfl) ?_
        refine lv_lstore_n (lv' := [(3, .long r_2), (2, .int x5), (6, .long r_2), (0, .ref (ad 4)), (5, .int x5)]) hx hb dX1_weightiestPart_45 rfl hl (by decide) rfl (fun ls hl => ?_)
        exact kJX1_weightiestPart_46 C S_1 x5 r_2 x5 _ K Q hq _ _ _ hw (lv_sub hl [3, 1, 0, 4] rfl) (fun S a2 a3 a5 H locs ls hq hw hl => ih S a2 a3 a5 hq H locs ls hw hl) hK
set_option maxHeartbeats 4000000 in
set_option maxRecDepth 100000 in
theorem mX1_weightiestPart (l : Launch) (D : va_G) (ad : Nat → Nat) (cI cL : ClassId) (S : MS) (x1 : Int32) (Q : Int32 → MS → Prop) (hq : wX1_weightiestPart S x1 Q) : Mi l yX1_weightiestPart cX1_weightiestPart 8 (some .int) { frames := 4, cells := 0, slots := 0, locals := 82 } D (ctys cI cL) (cw ad cI cL) [.ref (ad 4), .int x1] S Q := by
  refine Mi.of (by decide +kernel) (Nat.le_of_ble_eq_true rfl) ?_
  intro p e s m args below meth c A ls C hw hl
  have hx := C.1
  have hb := C.2.1
  have hl : lv_has ls 8 [(0, .ref (ad 4)), (1, .int x1)] := hl
  have hw : WW D (ctys cI cL) (cw ad cI cL S) A s s.heap [] := hw
  unfold wX1_weightiestPart at hq
  refine lv_aload_n hx hb dX1_weightiestPart_0 rfl (lv_at hl 0 rfl) ?_
  refine lv_iload_n hx hb dX1_weightiestPart_1 rfl (lv_at hl 1 rfl) ?_
  refine w_callv hw (w_runV (rest := []) C hw (mX1_takeSharesOn l D ad cI cL S x1 _ hq _) kc_X1_takeSharesOn ml_X1_94 4 cO_X1 rfl rfl ⟨rfl, rfl, Nat.le_of_ble_eq_true rfl, Nat.le_of_ble_eq_true rfl⟩ rfl rfl (Nat.le_of_ble_eq_true rfl) hl.1 dX1_weightiestPart_2) ?_
  clear hw hq
  intro S_1 H locs hq hw
  refine lv_iconst (v := 0) hx hb dX1_weightiestPart_5 (by decide) ?_
  refine lv_istore_n (lv' := [(2, .int 0), (0, .ref (ad 4)), (1, .int x1)]) hx hb dX1_weightiestPart_6 rfl hl (by decide) rfl (fun ls hl => ?_)
  refine lv_aload_n hx hb dX1_weightiestPart_7 rfl (lv_at hl 1 rfl) ?_
  refine lv_iconst (v := 0) hx hb dX1_weightiestPart_8 (by decide) ?_
  refine w_calll hw (w_runV (rest := []) C hw (mX1_weightAt l D ad cI cL S_1 0 _ hq _) kc_X1_weightAt ml_X1_106 4 cO_X1 rfl rfl ⟨rfl, rfl, Nat.le_of_ble_eq_true rfl, Nat.le_of_ble_eq_true rfl⟩ rfl rfl (Nat.le_of_ble_eq_true rfl) hl.1 dX1_weightiestPart_9) ?_
  clear hw hq
  intro r_4 S_3 H locs hq hw
  refine lv_lstore_n (lv' := [(3, .long r_4), (2, .int 0), (0, .ref (ad 4)), (1, .int x1)]) hx hb dX1_weightiestPart_12 rfl hl (by decide) rfl (fun ls hl => ?_)
  refine lv_iconst (v := 1) hx hb dX1_weightiestPart_13 (by decide) ?_
  refine lv_istore (lv' := [(5, .int 1), (3, .long r_4), (2, .int 0), (0, .ref (ad 4)), (1, .int x1)]) hx hb dX1_weightiestPart_14 hl (by decide) rfl (fun ls hl => ?_)
  obtain ⟨n0, hq⟩ := hq
  refine kLX1_weightiestPart_16 C _ Q ?_ n0 S_3 0 r_4 1 hq _ _ _ hw (lv_sub hl [3, 2, 1, 0] rfl)
  clear hw hl hq
  intro S_5 y_6 H locs ls hq hw hl
  refine lv_aload_n hx hb dX1_weightiestPart_52 rfl (lv_at hl 0 rfl) ?_
  refine w_get C hw uw_X1 4 cO_X1 rfl 5 (by decide) fl_X1_18 rfl dX1_weightiestPart_53 ?_
  refine lv_iload_n hx hb dX1_weightiestPart_56 rfl (lv_at hl 1 rfl) ?_
  obtain ⟨hin, hq⟩ := hq
  refine w_ild C hw 18 0 cI_12 rfl hin dX1_weightiestPart_57 ?_
  exact w_iret C hw hq dX1_weightiestPart_58
set_option maxHeartbeats 4000000 in
set_option maxRecDepth 100000 in
theorem mX1_memberCount (l : Launch) (D : va_G) (ad : Nat → Nat) (cI cL : ClassId) (S : MS) (Q : Int32 → MS → Prop) (hq : wX1_memberCount S Q) : Mi l yX1_memberCount cX1_memberCount 1 (some .int) { frames := 0, cells := 0, slots := 0, locals := 0 } D (ctys cI cL) (cw ad cI cL) [.ref (ad 4)] S Q := by
  refine Mi.of (by decide +kernel) (Nat.le_of_ble_eq_true rfl) ?_
  intro p e s m args below meth c A ls C hw hl
  have hx := C.1
  have hb := C.2.1
  have hl : lv_has ls 1 [(0, .ref (ad 4))] := hl
  have hw : WW D (ctys cI cL) (cw ad cI cL S) A s s.heap [] := hw
  unfold wX1_memberCount at hq
  refine lv_aload_n hx hb dX1_memberCount_0 rfl (lv_at hl 0 rfl) ?_
  refine w_get C hw uw_X1 4 cO_X1 rfl 7 (by decide) fl_X1_25 rfl dX1_memberCount_1 ?_
  exact w_iret C hw hq dX1_memberCount_4
set_option maxHeartbeats 4000000 in
set_option maxRecDepth 100000 in
theorem mX1_memberAt (l : Launch) (D : va_G) (ad : Nat → Nat) (cI cL : ClassId) (S : MS) (x1 : Int32) (Q : Int32 → MS → Prop) (hq : wX1_memberAt S x1 Q) : Mi l yX1_memberAt cX1_memberAt 2 (some .int) { frames := 0, cells := 0, slots := 0, locals := 0 } D (ctys cI cL) (cw ad cI cL) [.ref (ad 4), .int x1] S Q := by
  refine Mi.of (by decide +kernel) (Nat.le_of_ble_eq_true rfl) ?_
  intro p e s m args below meth c A ls C hw hl
  have hx := C.1
  have hb := C.2.1
  have hl : lv_has ls 2 [(0, .ref (ad 4)), (1, .int x1)] := hl
  have hw : WW D (ctys cI cL) (cw ad cI cL S) A s s.heap [] := hw
  unfold wX1_memberAt at hq
  refine lv_aload_n hx hb dX1_memberAt_0 rfl (lv_at hl 0 rfl) ?_
  refine w_get C hw uw_X1 4 cO_X1 rfl 5 (by decide) fl_X1_18 rfl dX1_memberAt_1 ?_
  refine lv_iload_n hx hb dX1_memberAt_4 rfl (lv_at hl 1 rfl) ?_
  obtain ⟨hin, hq⟩ := hq
  refine w_ild C hw 18 0 cI_12 rfl hin dX1_memberAt_5 ?_
  exact w_iret C hw hq dX1_memberAt_6
set_option maxHeartbeats 4000000 in
set_option maxRecDepth 100000 in
theorem mX1_setShare (l : Launch) (D : va_G) (ad : Nat → Nat) (cI cL : ClassId) (S : MS) (x1 : Int32) (x2 : Int32) (Q : MS → Prop) (hq : wX1_setShare S x1 x2 Q) : Mv l yX1_setShare cX1_setShare 3 none { frames := 0, cells := 0, slots := 0, locals := 0 } D (ctys cI cL) (cw ad cI cL) [.ref (ad 4), .int x1, .int x2] S Q := by
  refine Mv.of (by decide +kernel) (Nat.le_of_ble_eq_true rfl) ?_
  intro p e s m args below meth c A ls C hw hl
  have hx := C.1
  have hb := C.2.1
  have hl : lv_has ls 3 [(0, .ref (ad 4)), (1, .int x1), (2, .int x2)] := hl
  have hw : WW D (ctys cI cL) (cw ad cI cL S) A s s.heap [] := hw
  unfold wX1_setShare at hq
  refine lv_aload_n hx hb dX1_setShare_0 rfl (lv_at hl 0 rfl) ?_
  refine w_get C hw uw_X1 4 cO_X1 rfl 6 (by decide) fl_X1_22 rfl dX1_setShare_1 ?_
  refine lv_iload_n hx hb dX1_setShare_4 rfl (lv_at hl 1 rfl) ?_
  refine lv_iload_n hx hb dX1_setShare_5 rfl (lv_at hl 2 rfl) ?_
  obtain ⟨hin, hq⟩ := hq
  obtain ⟨S_1, eS_1⟩ : ∃ z, z = uI S 13 x1.toNatClampNeg x2 := ⟨_, rfl⟩
  replace hq := hq S_1 eS_1
  refine w_ist (ws' := cw ad cI cL S_1) C hw 19 0 cI_13 rfl hin dX1_setShare_6 (by rw [eS_1]; exact cIs_13) (fun H locs hw => ?_)
  exact w_vret C hw hq dX1_setShare_7
set_option maxHeartbeats 4000000 in
set_option maxRecDepth 100000 in
theorem mX2_has (l : Launch) (D : va_G) (ad : Nat → Nat) (cI cL : ClassId) (S : MS) (x1 : Int32) (Q : Int32 → MS → Prop) (hq : wX2_has S x1 Q) : Mi l yX2_has cX2_has 2 (some .boolean) { frames := 0, cells := 0, slots := 0, locals := 0 } D (ctys cI cL) (cw ad cI cL) [.ref (ad 1), .int x1] S Q := by
  refine Mi.of (by decide +kernel) (Nat.le_of_ble_eq_true rfl) ?_
  intro p e s m args below meth c A ls C hw hl
  have hx := C.1
  have hb := C.2.1
  have hl : lv_has ls 2 [(0, .ref (ad 1)), (1, .int x1)] := hl
  have hw : WW D (ctys cI cL) (cw ad cI cL S) A s s.heap [] := hw
  unfold wX2_has at hq
  refine lv_iload_n hx hb dX2_has_0 rfl (lv_at hl 1 rfl) ?_
  refine lv_if_lt (tgt := 16) hx hb dX2_has_1 (by decide) (fun hc => ?_) (fun hc => ?_)
  · replace hq := hq.1 hc
    refine lv_iconst (v := 0) hx hb dX2_has_16 (by decide) ?_
    exact w_zret C hw rfl hq dX2_has_17
  · replace hq := hq.2 hc
    refine lv_iload_n hx hb dX2_has_4 rfl (lv_at hl 1 rfl) ?_
    refine lv_aload_n hx hb dX2_has_5 rfl (lv_at hl 0 rfl) ?_
    refine w_get C hw uw_X2 1 cO_X2 rfl 8 (by decide) fl_X2_38 rfl dX2_has_6 ?_
    refine lv_icmp_ge (tgt := 16) hx hb dX2_has_9 (by decide) (fun hc => ?_) (fun hc => ?_)
    · replace hq := hq.1 hc
      refine lv_iconst (v := 0) hx hb dX2_has_16 (by decide) ?_
      exact w_zret C hw rfl hq dX2_has_17
    · replace hq := hq.2 hc
      refine lv_iconst (v := 1) hx hb dX2_has_12 (by decide) ?_
      refine lv_goto (tgt := 17) hx hb dX2_has_13 (by decide) ?_
      exact w_zret C hw rfl hq dX2_has_17
set_option maxHeartbeats 4000000 in
set_option maxRecDepth 100000 in
theorem mX2_hasAll (l : Launch) (D : va_G) (ad : Nat → Nat) (cI cL : ClassId) (S : MS) (x1 : Int32) (Q : Int32 → MS → Prop) (hq : wX2_hasAll S x1 Q) : Mi l yX2_hasAll cX2_hasAll 2 (some .boolean) { frames := 0, cells := 0, slots := 0, locals := 0 } D (ctys cI cL) (cw ad cI cL) [.ref (ad 1), .int x1] S Q := by
  refine Mi.of (by decide +kernel) (Nat.le_of_ble_eq_true rfl) ?_
  intro p e s m args below meth c A ls C hw hl
  have hx := C.1
  have hb := C.2.1
  have hl : lv_has ls 2 [(0, .ref (ad 1)), (1, .int x1)] := hl
  have hw : WW D (ctys cI cL) (cw ad cI cL S) A s s.heap [] := hw
  unfold wX2_hasAll at hq
  refine lv_iload_n hx hb dX2_hasAll_0 rfl (lv_at hl 1 rfl) ?_
  refine lv_aload_n hx hb dX2_hasAll_1 rfl (lv_at hl 0 rfl) ?_
  refine w_get C hw uw_X2 1 cO_X2 rfl 8 (by decide) fl_X2_38 rfl dX2_hasAll_2 ?_
  refine lv_iushr (v := (jiushr x1 (S.2.2 1))) hx hb dX2_hasAll_5 rfl ?_
  refine lv_if_ne (tgt := 13) hx hb dX2_hasAll_6 (by decide) (fun hc => ?_) (fun hc => ?_)
  · replace hq := hq.2 hc
    refine lv_iconst (v := 0) hx hb dX2_hasAll_13 (by decide) ?_
    exact w_zret C hw rfl hq dX2_hasAll_14
  · replace hq := hq.1 hc
    refine lv_iconst (v := 1) hx hb dX2_hasAll_9 (by decide) ?_
    refine lv_goto (tgt := 14) hx hb dX2_hasAll_10 (by decide) ?_
    exact w_zret C hw rfl hq dX2_hasAll_14
set_option maxHeartbeats 4000000 in
set_option maxRecDepth 100000 in
theorem mX2_size (l : Launch) (D : va_G) (ad : Nat → Nat) (cI cL : ClassId) (S : MS) (Q : Int32 → MS → Prop) (hq : wX2_size S Q) : Mi l yX2_size cX2_size 1 (some .int) { frames := 0, cells := 0, slots := 0, locals := 0 } D (ctys cI cL) (cw ad cI cL) [.ref (ad 1)] S Q := by
  refine Mi.of (by decide +kernel) (Nat.le_of_ble_eq_true rfl) ?_
  intro p e s m args below meth c A ls C hw hl
  have hx := C.1
  have hb := C.2.1
  have hl : lv_has ls 1 [(0, .ref (ad 1))] := hl
  have hw : WW D (ctys cI cL) (cw ad cI cL S) A s s.heap [] := hw
  unfold wX2_size at hq
  refine lv_aload_n hx hb dX2_size_0 rfl (lv_at hl 0 rfl) ?_
  refine w_get C hw uw_X2 1 cO_X2 rfl 8 (by decide) fl_X2_38 rfl dX2_size_1 ?_
  exact w_iret C hw hq dX2_size_4
set_option maxHeartbeats 4000000 in
set_option maxRecDepth 100000 in
theorem mX2_add (l : Launch) (D : va_G) (ad : Nat → Nat) (cI cL : ClassId) (S : MS) (x1 : Int32) (x2 : Int32) (x3 : Int32) (Q : Int32 → MS → Prop) (hq : wX2_add S x1 x2 x3 Q) : Mi l yX2_add cX2_add 4 (some .int) { frames := 0, cells := 0, slots := 0, locals := 0 } D (ctys cI cL) (cw ad cI cL) [.ref (ad 1), .int x1, .int x2, .int x3] S Q := by
  refine Mi.of (by decide +kernel) (Nat.le_of_ble_eq_true rfl) ?_
  intro p e s m args below meth c A ls C hw hl
  have hx := C.1
  have hb := C.2.1
  have hl : lv_has ls 4 [(0, .ref (ad 1)), (1, .int x1), (2, .int x2), (3, .int x3)] := hl
  have hw : WW D (ctys cI cL) (cw ad cI cL S) A s s.heap [] := hw
  unfold wX2_add at hq
  refine lv_aload_n hx hb dX2_add_0 rfl (lv_at hl 0 rfl) ?_
  refine w_get C hw uw_X2 1 cO_X2 rfl 8 (by decide) fl_X2_38 rfl dX2_add_1 ?_
  refine lv_bipush (v := 12) hx hb dX2_add_4 (by decide) ?_
  refine lv_icmp_lt (tgt := 12) hx hb dX2_add_6 (by decide) (fun hc => ?_) (fun hc => ?_)
  · replace hq := hq.1 hc
    refine lv_aload_n hx hb dX2_add_12 rfl (lv_at hl 0 rfl) ?_
    refine w_get C hw uw_X2 1 cO_X2 rfl 0 (by decide) fl_X2_9 rfl dX2_add_13 ?_
    refine lv_aload_n hx hb dX2_add_16 rfl (lv_at hl 0 rfl) ?_
    refine w_get C hw uw_X2 1 cO_X2 rfl 8 (by decide) fl_X2_38 rfl dX2_add_17 ?_
    refine lv_iload_n hx hb dX2_add_20 rfl (lv_at hl 1 rfl) ?_
    obtain ⟨hin, hq⟩ := hq
    obtain ⟨S_1, eS_1⟩ : ∃ z, z = uI S 0 (S.2.2 1).toNatClampNeg x1 := ⟨_, rfl⟩
    replace hq := hq S_1 eS_1
    refine w_ist (ws' := cw ad cI cL S_1) C hw 6 0 cI_0 rfl hin dX2_add_21 (by rw [eS_1]; exact cIs_0) (fun H locs hw => ?_)
    refine lv_aload_n hx hb dX2_add_22 rfl (lv_at hl 0 rfl) ?_
    refine w_get C hw uw_X2 1 cO_X2 rfl 1 (by decide) fl_X2_15 rfl dX2_add_23 ?_
    refine lv_aload_n hx hb dX2_add_26 rfl (lv_at hl 0 rfl) ?_
    refine w_get C hw uw_X2 1 cO_X2 rfl 8 (by decide) fl_X2_38 rfl dX2_add_27 ?_
    refine lv_iload_n hx hb dX2_add_30 rfl (lv_at hl 2 rfl) ?_
    obtain ⟨hin, hq⟩ := hq
    obtain ⟨S_2, eS_2⟩ : ∃ z, z = uI S_1 1 (S_1.2.2 1).toNatClampNeg x2 := ⟨_, rfl⟩
    replace hq := hq S_2 eS_2
    refine w_ist (ws' := cw ad cI cL S_2) C hw 7 0 cI_1 rfl hin dX2_add_31 (by rw [eS_2]; exact cIs_1) (fun H locs hw => ?_)
    refine lv_aload_n hx hb dX2_add_32 rfl (lv_at hl 0 rfl) ?_
    refine w_get C hw uw_X2 1 cO_X2 rfl 2 (by decide) fl_X2_18 rfl dX2_add_33 ?_
    refine lv_aload_n hx hb dX2_add_36 rfl (lv_at hl 0 rfl) ?_
    refine w_get C hw uw_X2 1 cO_X2 rfl 8 (by decide) fl_X2_38 rfl dX2_add_37 ?_
    refine lv_iload_n hx hb dX2_add_40 rfl (lv_at hl 3 rfl) ?_
    obtain ⟨hin, hq⟩ := hq
    obtain ⟨S_3, eS_3⟩ : ∃ z, z = uI S_2 2 (S_2.2.2 1).toNatClampNeg x3 := ⟨_, rfl⟩
    replace hq := hq S_3 eS_3
    refine w_ist (ws' := cw ad cI cL S_3) C hw 8 0 cI_2 rfl hin dX2_add_41 (by rw [eS_3]; exact cIs_2) (fun H locs hw => ?_)
    refine lv_aload_n hx hb dX2_add_42 rfl (lv_at hl 0 rfl) ?_
    refine w_get C hw uw_X2 1 cO_X2 rfl 3 (by decide) fl_X2_21 rfl dX2_add_43 ?_
    refine lv_aload_n hx hb dX2_add_46 rfl (lv_at hl 0 rfl) ?_
    refine w_get C hw uw_X2 1 cO_X2 rfl 8 (by decide) fl_X2_38 rfl dX2_add_47 ?_
    refine lv_iconst (v := 1) hx hb dX2_add_50 (by decide) ?_
    obtain ⟨hin, hq⟩ := hq
    obtain ⟨S_4, eS_4⟩ : ∃ z, z = uI S_3 3 (S_3.2.2 1).toNatClampNeg 1 := ⟨_, rfl⟩
    replace hq := hq S_4 eS_4
    refine w_ist (ws' := cw ad cI cL S_4) C hw 9 0 cI_3 rfl hin dX2_add_51 (by rw [eS_4]; exact cIs_3) (fun H locs hw => ?_)
    refine lv_aload_n hx hb dX2_add_52 rfl (lv_at hl 0 rfl) ?_
    refine lv_dup hx hb dX2_add_53 rfl ?_
    refine w_get C hw uw_X2 1 cO_X2 rfl 8 (by decide) fl_X2_38 rfl dX2_add_54 ?_
    refine lv_iconst (v := 1) hx hb dX2_add_57 (by decide) ?_
    refine lv_iadd hx hb dX2_add_58 ?_
    obtain ⟨S_5, eS_5⟩ : ∃ z, z = uF S_4 1 ((S_4.2.2 1) + 1) := ⟨_, rfl⟩
    replace hq := hq S_5 eS_5
    refine w_put (ws' := cw ad cI cL S_5) C hw uw_X2 tyX2 tyX2_ok nmX2 1 cO_X2 rfl 8 (by decide) fl_X2_38 rfl (by decide +kernel) (Nat.le_of_ble_eq_true rfl) dX2_add_59 (by rw [eS_5]; exact cFs_1) (fun H locs hw => ?_)
    refine lv_aload_n hx hb dX2_add_62 rfl (lv_at hl 0 rfl) ?_
    refine w_get C hw uw_X2 1 cO_X2 rfl 8 (by decide) fl_X2_38 rfl dX2_add_63 ?_
    refine lv_iconst (v := 1) hx hb dX2_add_66 (by decide) ?_
    refine lv_isub hx hb dX2_add_67 ?_
    exact w_iret C hw hq dX2_add_68
  · replace hq := hq.2 hc
    refine lv_bipush (v := (-3)) hx hb dX2_add_9 (by decide) ?_
    exact w_iret C hw hq dX2_add_11
set_option maxHeartbeats 4000000 in
set_option maxRecDepth 100000 in
theorem kJX2_addTest_31 {p : Program} {l : Launch} {e : Env} {s : State} {m : MethodId} {args : Array Value} {below : List Frame} {meth : Method} {c : Code} {D : va_G} {ad : Nat → Nat} {cI cL : ClassId} {A : Nat → Prop} (C : Cx p s m args meth c yX2_addTest.cls cX2_addTest 4 (some .int)) (S : MS) (x1 : Int32) (x2 : Int32) (x3 : Int32) (Q : Int32 → MS → Prop) (hq : JX2_addTest_31 S x1 x2 x3 Q) (H : Heap) (locs : List Loc) (ls : Array Slot) (hw : WW D (ctys cI cL) (cw ad cI cL S) A s H locs) (hl : lv_has ls 4 [(0, .ref (ad 1)), (1, .int x1), (2, .int x2), (3, .int x3)]) : W p l e { frames := 0, cells := 0, slots := 0, locals := 0 } s m args below meth c H locs 0 0 (Zi D (ctys cI cL) (cw ad cI cL) A below args s Q) (F0 m 31 ls []) := by
  have hx := C.1
  have hb := C.2.1
  unfold JX2_addTest_31 at hq
  refine lv_iload_n hx hb dX2_addTest_31 rfl (lv_at hl 3 rfl) ?_
  refine lv_bipush (v := 12) hx hb dX2_addTest_32 (by decide) ?_
  refine lv_icmp_lt (tgt := 40) hx hb dX2_addTest_34 (by decide) (fun hc => ?_) (fun hc => ?_)
  · replace hq := hq.1 hc
    refine lv_aload_n hx hb dX2_addTest_40 rfl (lv_at hl 0 rfl) ?_
    refine w_get C hw uw_X2 1 cO_X2 rfl 5 (by decide) fl_X2_27 rfl dX2_addTest_41 ?_
    refine lv_iload_n hx hb dX2_addTest_44 rfl (lv_at hl 1 rfl) ?_
    refine lv_bipush (v := 12) hx hb dX2_addTest_45 (by decide) ?_
    refine lv_imul hx hb dX2_addTest_47 ?_
    refine lv_iload_n hx hb dX2_addTest_48 rfl (lv_at hl 3 rfl) ?_
    refine lv_iadd hx hb dX2_addTest_49 ?_
    refine lv_iload_n hx hb dX2_addTest_50 rfl (lv_at hl 2 rfl) ?_
    obtain ⟨hin, hq⟩ := hq
    obtain ⟨S_3, eS_3⟩ : ∃ z, z = uI S 5 ((x1 * 12) + x3).toNatClampNeg x2 := ⟨_, rfl⟩
    replace hq := hq S_3 eS_3
    refine w_ist (ws' := cw ad cI cL S_3) C hw 11 0 cI_5 rfl hin dX2_addTest_51 (by rw [eS_3]; exact cIs_5) (fun H locs hw => ?_)
    refine lv_aload_n hx hb dX2_addTest_52 rfl (lv_at hl 0 rfl) ?_
    refine w_get C hw uw_X2 1 cO_X2 rfl 4 (by decide) fl_X2_24 rfl dX2_addTest_53 ?_
    refine lv_iload_n hx hb dX2_addTest_56 rfl (lv_at hl 1 rfl) ?_
    refine lv_iload_n hx hb dX2_addTest_57 rfl (lv_at hl 3 rfl) ?_
    refine lv_iconst (v := 1) hx hb dX2_addTest_58 (by decide) ?_
    refine lv_iadd hx hb dX2_addTest_59 ?_
    obtain ⟨hin, hq⟩ := hq
    obtain ⟨S_4, eS_4⟩ : ∃ z, z = uI S_3 4 x1.toNatClampNeg (x3 + 1) := ⟨_, rfl⟩
    replace hq := hq S_4 eS_4
    refine w_ist (ws' := cw ad cI cL S_4) C hw 10 0 cI_4 rfl hin dX2_addTest_60 (by rw [eS_4]; exact cIs_4) (fun H locs hw => ?_)
    refine lv_iload_n hx hb dX2_addTest_61 rfl (lv_at hl 3 rfl) ?_
    refine lv_iconst (v := 1) hx hb dX2_addTest_62 (by decide) ?_
    refine lv_iadd hx hb dX2_addTest_63 ?_
    exact w_iret C hw hq dX2_addTest_64
  · replace hq := hq.2 hc
    refine lv_bipush (v := (-3)) hx hb dX2_addTest_37 (by decide) ?_
    exact w_iret C hw hq dX2_addTest_39
set_option maxHeartbeats 4000000 in
set_option maxRecDepth 100000 in
theorem mX2_addTest (l : Launch) (D : va_G) (ad : Nat → Nat) (cI cL : ClassId) (S : MS) (x1 : Int32) (x2 : Int32) (Q : Int32 → MS → Prop) (hq : wX2_addTest S x1 x2 Q) : Mi l yX2_addTest cX2_addTest 4 (some .int) { frames := 0, cells := 0, slots := 0, locals := 0 } D (ctys cI cL) (cw ad cI cL) [.ref (ad 1), .int x1, .int x2] S Q := by
  refine Mi.of (by decide +kernel) (Nat.le_of_ble_eq_true rfl) ?_
  intro p e s m args below meth c A ls C hw hl
  have hx := C.1
  have hb := C.2.1
  have hl : lv_has ls 4 [(0, .ref (ad 1)), (1, .int x1), (2, .int x2)] := hl
  have hw : WW D (ctys cI cL) (cw ad cI cL S) A s s.heap [] := hw
  unfold wX2_addTest at hq
  refine lv_aload_n hx hb dX2_addTest_0 rfl (lv_at hl 0 rfl) ?_
  refine w_get C hw uw_X2 1 cO_X2 rfl 4 (by decide) fl_X2_24 rfl dX2_addTest_1 ?_
  refine lv_iload_n hx hb dX2_addTest_4 rfl (lv_at hl 1 rfl) ?_
  obtain ⟨hin, hq⟩ := hq
  refine w_ild C hw 10 0 cI_4 rfl hin dX2_addTest_5 ?_
  refine lv_istore_n (lv' := [(3, .int (S.1 4 x1.toNatClampNeg)), (0, .ref (ad 1)), (1, .int x1), (2, .int x2)]) hx hb dX2_addTest_6 rfl hl (by decide) rfl (fun ls hl => ?_)
  refine lv_iload_n hx hb dX2_addTest_7 rfl (lv_at hl 0 rfl) ?_
  refine lv_if_le (tgt := 31) hx hb dX2_addTest_8 (by decide) (fun hc => ?_) (fun hc => ?_)
  · replace hq := hq.1 hc
    exact kJX2_addTest_31 C S x1 x2 (S.1 4 x1.toNatClampNeg) Q hq _ _ _ hw (lv_sub hl [1, 2, 3, 0] rfl)
  · replace hq := hq.2 hc
    refine lv_iload_n hx hb dX2_addTest_11 rfl (lv_at hl 3 rfl) ?_
    refine lv_aload_n hx hb dX2_addTest_12 rfl (lv_at hl 1 rfl) ?_
    refine w_get C hw uw_X2 1 cO_X2 rfl 5 (by decide) fl_X2_27 rfl dX2_addTest_13 ?_
    refine lv_iload_n hx hb dX2_addTest_16 rfl (lv_at hl 2 rfl) ?_
    refine lv_bipush (v := 12) hx hb dX2_addTest_17 (by decide) ?_
    refine lv_imul hx hb dX2_addTest_19 ?_
    refine lv_iload_n hx hb dX2_addTest_20 rfl (lv_at hl 0 rfl) ?_
    refine lv_iadd hx hb dX2_addTest_21 ?_
    refine lv_iconst (v := 1) hx hb dX2_addTest_22 (by decide) ?_
    refine lv_isub hx hb dX2_addTest_23 ?_
    obtain ⟨hin, hq⟩ := hq
    refine w_ild C hw 11 0 cI_5 rfl hin dX2_addTest_24 ?_
    refine lv_icmp_gt (tgt := 31) hx hb dX2_addTest_25 (by decide) (fun hc => ?_) (fun hc => ?_)
    · replace hq := hq.1 hc
      exact kJX2_addTest_31 C S x1 x2 (S.1 4 x1.toNatClampNeg) Q hq _ _ _ hw (lv_sub hl [1, 2, 3, 0] rfl)
    · replace hq := hq.2 hc
      refine lv_bipush (v := (-2)) hx hb dX2_addTest_28 (by decide) ?_
      exact w_iret C hw hq dX2_addTest_30
set_option maxHeartbeats 4000000 in
set_option maxRecDepth 100000 in
theorem mX2_dropTests (l : Launch) (D : va_G) (ad : Nat → Nat) (cI cL : ClassId) (S : MS) (x1 : Int32) (x2 : Int32) (Q : Int32 → MS → Prop) (hq : wX2_dropTests S x1 x2 Q) : Mi l yX2_dropTests cX2_dropTests 5 (some .int) { frames := 1, cells := 0, slots := 0, locals := 24 } D (ctys cI cL) (cw ad cI cL) [.ref (ad 1), .int x1, .int x2] S Q := by
  refine Mi.of (by decide +kernel) (Nat.le_of_ble_eq_true rfl) ?_
  intro p e s m args below meth c A ls C hw hl
  have hx := C.1
  have hb := C.2.1
  have hl : lv_has ls 5 [(0, .ref (ad 1)), (1, .int x1), (2, .int x2)] := hl
  have hw : WW D (ctys cI cL) (cw ad cI cL S) A s s.heap [] := hw
  unfold wX2_dropTests at hq
  refine lv_aload_n hx hb dX2_dropTests_0 rfl (lv_at hl 0 rfl) ?_
  refine lv_iload_n hx hb dX2_dropTests_1 rfl (lv_at hl 1 rfl) ?_
  refine lv_iload_n hx hb dX2_dropTests_2 rfl (lv_at hl 2 rfl) ?_
  refine lv_iconst (v := 1) hx hb dX2_dropTests_3 (by decide) ?_
  refine lv_isub hx hb dX2_dropTests_4 ?_
  refine w_calli hw (w_runV (rest := []) C hw (mX2_testsUpTo l D ad cI cL S x1 (x2 - 1) _ hq _) kc_X2_testsUpTo ml_X2_41 1 cO_X2 rfl rfl ⟨rfl, rfl, Nat.le_of_ble_eq_true rfl, Nat.le_of_ble_eq_true rfl⟩ rfl rfl (Nat.le_of_ble_eq_true rfl) hl.1 dX2_dropTests_5) ?_
  clear hw hq
  intro r_2 S_1 H locs hq hw
  refine lv_istore_n (lv' := [(3, .int r_2), (0, .ref (ad 1)), (1, .int x1), (2, .int x2)]) hx hb dX2_dropTests_8 rfl hl (by decide) rfl (fun ls hl => ?_)
  refine lv_aload_n hx hb dX2_dropTests_9 rfl (lv_at hl 1 rfl) ?_
  refine w_get C hw uw_X2 1 cO_X2 rfl 4 (by decide) fl_X2_24 rfl dX2_dropTests_10 ?_
  refine lv_iload_n hx hb dX2_dropTests_13 rfl (lv_at hl 2 rfl) ?_
  obtain ⟨hin, hq⟩ := hq
  refine w_ild C hw 10 0 cI_4 rfl hin dX2_dropTests_14 ?_
  refine lv_iload_n hx hb dX2_dropTests_15 rfl (lv_at hl 0 rfl) ?_
  refine lv_isub hx hb dX2_dropTests_16 ?_
  refine lv_istore (lv' := [(4, .int ((S_1.1 4 x1.toNatClampNeg) - r_2)), (3, .int r_2), (0, .ref (ad 1)), (1, .int x1), (2, .int x2)]) hx hb dX2_dropTests_17 hl (by decide) rfl (fun ls hl => ?_)
  refine lv_aload_n hx hb dX2_dropTests_19 rfl (lv_at hl 2 rfl) ?_
  refine w_get C hw uw_X2 1 cO_X2 rfl 4 (by decide) fl_X2_24 rfl dX2_dropTests_20 ?_
  refine lv_iload_n hx hb dX2_dropTests_23 rfl (lv_at hl 3 rfl) ?_
  refine lv_iload_n hx hb dX2_dropTests_24 rfl (lv_at hl 1 rfl) ?_
  obtain ⟨hin, hq⟩ := hq
  obtain ⟨S_3, eS_3⟩ : ∃ z, z = uI S_1 4 x1.toNatClampNeg r_2 := ⟨_, rfl⟩
  replace hq := hq S_3 eS_3
  refine w_ist (ws' := cw ad cI cL S_3) C hw 10 0 cI_4 rfl hin dX2_dropTests_25 (by rw [eS_3]; exact cIs_4) (fun H locs hw => ?_)
  refine lv_iload hx hb dX2_dropTests_26 (lv_at hl 0 rfl) ?_
  exact w_iret C hw hq dX2_dropTests_28
set_option maxHeartbeats 4000000 in
set_option maxRecDepth 100000 in
theorem kLX2_allTests_4 {p : Program} {l : Launch} {e : Env} {s : State} {m : MethodId} {args : Array Value} {below : List Frame} {meth : Method} {c : Code} {D : va_G} {ad : Nat → Nat} {cI cL : ClassId} {A : Nat → Prop} (C : Cx p s m args meth c yX2_allTests.cls cX2_allTests 3 (some .int)) (K : MS → Int32 → Prop) (Q : Int32 → MS → Prop) (hK : ∀ (S : MS) (z1 : Int32) (H : Heap) (locs : List Loc) (ls : Array Slot), K S z1 → WW D (ctys cI cL) (cw ad cI cL S) A s H locs → lv_has ls 3 [(1, .int z1)] → W p l e { frames := 0, cells := 0, slots := 0, locals := 0 } s m args below meth c H locs 0 0 (Zi D (ctys cI cL) (cw ad cI cL) A below args s Q) (F0 m 27 ls [])) : ∀ (n : Nat) (S : MS) (x1 : Int32) (x2 : Int32) (_ : LX2_allTests_4 K Q n S x1 x2) (H : Heap) (locs : List Loc) (ls : Array Slot), WW D (ctys cI cL) (cw ad cI cL S) A s H locs → lv_has ls 3 [(0, .ref (ad 1)), (1, .int x1), (2, .int x2)] → W p l e { frames := 0, cells := 0, slots := 0, locals := 0 } s m args below meth c H locs 0 0 (Zi D (ctys cI cL) (cw ad cI cL) A below args s Q) (F0 m 4 ls []) := by
  have hx := C.1
  have hb := C.2.1
  intro n
  induction n with
  | zero => intro S x1 x2 hq; exact absurd hq (by rw [LX2_allTests_4]; exact id)
  | succ n ih =>
    intro S x1 x2 hq H locs ls hw hl
    rw [LX2_allTests_4] at hq
    refine lv_iload_n hx hb dX2_allTests_4 rfl (lv_at hl 2 rfl) ?_
    refine lv_aload_n hx hb dX2_allTests_5 rfl (lv_at hl 0 rfl) ?_
    refine w_get C hw uw_X2 1 cO_X2 rfl 8 (by decide) fl_X2_38 rfl dX2_allTests_6 ?_
    refine lv_icmp_ge (tgt := 27) hx hb dX2_allTests_9 (by decide) (fun hc => ?_) (fun hc => ?_)
    · replace hq := hq.1 hc
      exact hK S x1 _ _ _ hq hw (lv_sub hl [1] rfl)
    · replace hq := hq.2 hc
      refine lv_iload_n hx hb dX2_allTests_12 rfl (lv_at hl 1 rfl) ?_
      refine lv_aload_n hx hb dX2_allTests_13 rfl (lv_at hl 0 rfl) ?_
      refine w_get C hw uw_X2 1 cO_X2 rfl 4 (by decide) fl_X2_24 rfl dX2_allTests_14 ?_
      refine lv_iload_n hx hb dX2_allTests_17 rfl (lv_at hl 2 rfl) ?_
      obtain ⟨hin, hq⟩ := hq
      refine w_ild C hw 10 0 cI_4 rfl hin dX2_allTests_18 ?_
      refine lv_iadd hx hb dX2_allTests_19 ?_
      refine lv_istore_n (lv' := [(1, .int (x1 + (S.1 4 x2.toNatClampNeg))), (0, .ref (ad 1)), (2, .int x2)]) hx hb dX2_allTests_20 rfl hl (by decide) rfl (fun ls hl => ?_)
      refine lv_iinc (v := x2 + 1) (lv' := [(2, .int (x2 + 1)), (1, .int (x1 + (S.1 4 x2.toNatClampNeg))), (0, .ref (ad 1))]) hx hb dX2_allTests_21 hl (k := 2) rfl rfl (by decide) rfl (fun ls hl => ?_)
      refine lv_goto (tgt := 4) hx hb dX2_allTests_24 (by decide) ?_
      exact ih S (x1 + (S.1 4 x2.toNatClampNeg)) (x2 + 1) hq _ _ _ hw (lv_sub hl [2, 1, 0] rfl)
set_option maxHeartbeats 4000000 in
set_option maxRecDepth 100000 in
theorem mX2_allTests (l : Launch) (D : va_G) (ad : Nat → Nat) (cI cL : ClassId) (S : MS) (Q : Int32 → MS → Prop) (hq : wX2_allTests S Q) : Mi l yX2_allTests cX2_allTests 3 (some .int) { frames := 0, cells := 0, slots := 0, locals := 0 } D (ctys cI cL) (cw ad cI cL) [.ref (ad 1)] S Q := by
  refine Mi.of (by decide +kernel) (Nat.le_of_ble_eq_true rfl) ?_
  intro p e s m args below meth c A ls C hw hl
  have hx := C.1
  have hb := C.2.1
  have hl : lv_has ls 3 [(0, .ref (ad 1))] := hl
  have hw : WW D (ctys cI cL) (cw ad cI cL S) A s s.heap [] := hw
  unfold wX2_allTests at hq
  refine lv_iconst (v := 0) hx hb dX2_allTests_0 (by decide) ?_
  refine lv_istore_n (lv' := [(1, .int 0), (0, .ref (ad 1))]) hx hb dX2_allTests_1 rfl hl (by decide) rfl (fun ls hl => ?_)
  refine lv_iconst (v := 0) hx hb dX2_allTests_2 (by decide) ?_
  refine lv_istore_n (lv' := [(2, .int 0), (1, .int 0), (0, .ref (ad 1))]) hx hb dX2_allTests_3 rfl hl (by decide) rfl (fun ls hl => ?_)
  obtain ⟨n0, hq⟩ := hq
  refine kLX2_allTests_4 C _ Q ?_ n0 S 0 0 hq _ _ _ hw (lv_sub hl [2, 1, 0] rfl)
  clear hw hl hq
  intro S_1 y_2 H locs ls hq hw hl
  refine lv_iload_n hx hb dX2_allTests_27 rfl (lv_at hl 0 rfl) ?_
  exact w_iret C hw hq dX2_allTests_28
set_option maxHeartbeats 4000000 in
set_option maxRecDepth 100000 in
theorem mX2_allBypasses (l : Launch) (D : va_G) (ad : Nat → Nat) (cI cL : ClassId) (S : MS) (Q : Int32 → MS → Prop) (hq : wX2_allBypasses S Q) : Mi l yX2_allBypasses cX2_allBypasses 1 (some .int) { frames := 0, cells := 0, slots := 0, locals := 0 } D (ctys cI cL) (cw ad cI cL) [.ref (ad 1)] S Q := by
  refine Mi.of (by decide +kernel) (Nat.le_of_ble_eq_true rfl) ?_
  intro p e s m args below meth c A ls C hw hl
  have hx := C.1
  have hb := C.2.1
  have hl : lv_has ls 1 [(0, .ref (ad 1))] := hl
  have hw : WW D (ctys cI cL) (cw ad cI cL S) A s s.heap [] := hw
  unfold wX2_allBypasses at hq
  refine lv_aload_n hx hb dX2_allBypasses_0 rfl (lv_at hl 0 rfl) ?_
  refine w_get C hw uw_X2 1 cO_X2 rfl 7 (by decide) fl_X2_34 rfl dX2_allBypasses_1 ?_
  exact w_iret C hw hq dX2_allBypasses_4
set_option maxHeartbeats 4000000 in
set_option maxRecDepth 100000 in
theorem mX2_daysInWord (l : Launch) (D : va_G) (ad : Nat → Nat) (cI cL : ClassId) (S : MS) (x0 : Int32) (x1 : Int32) (x2 : Int32) (Q : Int64 → MS → Prop) (hq : wX2_daysInWord S x0 x1 x2 Q) : Ml l yX2_daysInWord cX2_daysInWord 5 (some .long) { frames := 1, cells := 0, slots := 0, locals := 13 } D (ctys cI cL) (cw ad cI cL) [.int x0, .int x1, .int x2] S Q := by
  refine Ml.of (by decide +kernel) (Nat.le_of_ble_eq_true rfl) ?_
  intro p e s m args below meth c A ls C hw hl
  have hx := C.1
  have hb := C.2.1
  have hl : lv_has ls 5 [(0, .int x0), (1, .int x1), (2, .int x2)] := hl
  have hw : WW D (ctys cI cL) (cw ad cI cL S) A s s.heap [] := hw
  unfold wX2_daysInWord at hq
  refine lv_iload_n hx hb dX2_daysInWord_0 rfl (lv_at hl 1 rfl) ?_
  refine lv_iload_n hx hb dX2_daysInWord_1 rfl (lv_at hl 0 rfl) ?_
  refine lv_bipush (v := 64) hx hb dX2_daysInWord_2 (by decide) ?_
  refine lv_imul hx hb dX2_daysInWord_4 ?_
  refine lv_isub hx hb dX2_daysInWord_5 ?_
  refine lv_iconst (v := 0) hx hb dX2_daysInWord_6 (by decide) ?_
  refine va_mmax hx hb (C.2.2.2.1.trans hl.1.symm) C.2.2.2.2.1 (C.w ml_X2_64 rfl) (C.w kc_max.1 rfl) (C.w kc_max.2.1 rfl) (C.w kc_max.2.2 rfl) (Nat.le_of_ble_eq_true rfl) (Nat.le_of_ble_eq_true rfl) (Nat.zero_le _) (Nat.zero_le _) dX2_daysInWord_7 ?_
  refine lv_topi (fun v_1 ev_1 => ?_)
  replace hq := hq v_1 ev_1
  refine lv_istore_n (lv' := [(3, .int v_1), (0, .int x0), (1, .int x1), (2, .int x2)]) hx hb dX2_daysInWord_10 rfl hl (by decide) rfl (fun ls hl => ?_)
  refine lv_iload_n hx hb dX2_daysInWord_11 rfl (lv_at hl 3 rfl) ?_
  refine lv_iload_n hx hb dX2_daysInWord_12 rfl (lv_at hl 1 rfl) ?_
  refine lv_bipush (v := 64) hx hb dX2_daysInWord_13 (by decide) ?_
  refine lv_imul hx hb dX2_daysInWord_15 ?_
  refine lv_isub hx hb dX2_daysInWord_16 ?_
  refine lv_bipush (v := 63) hx hb dX2_daysInWord_17 (by decide) ?_
  refine va_mmin hx hb (C.2.2.2.1.trans hl.1.symm) C.2.2.2.2.1 (C.w ml_X2_59 rfl) (C.w kc_min.1 rfl) (C.w kc_min.2.1 rfl) (C.w kc_min.2.2 rfl) (Nat.le_of_ble_eq_true rfl) (Nat.le_of_ble_eq_true rfl) (Nat.zero_le _) (Nat.zero_le _) dX2_daysInWord_19 ?_
  refine lv_topi (fun v_2 ev_2 => ?_)
  replace hq := hq v_2 ev_2
  refine lv_istore (lv' := [(4, .int v_2), (3, .int v_1), (0, .int x0), (1, .int x1), (2, .int x2)]) hx hb dX2_daysInWord_22 hl (by decide) rfl (fun ls hl => ?_)
  refine lv_iload_n hx hb dX2_daysInWord_24 rfl (lv_at hl 1 rfl) ?_
  refine lv_iload hx hb dX2_daysInWord_25 (lv_at hl 0 rfl) ?_
  refine lv_icmp_le (tgt := 34) hx hb dX2_daysInWord_27 (by decide) (fun hc => ?_) (fun hc => ?_)
  · replace hq := hq.1 hc
    refine lv_ldc2 hx hb C.2.2.2.2.1 (C.w kk_X2_67 rfl) dX2_daysInWord_34 ?_
    refine lv_iload_n hx hb dX2_daysInWord_37 rfl (lv_at hl 1 rfl) ?_
    refine lv_lshl (v := (jlshl (-1) v_1)) hx hb dX2_daysInWord_38 rfl ?_
    refine lv_ldc2 hx hb C.2.2.2.2.1 (C.w kk_X2_67 rfl) dX2_daysInWord_39 ?_
    refine lv_bipush (v := 63) hx hb dX2_daysInWord_42 (by decide) ?_
    refine lv_iload hx hb dX2_daysInWord_44 (lv_at hl 0 rfl) ?_
    refine lv_isub hx hb dX2_daysInWord_46 ?_
    refine lv_lushr (v := (jlushr (-1) (63 - v_2))) hx hb dX2_daysInWord_47 rfl ?_
    refine lv_land hx hb dX2_daysInWord_48 ?_
    exact w_lret C hw hq dX2_daysInWord_49
  · replace hq := hq.2 hc
    refine lv_lconst (v := 0) hx hb dX2_daysInWord_30 (by decide) ?_
    refine lv_goto (tgt := 49) hx hb dX2_daysInWord_31 (by decide) ?_
    exact w_lret C hw hq dX2_daysInWord_49
