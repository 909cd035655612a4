set_option maxHeartbeats 4000000 in
set_option maxRecDepth 100000 in
theorem kLX2_addBypass_15 {p : Program} {l : Launch} {e : Env} {s : State} {m : MethodId} {args : Array Value} {below : List Frame} {meth : Method} {c : Code} {D : va_G} {ad : Nat → Nat} {cI cL : ClassId} {A : Nat → Prop} (C : Cx p s m args meth c yX2_addBypass.cls cX2_addBypass 5 (some .int)) (x1 : Int32) (x2 : Int32) (x3 : Int32) (K : MS → Prop) (Q : Int32 → MS → Prop) (hK : ∀ (S : MS) (H : Heap) (locs : List Loc) (ls : Array Slot), K S  → WW D (ctys cI cL) (cw ad cI cL S) A s H locs → lv_has ls 5 [(0, .ref (ad 1))] → W p l e { frames := 2, cells := 0, slots := 0, locals := 37 } s m args below meth c H locs 0 0 (Zi D (ctys cI cL) (cw ad cI cL) A below args s Q) (F0 m 50 ls [])) : ∀ (n : Nat) (S : MS) (x4 : Int32) (_ : LX2_addBypass_15 x1 x2 x3 K Q n S x4) (H : Heap) (locs : List Loc) (ls : Array Slot), WW D (ctys cI cL) (cw ad cI cL S) A s H locs → lv_has ls 5 [(0, .ref (ad 1)), (1, .int x1), (2, .int x2), (3, .int x3), (4, .int x4)] → W p l e { frames := 2, cells := 0, slots := 0, locals := 37 } s m args below meth c H locs 0 0 (Zi D (ctys cI cL) (cw ad cI cL) A below args s Q) (F0 m 15 ls []) := by
  have hx := C.1
  have hb := C.2.1
  intro n
  induction n with
  | zero => intro S x4 hq; exact absurd hq (by rw [LX2_addBypass_15]; exact id)
  | succ n ih =>
    intro S x4 hq H locs ls hw hl
    rw [LX2_addBypass_15] at hq
    refine lv_iload hx hb dX2_addBypass_15 (lv_at hl 4 rfl) ?_
    refine lv_bipush (v := 16) hx hb dX2_addBypass_17 (by decide) ?_
    refine lv_icmp_ge (tgt := 50) hx hb dX2_addBypass_19 (by decide) (fun hc => ?_) (fun hc => ?_)
    · replace hq := hq.1 hc
      exact hK S  _ _ _ hq hw (lv_sub hl [0] rfl)
    · replace hq := hq.2 hc
      refine lv_aload_n hx hb dX2_addBypass_22 rfl (lv_at hl 0 rfl) ?_
      refine w_get C hw uw_X2 1 cO_X2 rfl 6 (by decide) fl_X2_30 rfl dX2_addBypass_23 ?_
      refine lv_iload_n hx hb dX2_addBypass_26 rfl (lv_at hl 1 rfl) ?_
      refine lv_bipush (v := 16) hx hb dX2_addBypass_27 (by decide) ?_
      refine lv_imul hx hb dX2_addBypass_29 ?_
      refine lv_iload hx hb dX2_addBypass_30 (lv_at hl 4 rfl) ?_
      refine lv_iadd hx hb dX2_addBypass_32 ?_
      refine lv_dup2_11 hx hb dX2_addBypass_33 rfl rfl ?_
      obtain ⟨hin, hq⟩ := hq
      refine w_lld C hw 23 1 cL_0 rfl hin dX2_addBypass_34 ?_
      refine lv_iload hx hb dX2_addBypass_35 (lv_at hl 4 rfl) ?_
      refine lv_iload_n hx hb dX2_addBypass_37 rfl (lv_at hl 2 rfl) ?_
      refine lv_iload_n hx hb dX2_addBypass_38 rfl (lv_at hl 3 rfl) ?_
      refine w_calll hw (w_runS (rest := [.long (S.2.1 0 ((x1 * 16) + x4).toNatClampNeg), .int ((x1 * 16) + x4), .ref (ad 23)]) C hw (mX2_daysInWord l D ad cI cL S x4 x2 x3 _ hq _) kc_X2_daysInWord ml_X2_45 ⟨rfl, rfl, Nat.le_of_ble_eq_true rfl, Nat.le_of_ble_eq_true rfl⟩ rfl rfl (Nat.le_of_ble_eq_true rfl) hl.1 dX2_addBypass_39) ?_
      clear hw hq
      intro r_2 S_1 H locs hq hw
      refine lv_lor hx hb dX2_addBypass_42 ?_
      obtain ⟨hin, hq⟩ := hq
      obtain ⟨S_3, eS_3⟩ : ∃ z, z = uL S_1 0 ((x1 * 16) + x4).toNatClampNeg ((S.2.1 0 ((x1 * 16) + x4).toNatClampNeg) ||| r_2) := ⟨_, rfl⟩
      replace hq := hq S_3 eS_3
      refine w_lst (ws' := cw ad cI cL S_3) C hw 23 1 cL_0 rfl hin dX2_addBypass_43 (by rw [eS_3]; exact cLs_0) (fun H locs hw => ?_)
      refine lv_iinc (v := x4 + 1) (lv' := [(4, .int (x4 + 1)), (0, .ref (ad 1)), (1, .int x1), (2, .int x2), (3, .int x3)]) hx hb dX2_addBypass_44 hl (k := 4) rfl rfl (by decide) rfl (fun ls hl => ?_)
      refine lv_goto (tgt := 15) hx hb dX2_addBypass_47 (by decide) ?_
      exact ih S_3 (x4 + 1) hq _ _ _ hw (lv_sub hl [1, 2, 3, 4, 0] rfl)
set_option maxHeartbeats 4000000 in
set_option maxRecDepth 100000 in
theorem mX2_addBypass (l : Launch) (D : va_G) (ad : Nat → Nat) (cI cL : ClassId) (S : MS) (x1 : Int32) (x2 : Int32) (x3 : Int32) (Q : Int32 → MS → Prop) (hq : wX2_addBypass S x1 x2 x3 Q) : Mi l yX2_addBypass cX2_addBypass 5 (some .int) { frames := 2, cells := 0, slots := 0, locals := 37 } D (ctys cI cL) (cw ad cI cL) [.ref (ad 1), .int x1, .int x2, .int x3] S Q := by
  refine Mi.of (by decide +kernel) (Nat.le_of_ble_eq_true rfl) ?_
  intro p e s m args below meth c A ls C hw hl
  have hx := C.1
  have hb := C.2.1
  have hl : lv_has ls 5 [(0, .ref (ad 1)), (1, .int x1), (2, .int x2), (3, .int x3)] := hl
  have hw : WW D (ctys cI cL) (cw ad cI cL S) A s s.heap [] := hw
  unfold wX2_addBypass at hq
  refine lv_aload_n hx hb dX2_addBypass_0 rfl (lv_at hl 0 rfl) ?_
  refine w_get C hw uw_X2 1 cO_X2 rfl 7 (by decide) fl_X2_34 rfl dX2_addBypass_1 ?_
  refine lv_bipush (v := 20) hx hb dX2_addBypass_4 (by decide) ?_
  refine lv_icmp_lt (tgt := 12) hx hb dX2_addBypass_6 (by decide) (fun hc => ?_) (fun hc => ?_)
  · replace hq := hq.1 hc
    refine lv_iconst (v := 0) hx hb dX2_addBypass_12 (by decide) ?_
    refine lv_istore (lv' := [(4, .int 0), (0, .ref (ad 1)), (1, .int x1), (2, .int x2), (3, .int x3)]) hx hb dX2_addBypass_13 hl (by decide) rfl (fun ls hl => ?_)
    obtain ⟨n0, hq⟩ := hq
    refine kLX2_addBypass_15 C x1 x2 x3 _ Q ?_ n0 S 0 hq _ _ _ hw (lv_sub hl [1, 2, 3, 4, 0] rfl)
    clear hw hl hq
    intro S_1 H locs ls hq hw hl
    refine lv_aload_n hx hb dX2_addBypass_50 rfl (lv_at hl 0 rfl) ?_
    refine lv_dup hx hb dX2_addBypass_51 rfl ?_
    refine w_get C hw uw_X2 1 cO_X2 rfl 7 (by decide) fl_X2_34 rfl dX2_addBypass_52 ?_
    refine lv_iconst (v := 1) hx hb dX2_addBypass_55 (by decide) ?_
    refine lv_iadd hx hb dX2_addBypass_56 ?_
    obtain ⟨S_2, eS_2⟩ : ∃ z, z = uF S_1 0 ((S_1.2.2 0) + 1) := ⟨_, rfl⟩
    replace hq := hq S_2 eS_2
    refine w_put (ws' := cw ad cI cL S_2) C hw uw_X2 tyX2 tyX2_ok nmX2 1 cO_X2 rfl 7 (by decide) fl_X2_34 rfl (by decide +kernel) (Nat.le_of_ble_eq_true rfl) dX2_addBypass_57 (by rw [eS_2]; exact cFs_0) (fun H locs hw => ?_)
    refine lv_aload_n hx hb dX2_addBypass_60 rfl (lv_at hl 0 rfl) ?_
    refine w_get C hw uw_X2 1 cO_X2 rfl 7 (by decide) fl_X2_34 rfl dX2_addBypass_61 ?_
    exact w_iret C hw hq dX2_addBypass_64
  · replace hq := hq.2 hc
    refine lv_bipush (v := (-3)) hx hb dX2_addBypass_9 (by decide) ?_
    exact w_iret C hw hq dX2_addBypass_11
set_option maxHeartbeats 4000000 in
set_option maxRecDepth 100000 in
theorem mJ13_bitCount_95d88 (l : Launch) (D : va_G) (ad : Nat → Nat) (cI cL : ClassId) (S : MS) (x0 : Int64) (Q : Int32 → MS → Prop) (hq : wJ13_bitCount_95d88 S x0 Q) : Mi l yJ13_bitCount_95d88 cJ13_bitCount_95d88 2 (some .int) { frames := 0, cells := 0, slots := 0, locals := 0 } D (ctys cI cL) (cw ad cI cL) [.long x0] S Q := by
  refine Mi.of (by decide +kernel) (Nat.le_of_ble_eq_true rfl) ?_
  intro p e s m args below meth c A ls C hw hl
  have hx := C.1
  have hb := C.2.1
  have hl : lv_has ls 2 [(0, .long x0)] := hl
  have hw : WW D (ctys cI cL) (cw ad cI cL S) A s s.heap [] := hw
  unfold wJ13_bitCount_95d88 at hq
  refine lv_lload_n hx hb dJ13_bitCount_95d88_0 rfl (lv_at hl 0 rfl) ?_
  refine lv_lload_n hx hb dJ13_bitCount_95d88_1 rfl (lv_at hl 0 rfl) ?_
  refine lv_iconst (v := 1) hx hb dJ13_bitCount_95d88_2 (by decide) ?_
  refine lv_lushr (v := (jlushr x0 1)) hx hb dJ13_bitCount_95d88_3 rfl ?_
  refine lv_ldc2 hx hb C.2.2.2.2.1 (C.w kk_J13_314 rfl) dJ13_bitCount_95d88_4 ?_
  refine lv_land hx hb dJ13_bitCount_95d88_7 ?_
  refine lv_lsub hx hb dJ13_bitCount_95d88_8 ?_
  refine lv_topl (fun v_1 ev_1 => ?_)
  replace hq := hq v_1 ev_1
  refine lv_lstore_n (lv' := [(0, .long v_1)]) hx hb dJ13_bitCount_95d88_9 rfl hl (by decide) rfl (fun ls hl => ?_)
  refine lv_lload_n hx hb dJ13_bitCount_95d88_10 rfl (lv_at hl 0 rfl) ?_
  refine lv_ldc2 hx hb C.2.2.2.2.1 (C.w kk_J13_316 rfl) dJ13_bitCount_95d88_11 ?_
  refine lv_land hx hb dJ13_bitCount_95d88_14 ?_
  refine lv_lload_n hx hb dJ13_bitCount_95d88_15 rfl (lv_at hl 0 rfl) ?_
  refine lv_iconst (v := 2) hx hb dJ13_bitCount_95d88_16 (by decide) ?_
  refine lv_lushr (v := (jlushr v_1 2)) hx hb dJ13_bitCount_95d88_17 rfl ?_
  refine lv_ldc2 hx hb C.2.2.2.2.1 (C.w kk_J13_316 rfl) dJ13_bitCount_95d88_18 ?_
  refine lv_land hx hb dJ13_bitCount_95d88_21 ?_
  refine lv_ladd hx hb dJ13_bitCount_95d88_22 ?_
  refine lv_topl (fun v_2 ev_2 => ?_)
  replace hq := hq v_2 ev_2
  refine lv_lstore_n (lv' := [(0, .long v_2)]) hx hb dJ13_bitCount_95d88_23 rfl hl (by decide) rfl (fun ls hl => ?_)
  refine lv_lload_n hx hb dJ13_bitCount_95d88_24 rfl (lv_at hl 0 rfl) ?_
  refine lv_lload_n hx hb dJ13_bitCount_95d88_25 rfl (lv_at hl 0 rfl) ?_
  refine lv_iconst (v := 4) hx hb dJ13_bitCount_95d88_26 (by decide) ?_
  refine lv_lushr (v := (jlushr v_2 4)) hx hb dJ13_bitCount_95d88_27 rfl ?_
  refine lv_ladd hx hb dJ13_bitCount_95d88_28 ?_
  refine lv_ldc2 hx hb C.2.2.2.2.1 (C.w kk_J13_318 rfl) dJ13_bitCount_95d88_29 ?_
  refine lv_land hx hb dJ13_bitCount_95d88_32 ?_
  refine lv_topl (fun v_3 ev_3 => ?_)
  replace hq := hq v_3 ev_3
  refine lv_lstore_n (lv' := [(0, .long v_3)]) hx hb dJ13_bitCount_95d88_33 rfl hl (by decide) rfl (fun ls hl => ?_)
  refine lv_lload_n hx hb dJ13_bitCount_95d88_34 rfl (lv_at hl 0 rfl) ?_
  refine lv_lload_n hx hb dJ13_bitCount_95d88_35 rfl (lv_at hl 0 rfl) ?_
  refine lv_bipush (v := 8) hx hb dJ13_bitCount_95d88_36 (by decide) ?_
  refine lv_lushr (v := (jlushr v_3 8)) hx hb dJ13_bitCount_95d88_38 rfl ?_
  refine lv_ladd hx hb dJ13_bitCount_95d88_39 ?_
  refine lv_lstore_n (lv' := [(0, .long (v_3 + (jlushr v_3 8)))]) hx hb dJ13_bitCount_95d88_40 rfl hl (by decide) rfl (fun ls hl => ?_)
  refine lv_lload_n hx hb dJ13_bitCount_95d88_41 rfl (lv_at hl 0 rfl) ?_
  refine lv_lload_n hx hb dJ13_bitCount_95d88_42 rfl (lv_at hl 0 rfl) ?_
  refine lv_bipush (v := 16) hx hb dJ13_bitCount_95d88_43 (by decide) ?_
  refine lv_lushr (v := (jlushr (v_3 + (jlushr v_3 8)) 16)) hx hb dJ13_bitCount_95d88_45 rfl ?_
  refine lv_ladd hx hb dJ13_bitCount_95d88_46 ?_
  refine lv_topl (fun v_4 ev_4 => ?_)
  replace hq := hq v_4 ev_4
  refine lv_lstore_n (lv' := [(0, .long v_4)]) hx hb dJ13_bitCount_95d88_47 rfl hl (by decide) rfl (fun ls hl => ?_)
  refine lv_lload_n hx hb dJ13_bitCount_95d88_48 rfl (lv_at hl 0 rfl) ?_
  refine lv_lload_n hx hb dJ13_bitCount_95d88_49 rfl (lv_at hl 0 rfl) ?_
  refine lv_bipush (v := 32) hx hb dJ13_bitCount_95d88_50 (by decide) ?_
  refine lv_lushr (v := (jlushr v_4 32)) hx hb dJ13_bitCount_95d88_52 rfl ?_
  refine lv_ladd hx hb dJ13_bitCount_95d88_53 ?_
  refine lv_lstore_n (lv' := [(0, .long (v_4 + (jlushr v_4 32)))]) hx hb dJ13_bitCount_95d88_54 rfl hl (by decide) rfl (fun ls hl => ?_)
  refine lv_lload_n hx hb dJ13_bitCount_95d88_55 rfl (lv_at hl 0 rfl) ?_
  refine lv_l2i (v := (v_4 + (jlushr v_4 32)).toInt32) hx hb dJ13_bitCount_95d88_56 rfl ?_
  refine lv_bipush (v := 127) hx hb dJ13_bitCount_95d88_57 (by decide) ?_
  refine lv_iand hx hb dJ13_bitCount_95d88_59 ?_
  exact w_iret C hw hq dJ13_bitCount_95d88_60
set_option maxHeartbeats 4000000 in
set_option maxRecDepth 100000 in
theorem kLX2_bypassedDays_6 {p : Program} {l : Launch} {e : Env} {s : State} {m : MethodId} {args : Array Value} {below : List Frame} {meth : Method} {c : Code} {D : va_G} {ad : Nat → Nat} {cI cL : ClassId} {A : Nat → Prop} (C : Cx p s m args meth c yX2_bypassedDays.cls cX2_bypassedDays 6 (some .int)) (x1 : Int32) (x2 : Int32) (x3 : Int32) (K : MS → Int32 → Prop) (Q : Int32 → MS → Prop) (hK : ∀ (S : MS) (z4 : Int32) (H : Heap) (locs : List Loc) (ls : Array Slot), K S z4 → WW D (ctys cI cL) (cw ad cI cL S) A s H locs → lv_has ls 6 [(4, .int z4)] → W p l e { frames := 2, cells := 0, slots := 0, locals := 37 } s m args below meth c H locs 0 0 (Zi D (ctys cI cL) (cw ad cI cL) A below args s Q) (F0 m 47 ls [])) : ∀ (n : Nat) (S : MS) (x4 : Int32) (x5 : Int32) (_ : LX2_bypassedDays_6 x1 x2 x3 K Q n S x4 x5) (H : Heap) (locs : List Loc) (ls : Array Slot), WW D (ctys cI cL) (cw ad cI cL S) A s H locs → lv_has ls 6 [(0, .ref (ad 1)), (1, .int x1), (2, .int x2), (3, .int x3), (4, .int x4), (5, .int x5)] → W p l e { frames := 2, cells := 0, slots := 0, locals := 37 } s m args below meth c H locs 0 0 (Zi D (ctys cI cL) (cw ad cI cL) A below args s Q) (F0 m 6 ls []) := by
  have hx := C.1
  have hb := C.2.1
  intro n
  induction n with
  | zero => intro S x4 x5 hq; exact absurd hq (by rw [LX2_bypassedDays_6]; exact id)
  | succ n ih =>
    intro S x4 x5 hq H locs ls hw hl
    rw [LX2_bypassedDays_6] at hq
    refine lv_iload hx hb dX2_bypassedDays_6 (lv_at hl 5 rfl) ?_
    refine lv_bipush (v := 16) hx hb dX2_bypassedDays_8 (by decide) ?_
    refine lv_icmp_ge (tgt := 47) hx hb dX2_bypassedDays_10 (by decide) (fun hc => ?_) (fun hc => ?_)
    · replace hq := hq.1 hc
      exact hK S x4 _ _ _ hq hw (lv_sub hl [4] rfl)
    · replace hq := hq.2 hc
      refine lv_iload hx hb dX2_bypassedDays_13 (lv_at hl 4 rfl) ?_
      refine lv_aload_n hx hb dX2_bypassedDays_15 rfl (lv_at hl 0 rfl) ?_
      refine w_get C hw uw_X2 1 cO_X2 rfl 6 (by decide) fl_X2_30 rfl dX2_bypassedDays_16 ?_
      refine lv_iload_n hx hb dX2_bypassedDays_19 rfl (lv_at hl 1 rfl) ?_
      refine lv_bipush (v := 16) hx hb dX2_bypassedDays_20 (by decide) ?_
      refine lv_imul hx hb dX2_bypassedDays_22 ?_
      refine lv_iload hx hb dX2_bypassedDays_23 (lv_at hl 5 rfl) ?_
      refine lv_iadd hx hb dX2_bypassedDays_25 ?_
      obtain ⟨hin, hq⟩ := hq
      refine w_lld C hw 23 1 cL_0 rfl hin dX2_bypassedDays_26 ?_
      refine lv_iload hx hb dX2_bypassedDays_27 (lv_at hl 5 rfl) ?_
      refine lv_iload_n hx hb dX2_bypassedDays_29 rfl (lv_at hl 2 rfl) ?_
      refine lv_iload_n hx hb dX2_bypassedDays_30 rfl (lv_at hl 3 rfl) ?_
      refine w_calll hw (w_runS (rest := [.long (S.2.1 0 ((x1 * 16) + x5).toNatClampNeg), .int x4]) C hw (mX2_daysInWord l D ad cI cL S x5 x2 x3 _ hq _) kc_X2_daysInWord ml_X2_45 ⟨rfl, rfl, Nat.le_of_ble_eq_true rfl, Nat.le_of_ble_eq_true rfl⟩ rfl rfl (Nat.le_of_ble_eq_true rfl) hl.1 dX2_bypassedDays_31) ?_
      clear hw hq
      intro r_2 S_1 H locs hq hw
      refine lv_land hx hb dX2_bypassedDays_34 ?_
      refine w_calli hw (w_runS (rest := [.int x4]) C hw (mJ13_bitCount_95d88 l D ad cI cL S_1 ((S.2.1 0 ((x1 * 16) + x5).toNatClampNeg) &&& r_2) _ hq _) kc_J13_bitCount_95d88 ml_X2_49 ⟨rfl, rfl, Nat.le_of_ble_eq_true rfl, Nat.le_of_ble_eq_true rfl⟩ rfl rfl (Nat.le_of_ble_eq_true rfl) hl.1 dX2_bypassedDays_35) ?_
      clear hw hq
      intro r_4 S_3 H locs hq hw
      refine lv_iadd hx hb dX2_bypassedDays_38 ?_
      refine lv_istore (lv' := [(4, .int (x4 + r_4)), (0, .ref (ad 1)), (1, .int x1), (2, .int x2), (3, .int x3), (5, .int x5)]) hx hb dX2_bypassedDays_39 hl (by decide) rfl (fun ls hl => ?_)
      refine lv_iinc (v := x5 + 1) (lv' := [(5, .int (x5 + 1)), (4, .int (x4 + r_4)), (0, .ref (ad 1)), (1, .int x1), (2, .int x2), (3, .int x3)]) hx hb dX2_bypassedDays_41 hl (k := 5) rfl rfl (by decide) rfl (fun ls hl => ?_)
      refine lv_goto (tgt := 6) hx hb dX2_bypassedDays_44 (by decide) ?_
      exact ih S_3 (x4 + r_4) (x5 + 1) hq _ _ _ hw (lv_sub hl [2, 3, 4, 5, 1, 0] rfl)
set_option maxHeartbeats 4000000 in
set_option maxRecDepth 100000 in
theorem mX2_bypassedDays (l : Launch) (D : va_G) (ad : Nat → Nat) (cI cL : ClassId) (S : MS) (x1 : Int32) (x2 : Int32) (x3 : Int32) (Q : Int32 → MS → Prop) (hq : wX2_bypassedDays S x1 x2 x3 Q) : Mi l yX2_bypassedDays cX2_bypassedDays 6 (some .int) { frames := 2, cells := 0, slots := 0, locals := 37 } D (ctys cI cL) (cw ad cI cL) [.ref (ad 1), .int x1, .int x2, .int x3] S Q := by
  refine Mi.of (by decide +kernel) (Nat.le_of_ble_eq_true rfl) ?_
  intro p e s m args below meth c A ls C hw hl
  have hx := C.1
  have hb := C.2.1
  have hl : lv_has ls 6 [(0, .ref (ad 1)), (1, .int x1), (2, .int x2), (3, .int x3)] := hl
  have hw : WW D (ctys cI cL) (cw ad cI cL S) A s s.heap [] := hw
  unfold wX2_bypassedDays at hq
  refine lv_iconst (v := 0) hx hb dX2_bypassedDays_0 (by decide) ?_
  refine lv_istore (lv' := [(4, .int 0), (0, .ref (ad 1)), (1, .int x1), (2, .int x2), (3, .int x3)]) hx hb dX2_bypassedDays_1 hl (by decide) rfl (fun ls hl => ?_)
  refine lv_iconst (v := 0) hx hb dX2_bypassedDays_3 (by decide) ?_
  refine lv_istore (lv' := [(5, .int 0), (4, .int 0), (0, .ref (ad 1)), (1, .int x1), (2, .int x2), (3, .int x3)]) hx hb dX2_bypassedDays_4 hl (by decide) rfl (fun ls hl => ?_)
  obtain ⟨n0, hq⟩ := hq
  refine kLX2_bypassedDays_6 C x1 x2 x3 _ Q ?_ n0 S 0 0 hq _ _ _ hw (lv_sub hl [2, 3, 4, 5, 1, 0] rfl)
  clear hw hl hq
  intro S_1 y_2 H locs ls hq hw hl
  refine lv_iload hx hb dX2_bypassedDays_47 (lv_at hl 0 rfl) ?_
  exact w_iret C hw hq dX2_bypassedDays_49
set_option maxHeartbeats 4000000 in
set_option maxRecDepth 100000 in
theorem mX2_changeCost (l : Launch) (D : va_G) (ad : Nat → Nat) (cI cL : ClassId) (S : MS) (x1 : Int32) (x2 : Int32) (Q : Int32 → MS → Prop) (hq : wX2_changeCost S x1 x2 Q) : Mi l yX2_changeCost cX2_changeCost 4 (some .int) { frames := 0, cells := 0, slots := 0, locals := 0 } D (ctys cI cL) (cw ad cI cL) [.ref (ad 1), .int x1, .int x2] S Q := by
  refine Mi.of (by decide +kernel) (Nat.le_of_ble_eq_true rfl) ?_
  intro p e s m args below meth c A ls C hw hl
  have hx := C.1
  have hb := C.2.1
  have hl : lv_has ls 4 [(0, .ref (ad 1)), (1, .int x1), (2, .int x2)] := hl
  have hw : WW D (ctys cI cL) (cw ad cI cL S) A s s.heap [] := hw
  unfold wX2_changeCost at hq
  refine lv_aload_n hx hb dX2_changeCost_0 rfl (lv_at hl 0 rfl) ?_
  refine w_get C hw uw_X2 1 cO_X2 rfl 3 (by decide) fl_X2_21 rfl dX2_changeCost_1 ?_
  refine lv_iload_n hx hb dX2_changeCost_4 rfl (lv_at hl 1 rfl) ?_
  obtain ⟨hin, hq⟩ := hq
  refine w_ild C hw 9 0 cI_3 rfl hin dX2_changeCost_5 ?_
  refine lv_istore_n (lv' := [(3, .int (S.1 3 x1.toNatClampNeg)), (0, .ref (ad 1)), (1, .int x1), (2, .int x2)]) hx hb dX2_changeCost_6 rfl hl (by decide) rfl (fun ls hl => ?_)
  refine lv_aload_n hx hb dX2_changeCost_7 rfl (lv_at hl 1 rfl) ?_
  refine w_get C hw uw_X2 1 cO_X2 rfl 3 (by decide) fl_X2_21 rfl dX2_changeCost_8 ?_
  refine lv_iload_n hx hb dX2_changeCost_11 rfl (lv_at hl 2 rfl) ?_
  refine lv_iload_n hx hb dX2_changeCost_12 rfl (lv_at hl 3 rfl) ?_
  obtain ⟨hin, hq⟩ := hq
  obtain ⟨S_1, eS_1⟩ : ∃ z, z = uI S 3 x1.toNatClampNeg x2 := ⟨_, rfl⟩
  replace hq := hq S_1 eS_1
  refine w_ist (ws' := cw ad cI cL S_1) C hw 9 0 cI_3 rfl hin dX2_changeCost_13 (by rw [eS_1]; exact cIs_3) (fun H locs hw => ?_)
  refine lv_iload_n hx hb dX2_changeCost_14 rfl (lv_at hl 0 rfl) ?_
  exact w_iret C hw hq dX2_changeCost_15
set_option maxHeartbeats 4000000 in
set_option maxRecDepth 100000 in
theorem mX2_costOf (l : Launch) (D : va_G) (ad : Nat → Nat) (cI cL : ClassId) (S : MS) (x1 : Int32) (Q : Int32 → MS → Prop) (hq : wX2_costOf S x1 Q) : Mi l yX2_costOf cX2_costOf 2 (some .int) { frames := 0, cells := 0, slots := 0, locals := 0 } D (ctys cI cL) (cw ad cI cL) [.ref (ad 1), .int x1] S Q := by
  refine Mi.of (by decide +kernel) (Nat.le_of_ble_eq_true rfl) ?_
  intro p e s m args below meth c A ls C hw hl
  have hx := C.1
  have hb := C.2.1
  have hl : lv_has ls 2 [(0, .ref (ad 1)), (1, .int x1)] := hl
  have hw : WW D (ctys cI cL) (cw ad cI cL S) A s s.heap [] := hw
  unfold wX2_costOf at hq
  refine lv_aload_n hx hb dX2_costOf_0 rfl (lv_at hl 0 rfl) ?_
  refine w_get C hw uw_X2 1 cO_X2 rfl 3 (by decide) fl_X2_21 rfl dX2_costOf_1 ?_
  refine lv_iload_n hx hb dX2_costOf_4 rfl (lv_at hl 1 rfl) ?_
  obtain ⟨hin, hq⟩ := hq
  refine w_ild C hw 9 0 cI_3 rfl hin dX2_costOf_5 ?_
  exact w_iret C hw hq dX2_costOf_6
set_option maxHeartbeats 4000000 in
set_option maxRecDepth 100000 in
theorem mX3_setIntervals (l : Launch) (D : va_G) (ad : Nat → Nat) (cI cL : ClassId) (S : MS) (x1 : Int32) (x2 : Int32) (x3 : Int32) (Q : MS → Prop) (hq : wX3_setIntervals S x1 x2 x3 Q) : Mv l yX3_setIntervals cX3_setIntervals 4 none { frames := 0, cells := 0, slots := 0, locals := 0 } D (ctys cI cL) (cw ad cI cL) [.ref (ad 5), .int x1, .int x2, .int x3] S Q := by
  refine Mv.of (by decide +kernel) (Nat.le_of_ble_eq_true rfl) ?_
  intro p e s m args below meth c A ls C hw hl
  have hx := C.1
  have hb := C.2.1
  have hl : lv_has ls 4 [(0, .ref (ad 5)), (1, .int x1), (2, .int x2), (3, .int x3)] := hl
  have hw : WW D (ctys cI cL) (cw ad cI cL S) A s s.heap [] := hw
  unfold wX3_setIntervals at hq
  refine lv_aload_n hx hb dX3_setIntervals_0 rfl (lv_at hl 0 rfl) ?_
  refine w_get C hw uw_X3 5 cO_X3 rfl 2 (by decide) fl_X3_9 rfl dX3_setIntervals_1 ?_
  refine lv_iconst (v := 0) hx hb dX3_setIntervals_4 (by decide) ?_
  refine lv_iload_n hx hb dX3_setIntervals_5 rfl (lv_at hl 1 rfl) ?_
  obtain ⟨hin, hq⟩ := hq
  obtain ⟨S_1, eS_1⟩ : ∃ z, z = uI S 14 (0 : Int32).toNatClampNeg x1 := ⟨_, rfl⟩
  replace hq := hq S_1 eS_1
  refine w_ist (ws' := cw ad cI cL S_1) C hw 20 0 cI_14 rfl hin dX3_setIntervals_6 (by rw [eS_1]; exact cIs_14) (fun H locs hw => ?_)
  refine lv_aload_n hx hb dX3_setIntervals_7 rfl (lv_at hl 0 rfl) ?_
  refine w_get C hw uw_X3 5 cO_X3 rfl 2 (by decide) fl_X3_9 rfl dX3_setIntervals_8 ?_
  refine lv_iconst (v := 1) hx hb dX3_setIntervals_11 (by decide) ?_
  refine lv_iload_n hx hb dX3_setIntervals_12 rfl (lv_at hl 2 rfl) ?_
  obtain ⟨hin, hq⟩ := hq
  obtain ⟨S_2, eS_2⟩ : ∃ z, z = uI S_1 14 (1 : Int32).toNatClampNeg x2 := ⟨_, rfl⟩
  replace hq := hq S_2 eS_2
  refine w_ist (ws' := cw ad cI cL S_2) C hw 20 0 cI_14 rfl hin dX3_setIntervals_13 (by rw [eS_2]; exact cIs_14) (fun H locs hw => ?_)
  refine lv_aload_n hx hb dX3_setIntervals_14 rfl (lv_at hl 0 rfl) ?_
  refine w_get C hw uw_X3 5 cO_X3 rfl 2 (by decide) fl_X3_9 rfl dX3_setIntervals_15 ?_
  refine lv_iconst (v := 2) hx hb dX3_setIntervals_18 (by decide) ?_
  refine lv_iload_n hx hb dX3_setIntervals_19 rfl (lv_at hl 3 rfl) ?_
  obtain ⟨hin, hq⟩ := hq
  obtain ⟨S_3, eS_3⟩ : ∃ z, z = uI S_2 14 (2 : Int32).toNatClampNeg x3 := ⟨_, rfl⟩
  replace hq := hq S_3 eS_3
  refine w_ist (ws' := cw ad cI cL S_3) C hw 20 0 cI_14 rfl hin dX3_setIntervals_20 (by rw [eS_3]; exact cIs_14) (fun H locs hw => ?_)
  exact w_vret C hw hq dX3_setIntervals_21
set_option maxHeartbeats 4000000 in
set_option maxRecDepth 100000 in
theorem mX3_cheapestCost (l : Launch) (D : va_G) (ad : Nat → Nat) (cI cL : ClassId) (S : MS) (Q : Int32 → MS → Prop) (hq : wX3_cheapestCost S Q) : Mi l yX3_cheapestCost cX3_cheapestCost 1 (some .int) { frames := 0, cells := 0, slots := 0, locals := 0 } D (ctys cI cL) (cw ad cI cL) [.ref (ad 5)] S Q := by
  refine Mi.of (by decide +kernel) (Nat.le_of_ble_eq_true rfl) ?_
  intro p e s m args below meth c A ls C hw hl
  have hx := C.1
  have hb := C.2.1
  have hl : lv_has ls 1 [(0, .ref (ad 5))] := hl
  have hw : WW D (ctys cI cL) (cw ad cI cL S) A s s.heap [] := hw
  unfold wX3_cheapestCost at hq
  refine lv_aload_n hx hb dX3_cheapestCost_0 rfl (lv_at hl 0 rfl) ?_
  refine w_get C hw uw_X3 5 cO_X3 rfl 4 (by decide) fl_X3_18 rfl dX3_cheapestCost_1 ?_
  exact w_iret C hw hq dX3_cheapestCost_4
set_option maxHeartbeats 4000000 in
set_option maxRecDepth 100000 in
theorem mX3_cheapestChoices (l : Launch) (D : va_G) (ad : Nat → Nat) (cI cL : ClassId) (S : MS) (Q : Int32 → MS → Prop) (hq : wX3_cheapestChoices S Q) : Mi l yX3_cheapestChoices cX3_cheapestChoices 1 (some .int) { frames := 0, cells := 0, slots := 0, locals := 0 } D (ctys cI cL) (cw ad cI cL) [.ref (ad 5)] S Q := by
  refine Mi.of (by decide +kernel) (Nat.le_of_ble_eq_true rfl) ?_
  intro p e s m args below meth c A ls C hw hl
  have hx := C.1
  have hb := C.2.1
  have hl : lv_has ls 1 [(0, .ref (ad 5))] := hl
  have hw : WW D (ctys cI cL) (cw ad cI cL S) A s s.heap [] := hw
  unfold wX3_cheapestChoices at hq
  refine lv_aload_n hx hb dX3_cheapestChoices_0 rfl (lv_at hl 0 rfl) ?_
  refine w_get C hw uw_X3 5 cO_X3 rfl 5 (by decide) fl_X3_22 rfl dX3_cheapestChoices_1 ?_
  exact w_iret C hw hq dX3_cheapestChoices_4
set_option maxHeartbeats 4000000 in
set_option maxRecDepth 100000 in
theorem kLX3_takeChoices_12 {p : Program} {l : Launch} {e : Env} {s : State} {m : MethodId} {args : Array Value} {below : List Frame} {meth : Method} {c : Code} {D : va_G} {ad : Nat → Nat} {cI cL : ClassId} {A : Nat → Prop} (C : Cx p s m args meth c yX3_takeChoices.cls cX3_takeChoices 4 none) (K : MS → Prop) (Q : MS → Prop) (hK : ∀ (S : MS) (H : Heap) (locs : List Loc) (ls : Array Slot), K S  → WW D (ctys cI cL) (cw ad cI cL S) A s H locs → lv_has ls 4 [] → W p l e { frames := 1, cells := 0, slots := 0, locals := 20 } s m args below meth c H locs 0 0 (Zv D (ctys cI cL) (cw ad cI cL) A below args s Q) (F0 m 35 ls [])) : ∀ (n : Nat) (S : MS) (x2 : Int32) (x3 : Int32) (_ : LX3_takeChoices_12 K Q n S x2 x3) (H : Heap) (locs : List Loc) (ls : Array Slot), WW D (ctys cI cL) (cw ad cI cL S) A s H locs → lv_has ls 4 [(0, .ref (ad 5)), (2, .int x2), (3, .int x3)] → W p l e { frames := 1, cells := 0, slots := 0, locals := 20 } s m args below meth c H locs 0 0 (Zv D (ctys cI cL) (cw ad cI cL) A below args s Q) (F0 m 12 ls []) := by
  have hx := C.1
  have hb := C.2.1
  intro n
  induction n with
  | zero => intro S x2 x3 hq; exact absurd hq (by rw [LX3_takeChoices_12]; exact id)
  | succ n ih =>
    intro S x2 x3 hq H locs ls hw hl
    rw [LX3_takeChoices_12] at hq
    refine lv_iload_n hx hb dX3_takeChoices_12 rfl (lv_at hl 2 rfl) ?_
    refine lv_if_lt (tgt := 35) hx hb dX3_takeChoices_13 (by decide) (fun hc => ?_) (fun hc => ?_)
    · replace hq := hq.1 hc
      exact hK S  _ _ _ hq hw (lv_sub hl [] rfl)
    · replace hq := hq.2 hc
      refine lv_aload_n hx hb dX3_takeChoices_16 rfl (lv_at hl 0 rfl) ?_
      refine w_get C hw uw_X3 5 cO_X3 rfl 3 (by decide) fl_X3_15 rfl dX3_takeChoices_17 ?_
      refine lv_iload_n hx hb dX3_takeChoices_20 rfl (lv_at hl 2 rfl) ?_
      refine lv_iload_n hx hb dX3_takeChoices_21 rfl (lv_at hl 1 rfl) ?_
      refine lv_iconst (v := 3) hx hb dX3_takeChoices_22 (by decide) ?_
      refine lv_irem hx hb dX3_takeChoices_23 (by decide) ?_
      obtain ⟨hin, hq⟩ := hq
      obtain ⟨S_1, eS_1⟩ : ∃ z, z = uI S 15 x3.toNatClampNeg (x2 - x2 / 3 * 3) := ⟨_, rfl⟩
      replace hq := hq S_1 eS_1
      refine w_ist (ws' := cw ad cI cL S_1) C hw 21 0 cI_15 rfl hin dX3_takeChoices_24 (by rw [eS_1]; exact cIs_15) (fun H locs hw => ?_)
      refine lv_iload_n hx hb dX3_takeChoices_25 rfl (lv_at hl 1 rfl) ?_
      refine lv_iconst (v := 3) hx hb dX3_takeChoices_26 (by decide) ?_
      refine lv_idiv hx hb dX3_takeChoices_27 (by decide) ?_
      refine lv_istore_n (lv' := [(2, .int (x2 / 3)), (0, .ref (ad 5)), (3, .int x3)]) hx hb dX3_takeChoices_28 rfl hl (by decide) rfl (fun ls hl => ?_)
      refine lv_iinc (v := x3 + (-1)) (lv' := [(3, .int (x3 + (-1))), (2, .int (x2 / 3)), (0, .ref (ad 5))]) hx hb dX3_takeChoices_29 hl (k := 2) rfl rfl (by decide) rfl (fun ls hl => ?_)
      refine lv_goto (tgt := 12) hx hb dX3_takeChoices_32 (by decide) ?_
      exact ih S_1 (x2 / 3) (x3 + (-1)) hq _ _ _ hw (lv_sub hl [2, 1, 0] rfl)
set_option maxHeartbeats 4000000 in
set_option maxRecDepth 100000 in
theorem mX3_takeChoices (l : Launch) (D : va_G) (ad : Nat → Nat) (cI cL : ClassId) (S : MS) (x1 : Int32) (Q : MS → Prop) (hq : wX3_takeChoices S x1 Q) : Mv l yX3_takeChoices cX3_takeChoices 4 none { frames := 1, cells := 0, slots := 0, locals := 20 } D (ctys cI cL) (cw ad cI cL) [.ref (ad 5), .int x1] S Q := by
  refine Mv.of (by decide +kernel) (Nat.le_of_ble_eq_true rfl) ?_
  intro p e s m args below meth c A ls C hw hl
  have hx := C.1
  have hb := C.2.1
  have hl : lv_has ls 4 [(0, .ref (ad 5)), (1, .int x1)] := hl
  have hw : WW D (ctys cI cL) (cw ad cI cL S) A s s.heap [] := hw
  unfold wX3_takeChoices at hq
  refine lv_iload_n hx hb dX3_takeChoices_0 rfl (lv_at hl 1 rfl) ?_
  refine lv_istore_n (lv' := [(2, .int x1), (0, .ref (ad 5)), (1, .int x1)]) hx hb dX3_takeChoices_1 rfl hl (by decide) rfl (fun ls hl => ?_)
  refine lv_aload_n hx hb dX3_takeChoices_2 rfl (lv_at hl 1 rfl) ?_
  refine w_get C hw uw_X3 5 cO_X3 rfl 1 (by decide) fl_X3_29 rfl dX3_takeChoices_3 ?_
  refine w_calli hw (w_runV (rest := []) C hw (mX1_memberCount l D ad cI cL S _ hq _) kc_X1_memberCount ml_X3_39 4 cO_X1 rfl rfl ⟨rfl, rfl, Nat.le_of_ble_eq_true rfl, Nat.le_of_ble_eq_true rfl⟩ rfl rfl (Nat.le_of_ble_eq_true rfl) hl.1 dX3_takeChoices_6) ?_
  clear hw hq
  intro r_2 S_1 H locs hq hw
  refine lv_iconst (v := 1) hx hb dX3_takeChoices_9 (by decide) ?_
  refine lv_isub hx hb dX3_takeChoices_10 ?_
  refine lv_istore_n (lv' := [(3, .int (r_2 - 1)), (2, .int x1), (0, .ref (ad 5)), (1, .int x1)]) hx hb dX3_takeChoices_11 rfl hl (by decide) rfl (fun ls hl => ?_)
  obtain ⟨n0, hq⟩ := hq
  refine kLX3_takeChoices_12 C _ Q ?_ n0 S_1 x1 (r_2 - 1) hq _ _ _ hw (lv_sub hl [2, 1, 0] rfl)
  clear hw hl hq
  intro S_3 H locs ls hq hw hl
  exact w_vret C hw hq dX3_takeChoices_35
set_option maxHeartbeats 4000000 in
set_option maxRecDepth 100000 in
theorem kLX3_costOfChoices_4 {p : Program} {l : Launch} {e : Env} {s : State} {m : MethodId} {args : Array Value} {below : List Frame} {meth : Method} {c : Code} {D : va_G} {ad : Nat → Nat} {cI cL : ClassId} {A : Nat → Prop} (C : Cx p s m args meth c yX3_costOfChoices.cls cX3_costOfChoices 3 (some .int)) (K : MS → Int32 → Prop) (Q : Int32 → MS → Prop) (hK : ∀ (S : MS) (z1 : Int32) (H : Heap) (locs : List Loc) (ls : Array Slot), K S z1 → WW D (ctys cI cL) (cw ad cI cL S) A s H locs → lv_has ls 3 [(1, .int z1)] → W p l e { frames := 1, cells := 0, slots := 0, locals := 21 } s m args below meth c H locs 0 0 (Zi D (ctys cI cL) (cw ad cI cL) A below args s Q) (F0 m 54 ls [])) : ∀ (n : Nat) (S : MS) (x1 : Int32) (x2 : Int32) (_ : LX3_costOfChoices_4 K Q n S x1 x2) (H : Heap) (locs : List Loc) (ls : Array Slot), WW D (ctys cI cL) (cw ad cI cL S) A s H locs → lv_has ls 3 [(0, .ref (ad 5)), (1, .int x1), (2, .int x2)] → W p l e { frames := 1, cells := 0, slots := 0, locals := 21 } s m args below meth c H locs 0 0 (Zi D (ctys cI cL) (cw ad cI cL) A below args s Q) (F0 m 4 ls []) := by
  have hx := C.1
  have hb := C.2.1
  intro n
  induction n with
  | zero => intro S x1 x2 hq; exact absurd hq (by rw [LX3_costOfChoices_4]; exact id)
  | succ n ih =>
    intro S x1 x2 hq H locs ls hw hl
    rw [LX3_costOfChoices_4] at hq
    refine lv_iload_n hx hb dX3_costOfChoices_4 rfl (lv_at hl 2 rfl) ?_
    refine lv_aload_n hx hb dX3_costOfChoices_5 rfl (lv_at hl 0 rfl) ?_
    refine w_get C hw uw_X3 5 cO_X3 rfl 1 (by decide) fl_X3_29 rfl dX3_costOfChoices_6 ?_
    refine w_calli hw (w_runV (rest := [.int x2]) C hw (mX1_memberCount l D ad cI cL S _ hq _) kc_X1_memberCount ml_X3_39 4 cO_X1 rfl rfl ⟨rfl, rfl, Nat.le_of_ble_eq_true rfl, Nat.le_of_ble_eq_true rfl⟩ rfl rfl (Nat.le_of_ble_eq_true rfl) hl.1 dX3_costOfChoices_9) ?_
    clear hw hq
    intro r_2 S_1 H locs hq hw
    refine lv_icmp_ge (tgt := 54) hx hb dX3_costOfChoices_12 (by decide) (fun hc => ?_) (fun hc => ?_)
    · replace hq := hq.1 hc
      exact hK S_1 x1 _ _ _ hq hw (lv_sub hl [1] rfl)
    · replace hq := hq.2 hc
      refine lv_iload_n hx hb dX3_costOfChoices_15 rfl (lv_at hl 1 rfl) ?_
      refine lv_aload_n hx hb dX3_costOfChoices_16 rfl (lv_at hl 0 rfl) ?_
      refine w_get C hw uw_X3 5 cO_X3 rfl 0 (by decide) fl_X3_25 rfl dX3_costOfChoices_17 ?_
      refine lv_aload_n hx hb dX3_costOfChoices_20 rfl (lv_at hl 0 rfl) ?_
      refine w_get C hw uw_X3 5 cO_X3 rfl 1 (by decide) fl_X3_29 rfl dX3_costOfChoices_21 ?_
      refine lv_iload_n hx hb dX3_costOfChoices_24 rfl (lv_at hl 2 rfl) ?_
      refine w_calli hw (w_runV (rest := [.ref (ad 1), .int x1]) C hw (mX1_memberAt l D ad cI cL S_1 x2 _ hq _) kc_X1_memberAt ml_X3_56 4 cO_X1 rfl rfl ⟨rfl, rfl, Nat.le_of_ble_eq_true rfl, Nat.le_of_ble_eq_true rfl⟩ rfl rfl (Nat.le_of_ble_eq_true rfl) hl.1 dX3_costOfChoices_25) ?_
      clear hw hq
      intro r_4 S_3 H locs hq hw
      refine w_calli hw (w_runV (rest := [.int x1]) C hw (mX2_costOf l D ad cI cL S_3 r_4 _ hq _) kc_X2_costOf ml_X3_60 1 cO_X2 rfl rfl ⟨rfl, rfl, Nat.le_of_ble_eq_true rfl, Nat.le_of_ble_eq_true rfl⟩ rfl rfl (Nat.le_of_ble_eq_true rfl) hl.1 dX3_costOfChoices_28) ?_
      clear hw hq
      intro r_6 S_5 H locs hq hw
      refine lv_bipush (v := 100) hx hb dX3_costOfChoices_31 (by decide) ?_
      refine lv_aload_n hx hb dX3_costOfChoices_33 rfl (lv_at hl 0 rfl) ?_
      refine w_get C hw uw_X3 5 cO_X3 rfl 2 (by decide) fl_X3_9 rfl dX3_costOfChoices_34 ?_
      refine lv_aload_n hx hb dX3_costOfChoices_37 rfl (lv_at hl 0 rfl) ?_
      refine w_get C hw uw_X3 5 cO_X3 rfl 3 (by decide) fl_X3_15 rfl dX3_costOfChoices_38 ?_
      refine lv_iload_n hx hb dX3_costOfChoices_41 rfl (lv_at hl 2 rfl) ?_
      obtain ⟨hin, hq⟩ := hq
      refine w_ild C hw 21 0 cI_15 rfl hin dX3_costOfChoices_42 ?_
      obtain ⟨hin, hq⟩ := hq
      refine w_ild C hw 20 0 cI_14 rfl hin dX3_costOfChoices_43 ?_
      obtain ⟨hne, hq⟩ := hq
      refine lv_idiv hx hb dX3_costOfChoices_44 hne ?_
      refine lv_imul hx hb dX3_costOfChoices_45 ?_
      refine lv_iadd hx hb dX3_costOfChoices_46 ?_
      refine lv_topi (fun v_7 ev_7 => ?_)
      replace hq := hq v_7 ev_7
      refine lv_istore_n (lv' := [(1, .int v_7), (0, .ref (ad 5)), (2, .int x2)]) hx hb dX3_costOfChoices_47 rfl hl (by decide) rfl (fun ls hl => ?_)
      refine lv_iinc (v := x2 + 1) (lv' := [(2, .int (x2 + 1)), (1, .int v_7), (0, .ref (ad 5))]) hx hb dX3_costOfChoices_48 hl (k := 2) rfl rfl (by decide) rfl (fun ls hl => ?_)
      refine lv_goto (tgt := 4) hx hb dX3_costOfChoices_51 (by decide) ?_
      exact ih S_5 v_7 (x2 + 1) hq _ _ _ hw (lv_sub hl [2, 1, 0] rfl)
set_option maxHeartbeats 4000000 in
set_option maxRecDepth 100000 in
theorem mX3_costOfChoices (l : Launch) (D : va_G) (ad : Nat → Nat) (cI cL : ClassId) (S : MS) (Q : Int32 → MS → Prop) (hq : wX3_costOfChoices S Q) : Mi l yX3_costOfChoices cX3_costOfChoices 3 (some .int) { frames := 1, cells := 0, slots := 0, locals := 21 } D (ctys cI cL) (cw ad cI cL) [.ref (ad 5)] S Q := by
  refine Mi.of (by decide +kernel) (Nat.le_of_ble_eq_true rfl) ?_
  intro p e s m args below meth c A ls C hw hl
  have hx := C.1
  have hb := C.2.1
  have hl : lv_has ls 3 [(0, .ref (ad 5))] := hl
  have hw : WW D (ctys cI cL) (cw ad cI cL S) A s s.heap [] := hw
  unfold wX3_costOfChoices at hq
  refine lv_iconst (v := 0) hx hb dX3_costOfChoices_0 (by decide) ?_
  refine lv_istore_n (lv' := [(1, .int 0), (0, .ref (ad 5))]) hx hb dX3_costOfChoices_1 rfl hl (by decide) rfl (fun ls hl => ?_)
  refine lv_iconst (v := 0) hx hb dX3_costOfChoices_2 (by decide) ?_
  refine lv_istore_n (lv' := [(2, .int 0), (1, .int 0), (0, .ref (ad 5))]) hx hb dX3_costOfChoices_3 rfl hl (by decide) rfl (fun ls hl => ?_)
  obtain ⟨n0, hq⟩ := hq
  refine kLX3_costOfChoices_4 C _ Q ?_ n0 S 0 0 hq _ _ _ hw (lv_sub hl [2, 1, 0] rfl)
  clear hw hl hq
  intro S_1 y_2 H locs ls hq hw hl
  refine lv_iload_n hx hb dX3_costOfChoices_54 rfl (lv_at hl 0 rfl) ?_
  exact w_iret C hw hq dX3_costOfChoices_55
set_option maxHeartbeats 4000000 in
set_option maxRecDepth 100000 in
theorem kLX3_keepsLaw_21 {p : Program} {l : Launch} {e : Env} {s : State} {m : MethodId} {args : Array Value} {below : List Frame} {meth : Method} {c : Code} {D : va_G} {ad : Nat → Nat} {cI cL : ClassId} {A : Nat → Prop} (C : Cx p s m args meth c yX3_keepsLaw.cls cX3_keepsLaw 8 (some .boolean)) (x1 : Int64) (x3 : Int64) (x5 : Int32) (K : MS → Prop) (Q : Int32 → MS → Prop) (hK : ∀ (S : MS) (H : Heap) (locs : List Loc) (ls : Array Slot), K S  → WW D (ctys cI cL) (cw ad cI cL S) A s H locs → lv_has ls 8 [(0, .ref (ad 5)), (1, .long x1), (3, .long x3), (5, .int x5)] → W p l e { frames := 2, cells := 0, slots := 0, locals := 43 } s m args below meth c H locs 0 0 (Zi D (ctys cI cL) (cw ad cI cL) A below args s Q) (F0 m 85 ls [])) : ∀ (n : Nat) (S : MS) (x6 : Int32) (_ : LX3_keepsLaw_21 x1 x3 x5 K Q n S x6) (H : Heap) (locs : List Loc) (ls : Array Slot), WW D (ctys cI cL) (cw ad cI cL S) A s H locs → lv_has ls 8 [(0, .ref (ad 5)), (1, .long x1), (3, .long x3), (5, .int x5), (6, .int x6)] → W p l e { frames := 2, cells := 0, slots := 0, locals := 43 } s m args below meth c H locs 0 0 (Zi D (ctys cI cL) (cw ad cI cL) A below args s Q) (F0 m 21 ls []) := by
  have hx := C.1
  have hb := C.2.1
  intro n
  induction n with
  | zero => intro S x6 hq; exact absurd hq (by rw [LX3_keepsLaw_21]; exact id)
  | succ n ih =>
    intro S x6 hq H locs ls hw hl
    rw [LX3_keepsLaw_21] at hq
    refine lv_iload hx hb dX3_keepsLaw_21 (lv_at hl 4 rfl) ?_
    refine lv_aload_n hx hb dX3_keepsLaw_23 rfl (lv_at hl 0 rfl) ?_
    refine w_get C hw uw_X3 5 cO_X3 rfl 1 (by decide) fl_X3_29 rfl dX3_keepsLaw_24 ?_
    refine w_calli hw (w_runV (rest := [.int x6]) C hw (mX1_memberCount l D ad cI cL S _ hq _) kc_X1_memberCount ml_X3_39 4 cO_X1 rfl rfl ⟨rfl, rfl, Nat.le_of_ble_eq_true rfl, Nat.le_of_ble_eq_true rfl⟩ rfl rfl (Nat.le_of_ble_eq_true rfl) hl.1 dX3_keepsLaw_27) ?_
    clear hw hq
    intro r_2 S_1 H locs hq hw
    refine lv_icmp_ge (tgt := 85) hx hb dX3_keepsLaw_30 (by decide) (fun hc => ?_) (fun hc => ?_)
    · replace hq := hq.1 hc
      exact hK S_1  _ _ _ hq hw (lv_sub hl [0, 1, 2, 3] rfl)
    · replace hq := hq.2 hc
      refine lv_iload hx hb dX3_keepsLaw_33 (lv_at hl 3 rfl) ?_
      refine lv_aload_n hx hb dX3_keepsLaw_35 rfl (lv_at hl 0 rfl) ?_
      refine w_get C hw uw_X3 5 cO_X3 rfl 2 (by decide) fl_X3_9 rfl dX3_keepsLaw_36 ?_
      refine lv_aload_n hx hb dX3_keepsLaw_39 rfl (lv_at hl 0 rfl) ?_
      refine w_get C hw uw_X3 5 cO_X3 rfl 3 (by decide) fl_X3_15 rfl dX3_keepsLaw_40 ?_
      refine lv_iload hx hb dX3_keepsLaw_43 (lv_at hl 4 rfl) ?_
      obtain ⟨hin, hq⟩ := hq
      refine w_ild C hw 21 0 cI_15 rfl hin dX3_keepsLaw_45 ?_
      obtain ⟨hin, hq⟩ := hq
      refine w_ild C hw 20 0 cI_14 rfl hin dX3_keepsLaw_46 ?_
      obtain ⟨hne, hq⟩ := hq
      refine lv_irem hx hb dX3_keepsLaw_47 hne ?_
      refine lv_topi (fun v_3 ev_3 => ?_)
      replace hq := hq v_3 ev_3
      refine lv_istore (lv' := [(7, .int v_3), (0, .ref (ad 5)), (1, .long x1), (3, .long x3), (5, .int x5), (6, .int x6)]) hx hb dX3_keepsLaw_48 hl (by decide) rfl (fun ls hl => ?_)
      refine lv_aload_n hx hb dX3_keepsLaw_50 rfl (lv_at hl 1 rfl) ?_
      refine w_get C hw uw_X3 5 cO_X3 rfl 1 (by decide) fl_X3_29 rfl dX3_keepsLaw_51 ?_
      refine lv_iload hx hb dX3_keepsLaw_54 (lv_at hl 5 rfl) ?_
      refine lv_aload_n hx hb dX3_keepsLaw_56 rfl (lv_at hl 1 rfl) ?_
      refine w_get C hw uw_X3 5 cO_X3 rfl 0 (by decide) fl_X3_25 rfl dX3_keepsLaw_57 ?_
      refine lv_aload_n hx hb dX3_keepsLaw_60 rfl (lv_at hl 1 rfl) ?_
      refine w_get C hw uw_X3 5 cO_X3 rfl 1 (by decide) fl_X3_29 rfl dX3_keepsLaw_61 ?_
      refine lv_iload hx hb dX3_keepsLaw_64 (lv_at hl 5 rfl) ?_
      refine w_calli hw (w_runV (rest := [.ref (ad 1), .int x6, .ref (ad 4)]) C hw (mX1_memberAt l D ad cI cL S_1 x6 _ hq _) kc_X1_memberAt ml_X3_56 4 cO_X1 rfl rfl ⟨rfl, rfl, Nat.le_of_ble_eq_true rfl, Nat.le_of_ble_eq_true rfl⟩ rfl rfl (Nat.le_of_ble_eq_true rfl) hl.1 dX3_keepsLaw_66) ?_
      clear hw hq
      intro r_5 S_4 H locs hq hw
      refine lv_iload hx hb dX3_keepsLaw_69 (lv_at hl 4 rfl) ?_
      refine lv_iload hx hb dX3_keepsLaw_71 (lv_at hl 0 rfl) ?_
      refine w_calli hw (w_runV (rest := [.int x6, .ref (ad 4)]) C hw (mX2_shareAfter l D ad cI cL S_4 r_5 x5 v_3 _ hq _) kc_X2_shareAfter ml_X3_65 1 cO_X2 rfl rfl ⟨rfl, rfl, Nat.le_of_ble_eq_true rfl, Nat.le_of_ble_eq_true rfl⟩ rfl rfl (Nat.le_of_ble_eq_true rfl) hl.1 dX3_keepsLaw_73) ?_
      clear hw hq
      intro r_7 S_6 H locs hq hw
      refine w_callv hw (w_runV (rest := []) C hw (mX1_setShare l D ad cI cL S_6 x6 r_7 _ hq _) kc_X1_setShare ml_X3_69 4 cO_X1 rfl rfl ⟨rfl, rfl, Nat.le_of_ble_eq_true rfl, Nat.le_of_ble_eq_true rfl⟩ rfl rfl (Nat.le_of_ble_eq_true rfl) hl.1 dX3_keepsLaw_76) ?_
      clear hw hq
      intro S_8 H locs hq hw
      refine lv_iinc (v := x6 + 1) (lv' := [(6, .int (x6 + 1)), (7, .int v_3), (0, .ref (ad 5)), (1, .long x1), (3, .long x3), (5, .int x5)]) hx hb dX3_keepsLaw_79 hl (k := 5) rfl rfl (by decide) rfl (fun ls hl => ?_)
      refine lv_goto (tgt := 21) hx hb dX3_keepsLaw_82 (by decide) ?_
      exact ih S_8 (x6 + 1) hq _ _ _ hw (lv_sub hl [2, 3, 4, 5, 0] rfl)
set_option maxHeartbeats 4000000 in
set_option maxRecDepth 100000 in
theorem kLX3_keepsLaw_5 {p : Program} {l : Launch} {e : Env} {s : State} {m : MethodId} {args : Array Value} {below : List Frame} {meth : Method} {c : Code} {D : va_G} {ad : Nat → Nat} {cI cL : ClassId} {A : Nat → Prop} (C : Cx p s m args meth c yX3_keepsLaw.cls cX3_keepsLaw 8 (some .boolean)) (x1 : Int64) (K : MS → Int64 → Prop) (Q : Int32 → MS → Prop) (hK : ∀ (S : MS) (z3 : Int64) (H : Heap) (locs : List Loc) (ls : Array Slot), K S z3 → WW D (ctys cI cL) (cw ad cI cL S) A s H locs → lv_has ls 8 [(1, .long x1), (3, .long z3)] → W p l e { frames := 2, cells := 0, slots := 0, locals := 43 } s m args below meth c H locs 0 0 (Zi D (ctys cI cL) (cw ad cI cL) A below args s Q) (F0 m 101 ls [])) : ∀ (n : Nat) (S : MS) (x3 : Int64) (x5 : Int32) (_ : LX3_keepsLaw_5 x1 K Q n S x3 x5) (H : Heap) (locs : List Loc) (ls : Array Slot), WW D (ctys cI cL) (cw ad cI cL S) A s H locs → lv_has ls 8 [(0, .ref (ad 5)), (1, .long x1), (3, .long x3), (5, .int x5)] → W p l e { frames := 2, cells := 0, slots := 0, locals := 43 } s m args below meth c H locs 0 0 (Zi D (ctys cI cL) (cw ad cI cL) A below args s Q) (F0 m 5 ls []) := by
  have hx := C.1
  have hb := C.2.1
  intro n
  induction n with
  | zero => intro S x3 x5 hq; exact absurd hq (by rw [LX3_keepsLaw_5]; exact id)
  | succ n ih =>
    intro S x3 x5 hq H locs ls hw hl
    rw [LX3_keepsLaw_5] at hq
    refine lv_iload hx hb dX3_keepsLaw_5 (lv_at hl 3 rfl) ?_
    refine lv_bipush (v := 100) hx hb dX3_keepsLaw_7 (by decide) ?_
    refine lv_icmp_ge (tgt := 101) hx hb dX3_keepsLaw_9 (by decide) (fun hc => ?_) (fun hc => ?_)
    · replace hq := hq.1 hc
      exact hK S x3 _ _ _ hq hw (lv_sub hl [1, 2] rfl)
    · replace hq := hq.2 hc
      refine lv_lload_n hx hb dX3_keepsLaw_12 rfl (lv_at hl 2 rfl) ?_
      refine lv_lload_n hx hb dX3_keepsLaw_13 rfl (lv_at hl 1 rfl) ?_
      refine W.lcmp hx hb dX3_keepsLaw_14 ?_
      refine lv_if_gt (tgt := 101) hx hb dX3_keepsLaw_15 (by decide) (fun hc => ?_) (fun hc => ?_)
      · replace hq := hq.1 hc
        exact hK S x3 _ _ _ hq hw (lv_sub hl [1, 2] rfl)
      · replace hq := hq.2 hc
        refine lv_iconst (v := 0) hx hb dX3_keepsLaw_18 (by decide) ?_
        refine lv_istore (lv' := [(6, .int 0), (0, .ref (ad 5)), (1, .long x1), (3, .long x3), (5, .int x5)]) hx hb dX3_keepsLaw_19 hl (by decide) rfl (fun ls hl => ?_)
        obtain ⟨n0, hq⟩ := hq
        refine kLX3_keepsLaw_21 C x1 x3 x5 _ Q ?_ n0 S 0 hq _ _ _ hw (lv_sub hl [1, 2, 3, 4, 0] rfl)
        clear hw hl hq
        intro S_1 H locs ls hq hw hl
        refine lv_lload_n hx hb dX3_keepsLaw_85 rfl (lv_at hl 2 rfl) ?_
        refine lv_aload_n hx hb dX3_keepsLaw_86 rfl (lv_at hl 0 rfl) ?_
        refine w_get C hw uw_X3 5 cO_X3 rfl 1 (by decide) fl_X3_29 rfl dX3_keepsLaw_87 ?_
        refine w_calll hw (w_runV (rest := [.long x3]) C hw (mX1_sum l D ad cI cL S_1 _ hq _) kc_X1_sum ml_X3_73 4 cO_X1 rfl rfl ⟨rfl, rfl, Nat.le_of_ble_eq_true rfl, Nat.le_of_ble_eq_true rfl⟩ rfl rfl (Nat.le_of_ble_eq_true rfl) hl.1 dX3_keepsLaw_90) ?_
        clear hw hq
        intro r_3 S_2 H locs hq hw
        refine lv_ladd hx hb dX3_keepsLaw_93 ?_
        refine lv_lstore_n (lv' := [(3, .long (x3 + r_3)), (0, .ref (ad 5)), (1, .long x1), (5, .int x5)]) hx hb dX3_keepsLaw_94 rfl hl (by decide) rfl (fun ls hl => ?_)
        refine lv_iinc (v := x5 + 1) (lv' := [(5, .int (x5 + 1)), (3, .long (x3 + r_3)), (0, .ref (ad 5)), (1, .long x1)]) hx hb dX3_keepsLaw_95 hl (k := 3) rfl rfl (by decide) rfl (fun ls hl => ?_)
        refine lv_goto (tgt := 5) hx hb dX3_keepsLaw_98 (by decide) ?_
        exact ih S_2 (x3 + r_3) (x5 + 1) hq _ _ _ hw (lv_sub hl [2, 3, 1, 0] rfl)
set_option maxHeartbeats 4000000 in
set_option maxRecDepth 100000 in
theorem mX3_keepsLaw (l : Launch) (D : va_G) (ad : Nat → Nat) (cI cL : ClassId) (S : MS) (x1 : Int64) (Q : Int32 → MS → Prop) (hq : wX3_keepsLaw S x1 Q) : Mi l yX3_keepsLaw cX3_keepsLaw 8 (some .boolean) { frames := 2, cells := 0, slots := 0, locals := 43 } D (ctys cI cL) (cw ad cI cL) [.ref (ad 5), .long x1] S Q := by
  refine Mi.of (by decide +kernel) (Nat.le_of_ble_eq_true rfl) ?_
  intro p e s m args below meth c A ls C hw hl
  have hx := C.1
  have hb := C.2.1
  have hl : lv_has ls 8 [(0, .ref (ad 5)), (1, .long x1)] := hl
  have hw : WW D (ctys cI cL) (cw ad cI cL S) A s s.heap [] := hw
  unfold wX3_keepsLaw at hq
  refine lv_lconst (v := 0) hx hb dX3_keepsLaw_0 (by decide) ?_
  refine lv_lstore_n (lv' := [(3, .long 0), (0, .ref (ad 5)), (1, .long x1)]) hx hb dX3_keepsLaw_1 rfl hl (by decide) rfl (fun ls hl => ?_)
  refine lv_iconst (v := 0) hx hb dX3_keepsLaw_2 (by decide) ?_
  refine lv_istore (lv' := [(5, .int 0), (3, .long 0), (0, .ref (ad 5)), (1, .long x1)]) hx hb dX3_keepsLaw_3 hl (by decide) rfl (fun ls hl => ?_)
  obtain ⟨n0, hq⟩ := hq
  refine kLX3_keepsLaw_5 C x1 _ Q ?_ n0 S 0 0 hq _ _ _ hw (lv_sub hl [2, 3, 1, 0] rfl)
  clear hw hl hq
  intro S_1 y_2 H locs ls hq hw hl
  refine lv_lload_n hx hb dX3_keepsLaw_101 rfl (lv_at hl 1 rfl) ?_
  refine lv_lload_n hx hb dX3_keepsLaw_102 rfl (lv_at hl 0 rfl) ?_
  refine W.lcmp hx hb dX3_keepsLaw_103 ?_
  refine lv_if_gt (tgt := 111) hx hb dX3_keepsLaw_104 (by decide) (fun hc => ?_) (fun hc => ?_)
  · replace hq := hq.1 hc
    refine lv_iconst (v := 0) hx hb dX3_keepsLaw_111 (by decide) ?_
    exact w_zret C hw rfl hq dX3_keepsLaw_112
  · replace hq := hq.2 hc
    refine lv_iconst (v := 1) hx hb dX3_keepsLaw_107 (by decide) ?_
    refine lv_goto (tgt := 112) hx hb dX3_keepsLaw_108 (by decide) ?_
    exact w_zret C hw rfl hq dX3_keepsLaw_112
set_option maxHeartbeats 4000000 in
set_option maxRecDepth 100000 in
theorem kLX3_toldChoices_12 {p : Program} {l : Launch} {e : Env} {s : State} {m : MethodId} {args : Array Value} {below : List Frame} {meth : Method} {c : Code} {D : va_G} {ad : Nat → Nat} {cI cL : ClassId} {A : Nat → Prop} (C : Cx p s m args meth c yX3_toldChoices.cls cX3_toldChoices 3 (some .int)) (K : MS → Int32 → Prop) (Q : Int32 → MS → Prop) (hK : ∀ (S : MS) (z1 : Int32) (H : Heap) (locs : List Loc) (ls : Array Slot), K S z1 → WW D (ctys cI cL) (cw ad cI cL S) A s H locs → lv_has ls 3 [(1, .int z1)] → W p l e { frames := 1, cells := 0, slots := 0, locals := 20 } s m args below meth c H locs 0 0 (Zi D (ctys cI cL) (cw ad cI cL) A below args s Q) (F0 m 33 ls [])) : ∀ (n : Nat) (S : MS) (x1 : Int32) (x2 : Int32) (_ : LX3_toldChoices_12 K Q n S x1 x2) (H : Heap) (locs : List Loc) (ls : Array Slot), WW D (ctys cI cL) (cw ad cI cL S) A s H locs → lv_has ls 3 [(0, .ref (ad 5)), (1, .int x1), (2, .int x2)] → W p l e { frames := 1, cells := 0, slots := 0, locals := 20 } s m args below meth c H locs 0 0 (Zi D (ctys cI cL) (cw ad cI cL) A below args s Q) (F0 m 12 ls []) := by
  have hx := C.1
  have hb := C.2.1
  intro n
  induction n with
  | zero => intro S x1 x2 hq; exact absurd hq (by rw [LX3_toldChoices_12]; exact id)
  | succ n ih =>
    intro S x1 x2 hq H locs ls hw hl
    rw [LX3_toldChoices_12] at hq
    refine lv_iload_n hx hb dX3_toldChoices_12 rfl (lv_at hl 2 rfl) ?_
    refine lv_if_lt (tgt := 33) hx hb dX3_toldChoices_13 (by decide) (fun hc => ?_) (fun hc => ?_)
    · replace hq := hq.1 hc
      exact hK S x1 _ _ _ hq hw (lv_sub hl [1] rfl)
    · replace hq := hq.2 hc
      refine lv_iload_n hx hb dX3_toldChoices_16 rfl (lv_at hl 1 rfl) ?_
      refine lv_iconst (v := 3) hx hb dX3_toldChoices_17 (by decide) ?_
      refine lv_imul hx hb dX3_toldChoices_18 ?_
      refine lv_aload_n hx hb dX3_toldChoices_19 rfl (lv_at hl 0 rfl) ?_
      refine w_get C hw uw_X3 5 cO_X3 rfl 3 (by decide) fl_X3_15 rfl dX3_toldChoices_20 ?_
      refine lv_iload_n hx hb dX3_toldChoices_23 rfl (lv_at hl 2 rfl) ?_
      obtain ⟨hin, hq⟩ := hq
      refine w_ild C hw 21 0 cI_15 rfl hin dX3_toldChoices_24 ?_
      refine lv_iadd hx hb dX3_toldChoices_25 ?_
      refine lv_topi (fun v_1 ev_1 => ?_)
      replace hq := hq v_1 ev_1
      refine lv_istore_n (lv' := [(1, .int v_1), (0, .ref (ad 5)), (2, .int x2)]) hx hb dX3_toldChoices_26 rfl hl (by decide) rfl (fun ls hl => ?_)
      refine lv_iinc (v := x2 + (-1)) (lv' := [(2, .int (x2 + (-1))), (1, .int v_1), (0, .ref (ad 5))]) hx hb dX3_toldChoices_27 hl (k := 2) rfl rfl (by decide) rfl (fun ls hl => ?_)
      refine lv_goto (tgt := 12) hx hb dX3_toldChoices_30 (by decide) ?_
      exact ih S v_1 (x2 + (-1)) hq _ _ _ hw (lv_sub hl [2, 1, 0] rfl)
set_option maxHeartbeats 4000000 in
set_option maxRecDepth 100000 in
theorem mX3_toldChoices (l : Launch) (D : va_G) (ad : Nat → Nat) (cI cL : ClassId) (S : MS) (Q : Int32 → MS → Prop) (hq : wX3_toldChoices S Q) : Mi l yX3_toldChoices cX3_toldChoices 3 (some .int) { frames := 1, cells := 0, slots := 0, locals := 20 } D (ctys cI cL) (cw ad cI cL) [.ref (ad 5)] S Q := by
  refine Mi.of (by decide +kernel) (Nat.le_of_ble_eq_true rfl) ?_
  intro p e s m args below meth c A ls C hw hl
  have hx := C.1
  have hb := C.2.1
  have hl : lv_has ls 3 [(0, .ref (ad 5))] := hl
  have hw : WW D (ctys cI cL) (cw ad cI cL S) A s s.heap [] := hw
  unfold wX3_toldChoices at hq
  refine lv_iconst (v := 0) hx hb dX3_toldChoices_0 (by decide) ?_
  refine lv_istore_n (lv' := [(1, .int 0), (0, .ref (ad 5))]) hx hb dX3_toldChoices_1 rfl hl (by decide) rfl (fun ls hl => ?_)
  refine lv_aload_n hx hb dX3_toldChoices_2 rfl (lv_at hl 1 rfl) ?_
  refine w_get C hw uw_X3 5 cO_X3 rfl 1 (by decide) fl_X3_29 rfl dX3_toldChoices_3 ?_
  refine w_calli hw (w_runV (rest := []) C hw (mX1_memberCount l D ad cI cL S _ hq _) kc_X1_memberCount ml_X3_39 4 cO_X1 rfl rfl ⟨rfl, rfl, Nat.le_of_ble_eq_true rfl, Nat.le_of_ble_eq_true rfl⟩ rfl rfl (Nat.le_of_ble_eq_true rfl) hl.1 dX3_toldChoices_6) ?_
  clear hw hq
  intro r_2 S_1 H locs hq hw
  refine lv_iconst (v := 1) hx hb dX3_toldChoices_9 (by decide) ?_
  refine lv_isub hx hb dX3_toldChoices_10 ?_
  refine lv_istore_n (lv' := [(2, .int (r_2 - 1)), (1, .int 0), (0, .ref (ad 5))]) hx hb dX3_toldChoices_11 rfl hl (by decide) rfl (fun ls hl => ?_)
  obtain ⟨n0, hq⟩ := hq
  refine kLX3_toldChoices_12 C _ Q ?_ n0 S_1 0 (r_2 - 1) hq _ _ _ hw (lv_sub hl [2, 1, 0] rfl)
  clear hw hl hq
  intro S_3 y_4 H locs ls hq hw hl
  refine lv_iload_n hx hb dX3_toldChoices_33 rfl (lv_at hl 0 rfl) ?_
  exact w_iret C hw hq dX3_toldChoices_34
set_option maxHeartbeats 4000000 in
set_option maxRecDepth 100000 in
theorem kLX3_findCheapest_14 {p : Program} {l : Launch} {e : Env} {s : State} {m : MethodId} {args : Array Value} {below : List Frame} {meth : Method} {c : Code} {D : va_G} {ad : Nat → Nat} {cI cL : ClassId} {A : Nat → Prop} (C : Cx p s m args meth c yX3_findCheapest.cls cX3_findCheapest 8 (some .boolean)) (x2 : Int64) (K : MS → Int32 → Prop) (Q : Int32 → MS → Prop) (hK : ∀ (S : MS) (z4 : Int32) (H : Heap) (locs : List Loc) (ls : Array Slot), K S z4 → WW D (ctys cI cL) (cw ad cI cL S) A s H locs → lv_has ls 8 [(0, .ref (ad 5)), (2, .long x2), (4, .int z4)] → W p l e { frames := 3, cells := 0, slots := 0, locals := 70 } s m args below meth c H locs 0 0 (Zi D (ctys cI cL) (cw ad cI cL) A below args s Q) (F0 m 38 ls [])) : ∀ (n : Nat) (S : MS) (x4 : Int32) (x5 : Int32) (_ : LX3_findCheapest_14 x2 K Q n S x4 x5) (H : Heap) (locs : List Loc) (ls : Array Slot), WW D (ctys cI cL) (cw ad cI cL S) A s H locs → lv_has ls 8 [(0, .ref (ad 5)), (2, .long x2), (4, .int x4), (5, .int x5)] → W p l e { frames := 3, cells := 0, slots := 0, locals := 70 } s m args below meth c H locs 0 0 (Zi D (ctys cI cL) (cw ad cI cL) A below args s Q) (F0 m 14 ls []) := by
  have hx := C.1
  have hb := C.2.1
  intro n
  induction n with
  | zero => intro S x4 x5 hq; exact absurd hq (by rw [LX3_findCheapest_14]; exact id)
  | succ n ih =>
    intro S x4 x5 hq H locs ls hw hl
    rw [LX3_findCheapest_14] at hq
    refine lv_iload hx hb dX3_findCheapest_14 (lv_at hl 3 rfl) ?_
    refine lv_aload_n hx hb dX3_findCheapest_16 rfl (lv_at hl 0 rfl) ?_
    refine w_get C hw uw_X3 5 cO_X3 rfl 1 (by decide) fl_X3_29 rfl dX3_findCheapest_17 ?_
    refine w_calli hw (w_runV (rest := [.int x5]) C hw (mX1_memberCount l D ad cI cL S _ hq _) kc_X1_memberCount ml_X3_39 4 cO_X1 rfl rfl ⟨rfl, rfl, Nat.le_of_ble_eq_true rfl, Nat.le_of_ble_eq_true rfl⟩ rfl rfl (Nat.le_of_ble_eq_true rfl) hl.1 dX3_findCheapest_20) ?_
    clear hw hq
    intro r_2 S_1 H locs hq hw
    refine lv_icmp_ge (tgt := 38) hx hb dX3_findCheapest_23 (by decide) (fun hc => ?_) (fun hc => ?_)
    · replace hq := hq.1 hc
      exact hK S_1 x4 _ _ _ hq hw (lv_sub hl [0, 1, 2] rfl)
    · replace hq := hq.2 hc
      refine lv_iload hx hb dX3_findCheapest_26 (lv_at hl 2 rfl) ?_
      refine lv_iconst (v := 3) hx hb dX3_findCheapest_28 (by decide) ?_
      refine lv_imul hx hb dX3_findCheapest_29 ?_
      refine lv_istore (lv' := [(4, .int (x4 * 3)), (0, .ref (ad 5)), (2, .long x2), (5, .int x5)]) hx hb dX3_findCheapest_30 hl (by decide) rfl (fun ls hl => ?_)
      refine lv_iinc (v := x5 + 1) (lv' := [(5, .int (x5 + 1)), (4, .int (x4 * 3)), (0, .ref (ad 5)), (2, .long x2)]) hx hb dX3_findCheapest_32 hl (k := 3) rfl rfl (by decide) rfl (fun ls hl => ?_)
      refine lv_goto (tgt := 14) hx hb dX3_findCheapest_35 (by decide) ?_
      exact ih S_1 (x4 * 3) (x5 + 1) hq _ _ _ hw (lv_sub hl [2, 3, 1, 0] rfl)
set_option maxHeartbeats 4000000 in
set_option maxRecDepth 100000 in
theorem kJX3_findCheapest_102 {p : Program} {l : Launch} {e : Env} {s : State} {m : MethodId} {args : Array Value} {below : List Frame} {meth : Method} {c : Code} {D : va_G} {ad : Nat → Nat} {cI cL : ClassId} {A : Nat → Prop} (C : Cx p s m args meth c yX3_findCheapest.cls cX3_findCheapest 8 (some .boolean)) (S : MS) (x2 : Int64) (x4 : Int32) (x5 : Int32) (x6 : Int32) (Hd : MS → Int32 → Int32 → Prop) (K : MS → Int32 → Prop) (Q : Int32 → MS → Prop) (hq : JX3_findCheapest_102 S x2 x4 x5 x6 Hd K Q) (H : Heap) (locs : List Loc) (ls : Array Slot) (hw : WW D (ctys cI cL) (cw ad cI cL S) A s H locs) (hl : lv_has ls 8 [(0, .ref (ad 5)), (2, .long x2), (4, .int x4), (5, .int x5), (6, .int x6)]) (hH : ∀ (S : MS) (z5 : Int32) (z6 : Int32) (H : Heap) (locs : List Loc) (ls : Array Slot), Hd S z5 z6 → WW D (ctys cI cL) (cw ad cI cL S) A s H locs → lv_has ls 8 [(0, .ref (ad 5)), (2, .long x2), (4, .int x4), (5, .int z5), (6, .int z6)] → W p l e { frames := 3, cells := 0, slots := 0, locals := 70 } s m args below meth c H locs 0 0 (Zi D (ctys cI cL) (cw ad cI cL) A below args s Q) (F0 m 44 ls [])) (hK : ∀ (S : MS) (z5 : Int32) (H : Heap) (locs : List Loc) (ls : Array Slot), K S z5 → WW D (ctys cI cL) (cw ad cI cL S) A s H locs → lv_has ls 8 [(5, .int z5)] → W p l e { frames := 3, cells := 0, slots := 0, locals := 70 } s m args below meth c H locs 0 0 (Zi D (ctys cI cL) (cw ad cI cL) A below args s Q) (F0 m 108 ls [])) : W p l e { frames := 3, cells := 0, slots := 0, locals := 70 } s m args below meth c H locs 0 0 (Zi D (ctys cI cL) (cw ad cI cL) A below args s Q) (F0 m 102 ls []) := by
  have hx := C.1
  have hb := C.2.1
  unfold JX3_findCheapest_102 at hq
  refine lv_iinc (v := x6 + 1) (lv' := [(6, .int (x6 + 1)), (0, .ref (ad 5)), (2, .long x2), (4, .int x4), (5, .int x5)]) hx hb dX3_findCheapest_102 hl (k := 4) rfl rfl (by decide) rfl (fun ls hl => ?_)
  refine lv_goto (tgt := 44) hx hb dX3_findCheapest_105 (by decide) ?_
  exact hH S x5 (x6 + 1) _ _ _ hq hw (lv_sub hl [1, 2, 3, 4, 0] rfl)
set_option maxHeartbeats 4000000 in
set_option maxRecDepth 100000 in
theorem kJX3_findCheapest_77 {p : Program} {l : Launch} {e : Env} {s : State} {m : MethodId} {args : Array Value} {below : List Frame} {meth : Method} {c : Code} {D : va_G} {ad : Nat → Nat} {cI cL : ClassId} {A : Nat → Prop} (C : Cx p s m args meth c yX3_findCheapest.cls cX3_findCheapest 8 (some .boolean)) (S : MS) (x2 : Int64) (x4 : Int32) (x5 : Int32) (x6 : Int32) (x7 : Int32) (Hd : MS → Int32 → Int32 → Prop) (K : MS → Int32 → Prop) (Q : Int32 → MS → Prop) (hq : JX3_findCheapest_77 S x2 x4 x5 x6 x7 Hd K Q) (H : Heap) (locs : List Loc) (ls : Array Slot) (hw : WW D (ctys cI cL) (cw ad cI cL S) A s H locs) (hl : lv_has ls 8 [(0, .ref (ad 5)), (2, .long x2), (4, .int x4), (5, .int x5), (6, .int x6), (7, .int x7)]) (hH : ∀ (S : MS) (z5 : Int32) (z6 : Int32) (H : Heap) (locs : List Loc) (ls : Array Slot), Hd S z5 z6 → WW D (ctys cI cL) (cw ad cI cL S) A s H locs → lv_has ls 8 [(0, .ref (ad 5)), (2, .long x2), (4, .int x4), (5, .int z5), (6, .int z6)] → W p l e { frames := 3, cells := 0, slots := 0, locals := 70 } s m args below meth c H locs 0 0 (Zi D (ctys cI cL) (cw ad cI cL) A below args s Q) (F0 m 44 ls [])) (hK : ∀ (S : MS) (z5 : Int32) (H : Heap) (locs : List Loc) (ls : Array Slot), K S z5 → WW D (ctys cI cL) (cw ad cI cL S) A s H locs → lv_has ls 8 [(5, .int z5)] → W p l e { frames := 3, cells := 0, slots := 0, locals := 70 } s m args below meth c H locs 0 0 (Zi D (ctys cI cL) (cw ad cI cL) A below args s Q) (F0 m 108 ls [])) : W p l e { frames := 3, cells := 0, slots := 0, locals := 70 } s m args below meth c H locs 0 0 (Zi D (ctys cI cL) (cw ad cI cL) A below args s Q) (F0 m 77 ls []) := by
  have hx := C.1
  have hb := C.2.1
  unfold JX3_findCheapest_77 at hq
  refine lv_aload_n hx hb dX3_findCheapest_77 rfl (lv_at hl 0 rfl) ?_
  refine lv_lload_n hx hb dX3_findCheapest_78 rfl (lv_at hl 1 rfl) ?_
  refine w_calli hw (w_runV (rest := []) C hw (mX3_keepsLaw l D ad cI cL S x2 _ hq _) kc_X3_keepsLaw ml_X3_49 5 cO_X3 rfl rfl ⟨rfl, rfl, Nat.le_of_ble_eq_true rfl, Nat.le_of_ble_eq_true rfl⟩ rfl rfl (Nat.le_of_ble_eq_true rfl) hl.1 dX3_findCheapest_79) ?_
  clear hw hq
  intro r_8 S_7 H locs hq hw
  refine lv_if_eq (tgt := 102) hx hb dX3_findCheapest_82 (by decide) (fun hc => ?_) (fun hc => ?_)
  · replace hq := hq.1 hc
    exact kJX3_findCheapest_102 C S_7 x2 x4 x5 x6 Hd K Q hq _ _ _ hw (lv_sub hl [0, 1, 2, 3, 4] rfl) hH hK
  · replace hq := hq.2 hc
    refine lv_iconst (v := 1) hx hb dX3_findCheapest_85 (by decide) ?_
    refine lv_istore (lv' := [(5, .int 1), (0, .ref (ad 5)), (2, .long x2), (4, .int x4), (6, .int x6), (7, .int x7)]) hx hb dX3_findCheapest_86 hl (by decide) rfl (fun ls hl => ?_)
    refine lv_aload_n hx hb dX3_findCheapest_88 rfl (lv_at hl 1 rfl) ?_
    refine lv_iload hx hb dX3_findCheapest_89 (lv_at hl 5 rfl) ?_
    obtain ⟨S_9, eS_9⟩ : ∃ z, z = uF S_7 6 x7 := ⟨_, rfl⟩
    replace hq := hq S_9 eS_9
    refine w_put (ws' := cw ad cI cL S_9) C hw uw_X3 tyX3 tyX3_ok nmX3 5 cO_X3 rfl 4 (by decide) fl_X3_18 rfl (by decide +kernel) (Nat.le_of_ble_eq_true rfl) dX3_findCheapest_91 (by rw [eS_9]; exact cFs_6) (fun H locs hw => ?_)
    refine lv_aload_n hx hb dX3_findCheapest_94 rfl (lv_at hl 1 rfl) ?_
    refine lv_aload_n hx hb dX3_findCheapest_95 rfl (lv_at hl 1 rfl) ?_
    refine w_calli hw (w_runV (rest := [.ref (ad 5)]) C hw (mX3_toldChoices l D ad cI cL S_9 _ hq _) kc_X3_toldChoices ml_X3_53 5 cO_X3 rfl rfl ⟨rfl, rfl, Nat.le_of_ble_eq_true rfl, Nat.le_of_ble_eq_true rfl⟩ rfl rfl (Nat.le_of_ble_eq_true rfl) hl.1 dX3_findCheapest_96) ?_
    clear hw hq
    intro r_11 S_10 H locs hq hw
    obtain ⟨S_12, eS_12⟩ : ∃ z, z = uF S_10 7 r_11 := ⟨_, rfl⟩
    replace hq := hq S_12 eS_12
    refine w_put (ws' := cw ad cI cL S_12) C hw uw_X3 tyX3 tyX3_ok nmX3 5 cO_X3 rfl 5 (by decide) fl_X3_22 rfl (by decide +kernel) (Nat.le_of_ble_eq_true rfl) dX3_findCheapest_99 (by rw [eS_12]; exact cFs_7) (fun H locs hw => ?_)
    exact kJX3_findCheapest_102 C S_12 x2 x4 1 x6 Hd K Q hq _ _ _ hw (lv_sub hl [1, 2, 3, 0, 4] rfl) hH hK
set_option maxHeartbeats 4000000 in
set_option maxRecDepth 100000 in
theorem kLX3_findCheapest_44 {p : Program} {l : Launch} {e : Env} {s : State} {m : MethodId} {args : Array Value} {below : List Frame} {meth : Method} {c : Code} {D : va_G} {ad : Nat → Nat} {cI cL : ClassId} {A : Nat → Prop} (C : Cx p s m args meth c yX3_findCheapest.cls cX3_findCheapest 8 (some .boolean)) (x2 : Int64) (x4 : Int32) (K : MS → Int32 → Prop) (Q : Int32 → MS → Prop) (hK : ∀ (S : MS) (z5 : Int32) (H : Heap) (locs : List Loc) (ls : Array Slot), K S z5 → WW D (ctys cI cL) (cw ad cI cL S) A s H locs → lv_has ls 8 [(5, .int z5)] → W p l e { frames := 3, cells := 0, slots := 0, locals := 70 } s m args below meth c H locs 0 0 (Zi D (ctys cI cL) (cw ad cI cL) A below args s Q) (F0 m 108 ls [])) : ∀ (n : Nat) (S : MS) (x5 : Int32) (x6 : Int32) (_ : LX3_findCheapest_44 x2 x4 K Q n S x5 x6) (H : Heap) (locs : List Loc) (ls : Array Slot), WW D (ctys cI cL) (cw ad cI cL S) A s H locs → lv_has ls 8 [(0, .ref (ad 5)), (2, .long x2), (4, .int x4), (5, .int x5), (6, .int x6)] → W p l e { frames := 3, cells := 0, slots := 0, locals := 70 } s m args below meth c H locs 0 0 (Zi D (ctys cI cL) (cw ad cI cL) A below args s Q) (F0 m 44 ls []) := by
  have hx := C.1
  have hb := C.2.1
  intro n
  induction n with
  | zero => intro S x5 x6 hq; exact absurd hq (by rw [LX3_findCheapest_44]; exact id)
  | succ n ih =>
    intro S x5 x6 hq H locs ls hw hl
    rw [LX3_findCheapest_44] at hq
    refine lv_iload hx hb dX3_findCheapest_44 (lv_at hl 4 rfl) ?_
    refine lv_iload hx hb dX3_findCheapest_46 (lv_at hl 2 rfl) ?_
    refine lv_icmp_ge (tgt := 108) hx hb dX3_findCheapest_48 (by decide) (fun hc => ?_) (fun hc => ?_)
    · replace hq := hq.1 hc
      exact hK S x5 _ _ _ hq hw (lv_sub hl [3] rfl)
    · replace hq := hq.2 hc
      refine lv_aload_n hx hb dX3_findCheapest_51 rfl (lv_at hl 0 rfl) ?_
      refine lv_iload hx hb dX3_findCheapest_52 (lv_at hl 4 rfl) ?_
      refine w_callv hw (w_runV (rest := []) C hw (mX3_takeChoices l D ad cI cL S x6 _ hq _) kc_X3_takeChoices ml_X3_43 5 cO_X3 rfl rfl ⟨rfl, rfl, Nat.le_of_ble_eq_true rfl, Nat.le_of_ble_eq_true rfl⟩ rfl rfl (Nat.le_of_ble_eq_true rfl) hl.1 dX3_findCheapest_54) ?_
      clear hw hq
      intro S_1 H locs hq hw
      refine lv_aload_n hx hb dX3_findCheapest_57 rfl (lv_at hl 0 rfl) ?_
      refine w_calli hw (w_runV (rest := []) C hw (mX3_costOfChoices l D ad cI cL S_1 _ hq _) kc_X3_costOfChoices ml_X3_46 5 cO_X3 rfl rfl ⟨rfl, rfl, Nat.le_of_ble_eq_true rfl, Nat.le_of_ble_eq_true rfl⟩ rfl rfl (Nat.le_of_ble_eq_true rfl) hl.1 dX3_findCheapest_58) ?_
      clear hw hq
      intro r_4 S_3 H locs hq hw
      refine lv_istore (lv' := [(7, .int r_4), (0, .ref (ad 5)), (2, .long x2), (4, .int x4), (5, .int x5), (6, .int x6)]) hx hb dX3_findCheapest_61 hl (by decide) rfl (fun ls hl => ?_)
      refine lv_iload hx hb dX3_findCheapest_63 (lv_at hl 4 rfl) ?_
      refine lv_if_eq (tgt := 77) hx hb dX3_findCheapest_65 (by decide) (fun hc => ?_) (fun hc => ?_)
      · replace hq := hq.1 hc
        exact kJX3_findCheapest_77 C S_3 x2 x4 x5 x6 r_4 _ K Q hq _ _ _ hw (lv_sub hl [1, 2, 3, 4, 5, 0] rfl) (fun S a5 a6 H locs ls hq hw hl => ih S a5 a6 hq H locs ls hw hl) hK
      · replace hq := hq.2 hc
        refine lv_iload hx hb dX3_findCheapest_68 (lv_at hl 0 rfl) ?_
        refine lv_aload_n hx hb dX3_findCheapest_70 rfl (lv_at hl 1 rfl) ?_
        refine w_get C hw uw_X3 5 cO_X3 rfl 4 (by decide) fl_X3_18 rfl dX3_findCheapest_71 ?_
        refine lv_icmp_ge (tgt := 102) hx hb dX3_findCheapest_74 (by decide) (fun hc => ?_) (fun hc => ?_)
        · replace hq := hq.1 hc
          exact kJX3_findCheapest_102 C S_3 x2 x4 x5 x6 _ K Q hq _ _ _ hw (lv_sub hl [1, 2, 3, 4, 5] rfl) (fun S a5 a6 H locs ls hq hw hl => ih S a5 a6 hq H locs ls hw hl) hK
        · replace hq := hq.2 hc
          exact kJX3_findCheapest_77 C S_3 x2 x4 x5 x6 r_4 _ K Q hq _ _ _ hw (lv_sub hl [1, 2, 3, 4, 5, 0] rfl) (fun S a5 a6 H locs ls hq hw hl => ih S a5 a6 hq H locs ls hw hl) hK
set_option maxHeartbeats 4000000 in
set_option maxRecDepth 100000 in
theorem mX3_findCheapest (l : Launch) (D : va_G) (ad : Nat → Nat) (cI cL : ClassId) (S : MS) (x1 : Int32) (x2 : Int64) (Q : Int32 → MS → Prop) (hq : wX3_findCheapest S x1 x2 Q) : Mi l yX3_findCheapest cX3_findCheapest 8 (some .boolean) { frames := 3, cells := 0, slots := 0, locals := 70 } D (ctys cI cL) (cw ad cI cL) [.ref (ad 5), .int x1, .long x2] S Q := by
  refine Mi.of (by decide +kernel) (Nat.le_of_ble_eq_true rfl) ?_
  intro p e s m args below meth c A ls C hw hl
  have hx := C.1
  have hb := C.2.1
  have hl : lv_has ls 8 [(0, .ref (ad 5)), (1, .int x1), (2, .long x2)] := hl
  have hw : WW D (ctys cI cL) (cw ad cI cL S) A s s.heap [] := hw
  unfold wX3_findCheapest at hq
  refine lv_aload_n hx hb dX3_findCheapest_0 rfl (lv_at hl 0 rfl) ?_
  refine w_get C hw uw_X3 5 cO_X3 rfl 1 (by decide) fl_X3_29 rfl dX3_findCheapest_1 ?_
  refine lv_iload_n hx hb dX3_findCheapest_4 rfl (lv_at hl 1 rfl) ?_
  refine w_callv hw (w_runV (rest := []) C hw (mX1_startFailing l D ad cI cL S x1 _ hq _) kc_X1_startFailing ml_X3_33 4 cO_X1 rfl rfl ⟨rfl, rfl, Nat.le_of_ble_eq_true rfl, Nat.le_of_ble_eq_true rfl⟩ rfl rfl (Nat.le_of_ble_eq_true rfl) hl.1 dX3_findCheapest_5) ?_
  clear hw hq
  intro S_1 H locs hq hw
  refine lv_iconst (v := 1) hx hb dX3_findCheapest_8 (by decide) ?_
  refine lv_istore (lv' := [(4, .int 1), (0, .ref (ad 5)), (1, .int x1), (2, .long x2)]) hx hb dX3_findCheapest_9 hl (by decide) rfl (fun ls hl => ?_)
  refine lv_iconst (v := 0) hx hb dX3_findCheapest_11 (by decide) ?_
  refine lv_istore (lv' := [(5, .int 0), (4, .int 1), (0, .ref (ad 5)), (1, .int x1), (2, .long x2)]) hx hb dX3_findCheapest_12 hl (by decide) rfl (fun ls hl => ?_)
  obtain ⟨n0, hq⟩ := hq
  refine kLX3_findCheapest_14 C x2 _ Q ?_ n0 S_1 1 0 hq _ _ _ hw (lv_sub hl [2, 4, 1, 0] rfl)
  clear hw hl hq
  intro S_3 y_4 H locs ls hq hw hl
  refine lv_iconst (v := 0) hx hb dX3_findCheapest_38 (by decide) ?_
  refine lv_istore (lv' := [(5, .int 0), (0, .ref (ad 5)), (2, .long x2), (4, .int y_4)]) hx hb dX3_findCheapest_39 hl (by decide) rfl (fun ls hl => ?_)
  refine lv_iconst (v := 0) hx hb dX3_findCheapest_41 (by decide) ?_
  refine lv_istore (lv' := [(6, .int 0), (5, .int 0), (0, .ref (ad 5)), (2, .long x2), (4, .int y_4)]) hx hb dX3_findCheapest_42 hl (by decide) rfl (fun ls hl => ?_)
  obtain ⟨n0, hq⟩ := hq
  refine kLX3_findCheapest_44 C x2 y_4 _ Q ?_ n0 S_3 0 0 hq _ _ _ hw (lv_sub hl [2, 3, 4, 1, 0] rfl)
  clear hw hl hq
  intro S_5 y_6 H locs ls hq hw hl
  refine lv_iload hx hb dX3_findCheapest_108 (lv_at hl 0 rfl) ?_
  exact w_zret C hw hq.1 hq.2 dX3_findCheapest_110
set_option maxHeartbeats 4000000 in
set_option maxRecDepth 100000 in
theorem mX4_has (l : Launch) (D : va_G) (ad : Nat → Nat) (cI cL : ClassId) (S : MS) (x1 : Int32) (Q : Int32 → MS → Prop) (hq : wX4_has S x1 Q) : Mi l yX4_has cX4_has 2 (some .boolean) { frames := 0, cells := 0, slots := 0, locals := 0 } D (ctys cI cL) (cw ad cI cL) [.ref (ad 3), .int x1] S Q := by
  refine Mi.of (by decide +kernel) (Nat.le_of_ble_eq_true rfl) ?_
  intro p e s m args below meth c A ls C hw hl
  have hx := C.1
  have hb := C.2.1
  have hl : lv_has ls 2 [(0, .ref (ad 3)), (1, .int x1)] := hl
  have hw : WW D (ctys cI cL) (cw ad cI cL S) A s s.heap [] := hw
  unfold wX4_has at hq
  refine lv_iload_n hx hb dX4_has_0 rfl (lv_at hl 1 rfl) ?_
  refine lv_if_lt (tgt := 16) hx hb dX4_has_1 (by decide) (fun hc => ?_) (fun hc => ?_)
  · replace hq := hq.1 hc
    refine lv_iconst (v := 0) hx hb dX4_has_16 (by decide) ?_
    exact w_zret C hw rfl hq dX4_has_17
  · replace hq := hq.2 hc
    refine lv_iload_n hx hb dX4_has_4 rfl (lv_at hl 1 rfl) ?_
    refine lv_aload_n hx hb dX4_has_5 rfl (lv_at hl 0 rfl) ?_
    refine w_get C hw uw_X4 3 cO_X4 rfl 5 (by decide) fl_X4_28 rfl dX4_has_6 ?_
    refine lv_icmp_ge (tgt := 16) hx hb dX4_has_9 (by decide) (fun hc => ?_) (fun hc => ?_)
    · replace hq := hq.1 hc
      refine lv_iconst (v := 0) hx hb dX4_has_16 (by decide) ?_
      exact w_zret C hw rfl hq dX4_has_17
    · replace hq := hq.2 hc
      refine lv_iconst (v := 1) hx hb dX4_has_12 (by decide) ?_
      refine lv_goto (tgt := 17) hx hb dX4_has_13 (by decide) ?_
      exact w_zret C hw rfl hq dX4_has_17
set_option maxHeartbeats 4000000 in
set_option maxRecDepth 100000 in
theorem mX4_size (l : Launch) (D : va_G) (ad : Nat → Nat) (cI cL : ClassId) (S : MS) (Q : Int32 → MS → Prop) (hq : wX4_size S Q) : Mi l yX4_size cX4_size 1 (some .int) { frames := 0, cells := 0, slots := 0, locals := 0 } D (ctys cI cL) (cw ad cI cL) [.ref (ad 3)] S Q := by
  refine Mi.of (by decide +kernel) (Nat.le_of_ble_eq_true rfl) ?_
  intro p e s m args below meth c A ls C hw hl
  have hx := C.1
  have hb := C.2.1
  have hl : lv_has ls 1 [(0, .ref (ad 3))] := hl
  have hw : WW D (ctys cI cL) (cw ad cI cL S) A s s.heap [] := hw
  unfold wX4_size at hq
  refine lv_aload_n hx hb dX4_size_0 rfl (lv_at hl 0 rfl) ?_
  refine w_get C hw uw_X4 3 cO_X4 rfl 5 (by decide) fl_X4_28 rfl dX4_size_1 ?_
  exact w_iret C hw hq dX4_size_4
set_option maxHeartbeats 4000000 in
set_option maxRecDepth 100000 in
theorem mX4_partsOfInput (l : Launch) (D : va_G) (ad : Nat → Nat) (cI cL : ClassId) (S : MS) (x1 : Int32) (Q : Int32 → MS → Prop) (hq : wX4_partsOfInput S x1 Q) : Mi l yX4_partsOfInput cX4_partsOfInput 2 (some .int) { frames := 0, cells := 0, slots := 0, locals := 0 } D (ctys cI cL) (cw ad cI cL) [.ref (ad 3), .int x1] S Q := by
  refine Mi.of (by decide +kernel) (Nat.le_of_ble_eq_true rfl) ?_
  intro p e s m args below meth c A ls C hw hl
  have hx := C.1
  have hb := C.2.1
  have hl : lv_has ls 2 [(0, .ref (ad 3)), (1, .int x1)] := hl
  have hw : WW D (ctys cI cL) (cw ad cI cL S) A s s.heap [] := hw
  unfold wX4_partsOfInput at hq
  refine lv_iload_n hx hb dX4_partsOfInput_0 rfl (lv_at hl 1 rfl) ?_
  refine lv_bipush (v := 12) hx hb dX4_partsOfInput_1 (by decide) ?_
  refine lv_icmp_ge (tgt := 12) hx hb dX4_partsOfInput_3 (by decide) (fun hc => ?_) (fun hc => ?_)
  · replace hq := hq.1 hc
    refine lv_aload_n hx hb dX4_partsOfInput_12 rfl (lv_at hl 0 rfl) ?_
    refine w_get C hw uw_X4 3 cO_X4 rfl 3 (by decide) fl_X4_21 rfl dX4_partsOfInput_13 ?_
    refine lv_iload_n hx hb dX4_partsOfInput_16 rfl (lv_at hl 1 rfl) ?_
    refine lv_bipush (v := 12) hx hb dX4_partsOfInput_17 (by decide) ?_
    refine lv_isub hx hb dX4_partsOfInput_19 ?_
    obtain ⟨hin, hq⟩ := hq
    refine w_ild C hw 17 0 cI_11 rfl hin dX4_partsOfInput_20 ?_
    exact w_iret C hw hq dX4_partsOfInput_21
  · replace hq := hq.2 hc
    refine lv_iconst (v := 1) hx hb dX4_partsOfInput_6 (by decide) ?_
    refine lv_iload_n hx hb dX4_partsOfInput_7 rfl (lv_at hl 1 rfl) ?_
    refine lv_ishl hx hb dX4_partsOfInput_8 ?_
    refine lv_goto (tgt := 21) hx hb dX4_partsOfInput_9 (by decide) ?_
    exact w_iret C hw hq dX4_partsOfInput_21
set_option maxHeartbeats 4000000 in
set_option maxRecDepth 100000 in
theorem kJX5_spread_37 {p : Program} {l : Launch} {e : Env} {s : State} {m : MethodId} {args : Array Value} {below : List Frame} {meth : Method} {c : Code} {D : va_G} {ad : Nat → Nat} {cI cL : ClassId} {A : Nat → Prop} (C : Cx p s m args meth c yX5_spread.cls cX5_spread 5 (some .int)) (S : MS) (x0 : Int32) (x1 : Int32) (x2 : Int32) (x3 : Int32) (x4 : Int32) (Hd : MS → Int32 → Int32 → Int32 → Prop) (K : MS → Int32 → Prop) (Q : Int32 → MS → Prop) (hq : JX5_spread_37 S x0 x1 x2 x3 x4 Hd K Q) (H : Heap) (locs : List Loc) (ls : Array Slot) (hw : WW D (ctys cI cL) (cw ad cI cL S) A s H locs) (hl : lv_has ls 5 [(0, .int x0), (1, .int x1), (2, .int x2), (3, .int x3), (4, .int x4)]) (hH : ∀ (S : MS) (z2 : Int32) (z3 : Int32) (z4 : Int32) (H : Heap) (locs : List Loc) (ls : Array Slot), Hd S z2 z3 z4 → WW D (ctys cI cL) (cw ad cI cL S) A s H locs → lv_has ls 5 [(0, .int x0), (1, .int x1), (2, .int z2), (3, .int z3), (4, .int z4)] → W p l e { frames := 1, cells := 0, slots := 0, locals := 21 } s m args below meth c H locs 0 0 (Zi D (ctys cI cL) (cw ad cI cL) A below args s Q) (F0 m 7 ls [])) (hK : ∀ (S : MS) (z2 : Int32) (H : Heap) (locs : List Loc) (ls : Array Slot), K S z2 → WW D (ctys cI cL) (cw ad cI cL S) A s H locs → lv_has ls 5 [(2, .int z2)] → W p l e { frames := 1, cells := 0, slots := 0, locals := 21 } s m args below meth c H locs 0 0 (Zi D (ctys cI cL) (cw ad cI cL) A below args s Q) (F0 m 43 ls [])) : W p l e { frames := 1, cells := 0, slots := 0, locals := 21 } s m args below meth c H locs 0 0 (Zi D (ctys cI cL) (cw ad cI cL) A below args s Q) (F0 m 37 ls []) := by
  have hx := C.1
  have hb := C.2.1
  unfold JX5_spread_37 at hq
  refine lv_iinc (v := x4 + 1) (lv' := [(4, .int (x4 + 1)), (0, .int x0), (1, .int x1), (2, .int x2), (3, .int x3)]) hx hb dX5_spread_37 hl (k := 4) rfl rfl (by decide) rfl (fun ls hl => ?_)
  refine lv_goto (tgt := 7) hx hb dX5_spread_40 (by decide) ?_
  exact hH S x2 x3 (x4 + 1) _ _ _ hq hw (lv_sub hl [1, 2, 3, 4, 0] rfl)
set_option maxHeartbeats 4000000 in
set_option maxRecDepth 100000 in
theorem kLX5_spread_7 {p : Program} {l : Launch} {e : Env} {s : State} {m : MethodId} {args : Array Value} {below : List Frame} {meth : Method} {c : Code} {D : va_G} {ad : Nat → Nat} {cI cL : ClassId} {A : Nat → Prop} (C : Cx p s m args meth c yX5_spread.cls cX5_spread 5 (some .int)) (x0 : Int32) (x1 : Int32) (K : MS → Int32 → Prop) (Q : Int32 → MS → Prop) (hK : ∀ (S : MS) (z2 : Int32) (H : Heap) (locs : List Loc) (ls : Array Slot), K S z2 → WW D (ctys cI cL) (cw ad cI cL S) A s H locs → lv_has ls 5 [(2, .int z2)] → W p l e { frames := 1, cells := 0, slots := 0, locals := 21 } s m args below meth c H locs 0 0 (Zi D (ctys cI cL) (cw ad cI cL) A below args s Q) (F0 m 43 ls [])) : ∀ (n : Nat) (S : MS) (x2 : Int32) (x3 : Int32) (x4 : Int32) (_ : LX5_spread_7 x0 x1 K Q n S x2 x3 x4) (H : Heap) (locs : List Loc) (ls : Array Slot), WW D (ctys cI cL) (cw ad cI cL S) A s H locs → lv_has ls 5 [(0, .int x0), (1, .int x1), (2, .int x2), (3, .int x3), (4, .int x4)] → W p l e { frames := 1, cells := 0, slots := 0, locals := 21 } s m args below meth c H locs 0 0 (Zi D (ctys cI cL) (cw ad cI cL) A below args s Q) (F0 m 7 ls []) := by
  have hx := C.1
  have hb := C.2.1
  intro n
  induction n with
  | zero => intro S x2 x3 x4 hq; exact absurd hq (by rw [LX5_spread_7]; exact id)
  | succ n ih =>
    intro S x2 x3 x4 hq H locs ls hw hl
    rw [LX5_spread_7] at hq
    refine lv_iload hx hb dX5_spread_7 (lv_at hl 4 rfl) ?_
    refine lv_bipush (v := 12) hx hb dX5_spread_9 (by decide) ?_
    refine lv_icmp_ge (tgt := 43) hx hb dX5_spread_11 (by decide) (fun hc => ?_) (fun hc => ?_)
    · replace hq := hq.1 hc
      exact hK S x2 _ _ _ hq hw (lv_sub hl [2] rfl)
    · replace hq := hq.2 hc
      refine lv_iload_n hx hb dX5_spread_14 rfl (lv_at hl 1 rfl) ?_
      refine lv_iload hx hb dX5_spread_15 (lv_at hl 4 rfl) ?_
      refine w_calli hw (w_runS (rest := []) C hw (mX5_hasBit l D ad cI cL S x1 x4 _ hq _) kc_X5_hasBit ml_X5_180 ⟨rfl, rfl, Nat.le_of_ble_eq_true rfl, Nat.le_of_ble_eq_true rfl⟩ rfl rfl (Nat.le_of_ble_eq_true rfl) hl.1 dX5_spread_17) ?_
      clear hw hq
      intro r_2 S_1 H locs hq hw
      refine lv_if_eq (tgt := 37) hx hb dX5_spread_20 (by decide) (fun hc => ?_) (fun hc => ?_)
      · replace hq := hq.1 hc
        exact kJX5_spread_37 C S_1 x0 x1 x2 x3 x4 _ K Q hq _ _ _ hw (lv_sub hl [0, 1, 2, 3, 4] rfl) (fun S a2 a3 a4 H locs ls hq hw hl => ih S a2 a3 a4 hq H locs ls hw hl) hK
      · replace hq := hq.2 hc
        refine lv_iload_n hx hb dX5_spread_23 rfl (lv_at hl 2 rfl) ?_
        refine lv_iload_n hx hb dX5_spread_24 rfl (lv_at hl 0 rfl) ?_
        refine lv_iload_n hx hb dX5_spread_25 rfl (lv_at hl 3 rfl) ?_
        refine lv_iushr (v := (jiushr x0 x3)) hx hb dX5_spread_26 rfl ?_
        refine lv_iconst (v := 1) hx hb dX5_spread_27 (by decide) ?_
        refine lv_iand hx hb dX5_spread_28 ?_
        refine lv_iload hx hb dX5_spread_29 (lv_at hl 4 rfl) ?_
        refine lv_ishl hx hb dX5_spread_31 ?_
        refine lv_ior hx hb dX5_spread_32 ?_
        refine lv_topi (fun v_3 ev_3 => ?_)
        replace hq := hq v_3 ev_3
        refine lv_istore_n (lv' := [(2, .int v_3), (0, .int x0), (1, .int x1), (3, .int x3), (4, .int x4)]) hx hb dX5_spread_33 rfl hl (by decide) rfl (fun ls hl => ?_)
        refine lv_iinc (v := x3 + 1) (lv' := [(3, .int (x3 + 1)), (2, .int v_3), (0, .int x0), (1, .int x1), (4, .int x4)]) hx hb dX5_spread_34 hl (k := 3) rfl rfl (by decide) rfl (fun ls hl => ?_)
        exact kJX5_spread_37 C S_1 x0 x1 v_3 (x3 + 1) x4 _ K Q hq _ _ _ hw (lv_sub hl [2, 3, 1, 0, 4] rfl) (fun S a2 a3 a4 H locs ls hq hw hl => ih S a2 a3 a4 hq H locs ls hw hl) hK
set_option maxHeartbeats 4000000 in
set_option maxRecDepth 100000 in
theorem mX5_spread (l : Launch) (D : va_G) (ad : Nat → Nat) (cI cL : ClassId) (S : MS) (x0 : Int32) (x1 : Int32) (Q : Int32 → MS → Prop) (hq : wX5_spread S x0 x1 Q) : Mi l yX5_spread cX5_spread 5 (some .int) { frames := 1, cells := 0, slots := 0, locals := 21 } D (ctys cI cL) (cw ad cI cL) [.int x0, .int x1] S Q := by
  refine Mi.of (by decide +kernel) (Nat.le_of_ble_eq_true rfl) ?_
  intro p e s m args below meth c A ls C hw hl
  have hx := C.1
  have hb := C.2.1
  have hl : lv_has ls 5 [(0, .int x0), (1, .int x1)] := hl
  have hw : WW D (ctys cI cL) (cw ad cI cL S) A s s.heap [] := hw
  unfold wX5_spread at hq
  refine lv_iconst (v := 0) hx hb dX5_spread_0 (by decide) ?_
  refine lv_istore_n (lv' := [(2, .int 0), (0, .int x0), (1, .int x1)]) hx hb dX5_spread_1 rfl hl (by decide) rfl (fun ls hl => ?_)
  refine lv_iconst (v := 0) hx hb dX5_spread_2 (by decide) ?_
  refine lv_istore_n (lv' := [(3, .int 0), (2, .int 0), (0, .int x0), (1, .int x1)]) hx hb dX5_spread_3 rfl hl (by decide) rfl (fun ls hl => ?_)
  refine lv_iconst (v := 0) hx hb dX5_spread_4 (by decide) ?_
  refine lv_istore (lv' := [(4, .int 0), (3, .int 0), (2, .int 0), (0, .int x0), (1, .int x1)]) hx hb dX5_spread_5 hl (by decide) rfl (fun ls hl => ?_)
  obtain ⟨n0, hq⟩ := hq
  refine kLX5_spread_7 C x0 x1 _ Q ?_ n0 S 0 0 0 hq _ _ _ hw (lv_sub hl [3, 4, 2, 1, 0] rfl)
  clear hw hl hq
  intro S_1 y_2 H locs ls hq hw hl
  refine lv_iload_n hx hb dX5_spread_43 rfl (lv_at hl 0 rfl) ?_
  exact w_iret C hw hq dX5_spread_44
set_option maxHeartbeats 4000000 in
set_option maxRecDepth 100000 in
theorem mX4_inputActs (l : Launch) (D : va_G) (ad : Nat → Nat) (cI cL : ClassId) (S : MS) (x1 : Int32) (x2 : Int32) (Q : Int32 → MS → Prop) (hq : wX4_inputActs S x1 x2 Q) : Mi l yX4_inputActs cX4_inputActs 4 (some .boolean) { frames := 2, cells := 0, slots := 0, locals := 45 } D (ctys cI cL) (cw ad cI cL) [.ref (ad 3), .int x1, .int x2] S Q := by
  refine Mi.of (by decide +kernel) (Nat.le_of_ble_eq_true rfl) ?_
  intro p e s m args below meth c A ls C hw hl
  have hx := C.1
  have hb := C.2.1
  have hl : lv_has ls 4 [(0, .ref (ad 3)), (1, .int x1), (2, .int x2)] := hl
  have hw : WW D (ctys cI cL) (cw ad cI cL S) A s s.heap [] := hw
  unfold wX4_inputActs at hq
  refine lv_iload_n hx hb dX4_inputActs_0 rfl (lv_at hl 1 rfl) ?_
  refine lv_bipush (v := 12) hx hb dX4_inputActs_1 (by decide) ?_
  refine lv_icmp_ge (tgt := 12) hx hb dX4_inputActs_3 (by decide) (fun hc => ?_) (fun hc => ?_)
  · replace hq := hq.1 hc
    refine lv_iload_n hx hb dX4_inputActs_12 rfl (lv_at hl 1 rfl) ?_
    refine lv_bipush (v := 12) hx hb dX4_inputActs_13 (by decide) ?_
    refine lv_isub hx hb dX4_inputActs_15 ?_
    refine lv_istore_n (lv' := [(3, .int (x1 - 12)), (0, .ref (ad 3)), (1, .int x1), (2, .int x2)]) hx hb dX4_inputActs_16 rfl hl (by decide) rfl (fun ls hl => ?_)
    refine lv_aload_n hx hb dX4_inputActs_17 rfl (lv_at hl 1 rfl) ?_
    refine lv_iload_n hx hb dX4_inputActs_18 rfl (lv_at hl 0 rfl) ?_
    refine lv_iload_n hx hb dX4_inputActs_19 rfl (lv_at hl 3 rfl) ?_
    refine lv_aload_n hx hb dX4_inputActs_20 rfl (lv_at hl 1 rfl) ?_
    refine w_get C hw uw_X4 3 cO_X4 rfl 3 (by decide) fl_X4_21 rfl dX4_inputActs_21 ?_
    refine lv_iload_n hx hb dX4_inputActs_24 rfl (lv_at hl 0 rfl) ?_
    obtain ⟨hin, hq⟩ := hq
    refine w_ild C hw 17 0 cI_11 rfl hin dX4_inputActs_25 ?_
    refine w_calli hw (w_runN (rest := [.int (x1 - 12), .ref (ad 3)]) C hw (mX5_packed l D ad cI cL S x2 (S.1 11 (x1 - 12).toNatClampNeg) _ hq _) kc_X5_packed ml_X4_62 ⟨rfl, rfl, Nat.le_of_ble_eq_true rfl, Nat.le_of_ble_eq_true rfl⟩ rfl rfl (Nat.le_of_ble_eq_true rfl) hl.1 dX4_inputActs_26) ?_
    clear hw hq
    intro r_2 S_1 H locs hq hw
    refine w_calli hw (w_runV (rest := []) C hw (mX4_actsIn l D ad cI cL S_1 (x1 - 12) r_2 _ hq _) kc_X4_actsIn ml_X4_65 3 cO_X4 rfl rfl ⟨rfl, rfl, Nat.le_of_ble_eq_true rfl, Nat.le_of_ble_eq_true rfl⟩ rfl rfl (Nat.le_of_ble_eq_true rfl) hl.1 dX4_inputActs_29) ?_
    clear hw hq
    intro r_4 S_3 H locs hq hw
    exact w_zret C hw hq.1 hq.2 dX4_inputActs_32
  · replace hq := hq.2 hc
    refine lv_iload_n hx hb dX4_inputActs_6 rfl (lv_at hl 2 rfl) ?_
    refine lv_iload_n hx hb dX4_inputActs_7 rfl (lv_at hl 1 rfl) ?_
    refine w_calli hw (w_runN (rest := []) C hw (mX5_hasBit l D ad cI cL S x2 x1 _ hq _) kc_X5_hasBit ml_X4_59 ⟨rfl, rfl, Nat.le_of_ble_eq_true rfl, Nat.le_of_ble_eq_true rfl⟩ rfl rfl (Nat.le_of_ble_eq_true rfl) hl.1 dX4_inputActs_8) ?_
    clear hw hq
    intro r_6 S_5 H locs hq hw
    exact w_zret C hw hq.1 hq.2 dX4_inputActs_11
