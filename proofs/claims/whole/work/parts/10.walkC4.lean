set_option maxHeartbeats 4000000 in
set_option maxRecDepth 100000 in
theorem mX5_chance (l : Launch) (D : va_G) (ad : Nat → Nat) (cI cL : ClassId) (S : MS) (x1 : Int32) (x2 : Int32) (Q : Int64 → MS → Prop) (hq : wX5_chance S x1 x2 Q) : Ml l yX5_chance cX5_chance 3 (some .long) { frames := 5, cells := 0, slots := 0, locals := 103 } D (ctys cI cL) (cw ad cI cL) [.ref (ad 0), .int x1, .int x2] S Q := by
  refine Ml.of (by decide +kernel) (Nat.le_of_ble_eq_true rfl) ?_
  intro p e s m args below meth c A ls C hw hl
  have hx := C.1
  have hb := C.2.1
  have hl : lv_has ls 3 [(0, .ref (ad 0)), (1, .int x1), (2, .int x2)] := hl
  have hw : WW D (ctys cI cL) (cw ad cI cL S) A s s.heap [] := hw
  unfold wX5_chance at hq
  refine lv_aload_n hx hb dX5_chance_0 rfl (lv_at hl 0 rfl) ?_
  refine w_get C hw uw_X5 0 cO_X5 rfl 2 (by decide) fl_X5_26 rfl dX5_chance_1 ?_
  refine lv_iload_n hx hb dX5_chance_4 rfl (lv_at hl 1 rfl) ?_
  refine w_calli hw (w_runV (rest := []) C hw (mX4_has l D ad cI cL S x1 _ hq _) kc_X4_has ml_X5_103 3 cO_X4 rfl rfl ⟨rfl, rfl, Nat.le_of_ble_eq_true rfl, Nat.le_of_ble_eq_true rfl⟩ rfl rfl (Nat.le_of_ble_eq_true rfl) hl.1 dX5_chance_5) ?_
  clear hw hq
  intro r_2 S_1 H locs hq hw
  refine lv_if_eq (tgt := 18) hx hb dX5_chance_8 (by decide) (fun hc => ?_) (fun hc => ?_)
  · replace hq := hq.1 hc
    refine lv_ldc2 hx hb C.2.2.2.2.1 (C.w kk_X5_113 rfl) dX5_chance_18 ?_
    exact w_lret C hw hq dX5_chance_21
  · replace hq := hq.2 hc
    refine lv_iload_n hx hb dX5_chance_11 rfl (lv_at hl 2 rfl) ?_
    refine w_calli hw (w_runS (rest := []) C hw (mX5_isDay l D ad cI cL S_1 x2 _ hq _) kc_X5_isDay ml_X5_63 ⟨rfl, rfl, Nat.le_of_ble_eq_true rfl, Nat.le_of_ble_eq_true rfl⟩ rfl rfl (Nat.le_of_ble_eq_true rfl) hl.1 dX5_chance_12) ?_
    clear hw hq
    intro r_4 S_3 H locs hq hw
    refine lv_if_ne (tgt := 22) hx hb dX5_chance_15 (by decide) (fun hc => ?_) (fun hc => ?_)
    · replace hq := hq.2 hc
      refine lv_aload_n hx hb dX5_chance_22 rfl (lv_at hl 0 rfl) ?_
      refine w_get C hw uw_X5 0 cO_X5 rfl 3 (by decide) fl_X5_35 rfl dX5_chance_23 ?_
      refine lv_iload_n hx hb dX5_chance_26 rfl (lv_at hl 1 rfl) ?_
      refine w_calli hw (w_runV (rest := []) C hw (mX1_hasTooManyEvents l D ad cI cL S_3 x1 _ hq _) kc_X1_hasTooManyEvents ml_X5_115 4 cO_X1 rfl rfl ⟨rfl, rfl, Nat.le_of_ble_eq_true rfl, Nat.le_of_ble_eq_true rfl⟩ rfl rfl (Nat.le_of_ble_eq_true rfl) hl.1 dX5_chance_27) ?_
      clear hw hq
      intro r_6 S_5 H locs hq hw
      refine lv_if_eq (tgt := 37) hx hb dX5_chance_30 (by decide) (fun hc => ?_) (fun hc => ?_)
      · replace hq := hq.1 hc
        refine lv_aload_n hx hb dX5_chance_37 rfl (lv_at hl 0 rfl) ?_
        refine w_get C hw uw_X5 0 cO_X5 rfl 3 (by decide) fl_X5_35 rfl dX5_chance_38 ?_
        refine lv_iload_n hx hb dX5_chance_41 rfl (lv_at hl 1 rfl) ?_
        refine w_callv hw (w_runV (rest := []) C hw (mX1_startFailing l D ad cI cL S_5 x1 _ hq _) kc_X1_startFailing ml_X5_120 4 cO_X1 rfl rfl ⟨rfl, rfl, Nat.le_of_ble_eq_true rfl, Nat.le_of_ble_eq_true rfl⟩ rfl rfl (Nat.le_of_ble_eq_true rfl) hl.1 dX5_chance_42) ?_
        clear hw hq
        intro S_7 H locs hq hw
        refine lv_aload_n hx hb dX5_chance_45 rfl (lv_at hl 0 rfl) ?_
        refine w_get C hw uw_X5 0 cO_X5 rfl 3 (by decide) fl_X5_35 rfl dX5_chance_46 ?_
        refine lv_iload_n hx hb dX5_chance_49 rfl (lv_at hl 2 rfl) ?_
        refine w_calll hw (w_runV (rest := []) C hw (mX1_onDay l D ad cI cL S_7 x2 _ hq _) kc_X1_onDay ml_X5_124 4 cO_X1 rfl rfl ⟨rfl, rfl, Nat.le_of_ble_eq_true rfl, Nat.le_of_ble_eq_true rfl⟩ rfl rfl (Nat.le_of_ble_eq_true rfl) hl.1 dX5_chance_50) ?_
        clear hw hq
        intro r_10 S_9 H locs hq hw
        exact w_lret C hw hq dX5_chance_53
      · replace hq := hq.2 hc
        refine lv_ldc2 hx hb C.2.2.2.2.1 (C.w kk_X5_118 rfl) dX5_chance_33 ?_
        exact w_lret C hw hq dX5_chance_36
    · replace hq := hq.1 hc
      refine lv_ldc2 hx hb C.2.2.2.2.1 (C.w kk_X5_113 rfl) dX5_chance_18 ?_
      exact w_lret C hw hq dX5_chance_21
set_option maxHeartbeats 4000000 in
set_option maxRecDepth 100000 in
theorem mX5_areSummedDays (l : Launch) (D : va_G) (ad : Nat → Nat) (cI cL : ClassId) (S : MS) (x0 : Int32) (x1 : Int32) (Q : Int32 → MS → Prop) (hq : wX5_areSummedDays S x0 x1 Q) : Mi l yX5_areSummedDays cX5_areSummedDays 2 (some .boolean) { frames := 2, cells := 0, slots := 0, locals := 41 } D (ctys cI cL) (cw ad cI cL) [.int x0, .int x1] S Q := by
  refine Mi.of (by decide +kernel) (Nat.le_of_ble_eq_true rfl) ?_
  intro p e s m args below meth c A ls C hw hl
  have hx := C.1
  have hb := C.2.1
  have hl : lv_has ls 2 [(0, .int x0), (1, .int x1)] := hl
  have hw : WW D (ctys cI cL) (cw ad cI cL S) A s s.heap [] := hw
  unfold wX5_areSummedDays at hq
  refine lv_iload_n hx hb dX5_areSummedDays_0 rfl (lv_at hl 0 rfl) ?_
  refine lv_iload_n hx hb dX5_areSummedDays_1 rfl (lv_at hl 1 rfl) ?_
  refine w_calli hw (w_runS (rest := []) C hw (mX5_areDays l D ad cI cL S x0 x1 _ hq _) kc_X5_areDays ml_X5_73 ⟨rfl, rfl, Nat.le_of_ble_eq_true rfl, Nat.le_of_ble_eq_true rfl⟩ rfl rfl (Nat.le_of_ble_eq_true rfl) hl.1 dX5_areSummedDays_2) ?_
  clear hw hq
  intro r_2 S_1 H locs hq hw
  refine lv_if_eq (tgt := 21) hx hb dX5_areSummedDays_5 (by decide) (fun hc => ?_) (fun hc => ?_)
  · replace hq := hq.1 hc
    refine lv_iconst (v := 0) hx hb dX5_areSummedDays_21 (by decide) ?_
    exact w_zret C hw rfl hq dX5_areSummedDays_22
  · replace hq := hq.2 hc
    refine lv_iload_n hx hb dX5_areSummedDays_8 rfl (lv_at hl 1 rfl) ?_
    refine lv_iload_n hx hb dX5_areSummedDays_9 rfl (lv_at hl 0 rfl) ?_
    refine lv_isub hx hb dX5_areSummedDays_10 ?_
    refine lv_sipush (v := 200) hx hb dX5_areSummedDays_11 (by decide) ?_
    refine lv_icmp_ge (tgt := 21) hx hb dX5_areSummedDays_14 (by decide) (fun hc => ?_) (fun hc => ?_)
    · replace hq := hq.1 hc
      refine lv_iconst (v := 0) hx hb dX5_areSummedDays_21 (by decide) ?_
      exact w_zret C hw rfl hq dX5_areSummedDays_22
    · replace hq := hq.2 hc
      refine lv_iconst (v := 1) hx hb dX5_areSummedDays_17 (by decide) ?_
      refine lv_goto (tgt := 22) hx hb dX5_areSummedDays_18 (by decide) ?_
      exact w_zret C hw rfl hq dX5_areSummedDays_22
set_option maxHeartbeats 4000000 in
set_option maxRecDepth 100000 in
theorem kLX5_over_52 {p : Program} {l : Launch} {e : Env} {s : State} {m : MethodId} {args : Array Value} {below : List Frame} {meth : Method} {c : Code} {D : va_G} {ad : Nat → Nat} {cI cL : ClassId} {A : Nat → Prop} (C : Cx p s m args meth c yX5_over.cls cX5_over 7 (some .long)) (x3 : Int32) (K : MS → Int64 → Prop) (Q : Int64 → MS → Prop) (hK : ∀ (S : MS) (z4 : Int64) (H : Heap) (locs : List Loc) (ls : Array Slot), K S z4 → WW D (ctys cI cL) (cw ad cI cL S) A s H locs → lv_has ls 7 [(4, .long z4)] → W p l e { frames := 5, cells := 0, slots := 0, locals := 103 } s m args below meth c H locs 0 0 (Zl D (ctys cI cL) (cw ad cI cL) A below args s Q) (F0 m 78 ls [])) : ∀ (n : Nat) (S : MS) (x4 : Int64) (x6 : Int32) (_ : LX5_over_52 x3 K Q n S x4 x6) (H : Heap) (locs : List Loc) (ls : Array Slot), WW D (ctys cI cL) (cw ad cI cL S) A s H locs → lv_has ls 7 [(0, .ref (ad 0)), (3, .int x3), (4, .long x4), (6, .int x6)] → W p l e { frames := 5, cells := 0, slots := 0, locals := 103 } s m args below meth c H locs 0 0 (Zl D (ctys cI cL) (cw ad cI cL) A below args s Q) (F0 m 52 ls []) := by
  have hx := C.1
  have hb := C.2.1
  intro n
  induction n with
  | zero => intro S x4 x6 hq; exact absurd hq (by rw [LX5_over_52]; exact id)
  | succ n ih =>
    intro S x4 x6 hq H locs ls hw hl
    rw [LX5_over_52] at hq
    refine lv_iload hx hb dX5_over_52 (lv_at hl 3 rfl) ?_
    refine lv_iload_n hx hb dX5_over_54 rfl (lv_at hl 1 rfl) ?_
    refine lv_icmp_gt (tgt := 78) hx hb dX5_over_55 (by decide) (fun hc => ?_) (fun hc => ?_)
    · replace hq := hq.1 hc
      exact hK S x4 _ _ _ hq hw (lv_sub hl [2] rfl)
    · replace hq := hq.2 hc
      refine lv_lload hx hb dX5_over_58 (lv_at hl 2 rfl) ?_
      refine lv_aload_n hx hb dX5_over_60 rfl (lv_at hl 0 rfl) ?_
      refine w_get C hw uw_X5 0 cO_X5 rfl 3 (by decide) fl_X5_35 rfl dX5_over_61 ?_
      refine lv_iload hx hb dX5_over_64 (lv_at hl 3 rfl) ?_
      refine w_calll hw (w_runV (rest := [.long x4]) C hw (mX1_onDay l D ad cI cL S x6 _ hq _) kc_X1_onDay ml_X5_124 4 cO_X1 rfl rfl ⟨rfl, rfl, Nat.le_of_ble_eq_true rfl, Nat.le_of_ble_eq_true rfl⟩ rfl rfl (Nat.le_of_ble_eq_true rfl) hl.1 dX5_over_66) ?_
      clear hw hq
      intro r_2 S_1 H locs hq hw
      refine lv_ladd hx hb dX5_over_69 ?_
      refine lv_lstore (lv' := [(4, .long (x4 + r_2)), (0, .ref (ad 0)), (3, .int x3), (6, .int x6)]) hx hb dX5_over_70 hl (by decide) rfl (fun ls hl => ?_)
      refine lv_iinc (v := x6 + 1) (lv' := [(6, .int (x6 + 1)), (4, .long (x4 + r_2)), (0, .ref (ad 0)), (3, .int x3)]) hx hb dX5_over_72 hl (k := 3) rfl rfl (by decide) rfl (fun ls hl => ?_)
      refine lv_goto (tgt := 52) hx hb dX5_over_75 (by decide) ?_
      exact ih S_1 (x4 + r_2) (x6 + 1) hq _ _ _ hw (lv_sub hl [2, 3, 1, 0] rfl)
set_option maxHeartbeats 4000000 in
set_option maxRecDepth 100000 in
theorem mX5_over (l : Launch) (D : va_G) (ad : Nat → Nat) (cI cL : ClassId) (S : MS) (x1 : Int32) (x2 : Int32) (x3 : Int32) (Q : Int64 → MS → Prop) (hq : wX5_over S x1 x2 x3 Q) : Ml l yX5_over cX5_over 7 (some .long) { frames := 5, cells := 0, slots := 0, locals := 103 } D (ctys cI cL) (cw ad cI cL) [.ref (ad 0), .int x1, .int x2, .int x3] S Q := by
  refine Ml.of (by decide +kernel) (Nat.le_of_ble_eq_true rfl) ?_
  intro p e s m args below meth c A ls C hw hl
  have hx := C.1
  have hb := C.2.1
  have hl : lv_has ls 7 [(0, .ref (ad 0)), (1, .int x1), (2, .int x2), (3, .int x3)] := hl
  have hw : WW D (ctys cI cL) (cw ad cI cL S) A s s.heap [] := hw
  unfold wX5_over at hq
  refine lv_aload_n hx hb dX5_over_0 rfl (lv_at hl 0 rfl) ?_
  refine w_get C hw uw_X5 0 cO_X5 rfl 2 (by decide) fl_X5_26 rfl dX5_over_1 ?_
  refine lv_iload_n hx hb dX5_over_4 rfl (lv_at hl 1 rfl) ?_
  refine w_calli hw (w_runV (rest := []) C hw (mX4_has l D ad cI cL S x1 _ hq _) kc_X4_has ml_X5_103 3 cO_X4 rfl rfl ⟨rfl, rfl, Nat.le_of_ble_eq_true rfl, Nat.le_of_ble_eq_true rfl⟩ rfl rfl (Nat.le_of_ble_eq_true rfl) hl.1 dX5_over_5) ?_
  clear hw hq
  intro r_2 S_1 H locs hq hw
  refine lv_if_eq (tgt := 19) hx hb dX5_over_8 (by decide) (fun hc => ?_) (fun hc => ?_)
  · replace hq := hq.1 hc
    refine lv_ldc2 hx hb C.2.2.2.2.1 (C.w kk_X5_113 rfl) dX5_over_19 ?_
    exact w_lret C hw hq dX5_over_22
  · replace hq := hq.2 hc
    refine lv_iload_n hx hb dX5_over_11 rfl (lv_at hl 2 rfl) ?_
    refine lv_iload_n hx hb dX5_over_12 rfl (lv_at hl 3 rfl) ?_
    refine w_calli hw (w_runS (rest := []) C hw (mX5_areSummedDays l D ad cI cL S_1 x2 x3 _ hq _) kc_X5_areSummedDays ml_X5_128 ⟨rfl, rfl, Nat.le_of_ble_eq_true rfl, Nat.le_of_ble_eq_true rfl⟩ rfl rfl (Nat.le_of_ble_eq_true rfl) hl.1 dX5_over_13) ?_
    clear hw hq
    intro r_4 S_3 H locs hq hw
    refine lv_if_ne (tgt := 23) hx hb dX5_over_16 (by decide) (fun hc => ?_) (fun hc => ?_)
    · replace hq := hq.2 hc
      refine lv_aload_n hx hb dX5_over_23 rfl (lv_at hl 0 rfl) ?_
      refine w_get C hw uw_X5 0 cO_X5 rfl 3 (by decide) fl_X5_35 rfl dX5_over_24 ?_
      refine lv_iload_n hx hb dX5_over_27 rfl (lv_at hl 1 rfl) ?_
      refine w_calli hw (w_runV (rest := []) C hw (mX1_hasTooManyEvents l D ad cI cL S_3 x1 _ hq _) kc_X1_hasTooManyEvents ml_X5_115 4 cO_X1 rfl rfl ⟨rfl, rfl, Nat.le_of_ble_eq_true rfl, Nat.le_of_ble_eq_true rfl⟩ rfl rfl (Nat.le_of_ble_eq_true rfl) hl.1 dX5_over_28) ?_
      clear hw hq
      intro r_6 S_5 H locs hq hw
      refine lv_if_eq (tgt := 38) hx hb dX5_over_31 (by decide) (fun hc => ?_) (fun hc => ?_)
      · replace hq := hq.1 hc
        refine lv_aload_n hx hb dX5_over_38 rfl (lv_at hl 0 rfl) ?_
        refine w_get C hw uw_X5 0 cO_X5 rfl 3 (by decide) fl_X5_35 rfl dX5_over_39 ?_
        refine lv_iload_n hx hb dX5_over_42 rfl (lv_at hl 1 rfl) ?_
        refine w_callv hw (w_runV (rest := []) C hw (mX1_startFailing l D ad cI cL S_5 x1 _ hq _) kc_X1_startFailing ml_X5_120 4 cO_X1 rfl rfl ⟨rfl, rfl, Nat.le_of_ble_eq_true rfl, Nat.le_of_ble_eq_true rfl⟩ rfl rfl (Nat.le_of_ble_eq_true rfl) hl.1 dX5_over_43) ?_
        clear hw hq
        intro S_7 H locs hq hw
        refine lv_lconst (v := 0) hx hb dX5_over_46 (by decide) ?_
        refine lv_lstore (lv' := [(4, .long 0), (0, .ref (ad 0)), (1, .int x1), (2, .int x2), (3, .int x3)]) hx hb dX5_over_47 hl (by decide) rfl (fun ls hl => ?_)
        refine lv_iload_n hx hb dX5_over_49 rfl (lv_at hl 3 rfl) ?_
        refine lv_istore (lv' := [(6, .int x2), (4, .long 0), (0, .ref (ad 0)), (1, .int x1), (2, .int x2), (3, .int x3)]) hx hb dX5_over_50 hl (by decide) rfl (fun ls hl => ?_)
        obtain ⟨n0, hq⟩ := hq
        refine kLX5_over_52 C x3 _ Q ?_ n0 S_7 0 x2 hq _ _ _ hw (lv_sub hl [2, 5, 1, 0] rfl)
        clear hw hl hq
        intro S_9 y_10 H locs ls hq hw hl
        refine lv_lload hx hb dX5_over_78 (lv_at hl 0 rfl) ?_
        exact w_lret C hw hq dX5_over_80
      · replace hq := hq.2 hc
        refine lv_ldc2 hx hb C.2.2.2.2.1 (C.w kk_X5_118 rfl) dX5_over_34 ?_
        exact w_lret C hw hq dX5_over_37
    · replace hq := hq.1 hc
      refine lv_ldc2 hx hb C.2.2.2.2.1 (C.w kk_X5_113 rfl) dX5_over_19 ?_
      exact w_lret C hw hq dX5_over_22
set_option maxHeartbeats 4000000 in
set_option maxRecDepth 100000 in
theorem kLX5_broken_62 {p : Program} {l : Launch} {e : Env} {s : State} {m : MethodId} {args : Array Value} {below : List Frame} {meth : Method} {c : Code} {D : va_G} {ad : Nat → Nat} {cI cL : ClassId} {A : Nat → Prop} (C : Cx p s m args meth c yX5_broken.cls cX5_broken 7 (some .int)) (x3 : Int32) (x4 : Int64) (K : MS → Prop) (Q : Int32 → MS → Prop) (hK : ∀ (S : MS) (H : Heap) (locs : List Loc) (ls : Array Slot), K S  → WW D (ctys cI cL) (cw ad cI cL S) A s H locs → lv_has ls 7 [] → W p l e { frames := 5, cells := 0, slots := 0, locals := 103 } s m args below meth c H locs 0 0 (Zi D (ctys cI cL) (cw ad cI cL) A below args s Q) (F0 m 92 ls [])) : ∀ (n : Nat) (S : MS) (x6 : Int32) (_ : LX5_broken_62 x3 x4 K Q n S x6) (H : Heap) (locs : List Loc) (ls : Array Slot), WW D (ctys cI cL) (cw ad cI cL S) A s H locs → lv_has ls 7 [(0, .ref (ad 0)), (3, .int x3), (4, .long x4), (6, .int x6)] → W p l e { frames := 5, cells := 0, slots := 0, locals := 103 } s m args below meth c H locs 0 0 (Zi D (ctys cI cL) (cw ad cI cL) A below args s Q) (F0 m 62 ls []) := by
  have hx := C.1
  have hb := C.2.1
  intro n
  induction n with
  | zero => intro S x6 hq; exact absurd hq (by rw [LX5_broken_62]; exact id)
  | succ n ih =>
    intro S x6 hq H locs ls hw hl
    rw [LX5_broken_62] at hq
    refine lv_iload hx hb dX5_broken_62 (lv_at hl 3 rfl) ?_
    refine lv_iload_n hx hb dX5_broken_64 rfl (lv_at hl 1 rfl) ?_
    refine lv_icmp_gt (tgt := 92) hx hb dX5_broken_65 (by decide) (fun hc => ?_) (fun hc => ?_)
    · replace hq := hq.1 hc
      exact hK S  _ _ _ hq hw (lv_sub hl [] rfl)
    · replace hq := hq.2 hc
      refine lv_aload_n hx hb dX5_broken_68 rfl (lv_at hl 0 rfl) ?_
      refine w_get C hw uw_X5 0 cO_X5 rfl 3 (by decide) fl_X5_35 rfl dX5_broken_69 ?_
      refine lv_iload hx hb dX5_broken_72 (lv_at hl 3 rfl) ?_
      refine w_calll hw (w_runV (rest := []) C hw (mX1_onDay l D ad cI cL S x6 _ hq _) kc_X1_onDay ml_X5_124 4 cO_X1 rfl rfl ⟨rfl, rfl, Nat.le_of_ble_eq_true rfl, Nat.le_of_ble_eq_true rfl⟩ rfl rfl (Nat.le_of_ble_eq_true rfl) hl.1 dX5_broken_74) ?_
      clear hw hq
      intro r_2 S_1 H locs hq hw
      refine lv_lload hx hb dX5_broken_77 (lv_at hl 2 rfl) ?_
      refine W.lcmp hx hb dX5_broken_79 ?_
      refine lv_if_le (tgt := 86) hx hb dX5_broken_80 (by decide) (fun hc => ?_) (fun hc => ?_)
      · replace hq := hq.1 hc
        refine lv_iinc (v := x6 + 1) (lv' := [(6, .int (x6 + 1)), (0, .ref (ad 0)), (3, .int x3), (4, .long x4)]) hx hb dX5_broken_86 hl (k := 3) rfl rfl (by decide) rfl (fun ls hl => ?_)
        refine lv_goto (tgt := 62) hx hb dX5_broken_89 (by decide) ?_
        exact ih S_1 (x6 + 1) hq _ _ _ hw (lv_sub hl [1, 2, 3, 0] rfl)
      · replace hq := hq.2 hc
        refine lv_iload hx hb dX5_broken_83 (lv_at hl 3 rfl) ?_
        exact w_iret C hw hq dX5_broken_85
set_option maxHeartbeats 4000000 in
set_option maxRecDepth 100000 in
theorem mX5_broken (l : Launch) (D : va_G) (ad : Nat → Nat) (cI cL : ClassId) (S : MS) (x1 : Int32) (x2 : Int32) (x3 : Int32) (x4 : Int64) (Q : Int32 → MS → Prop) (hq : wX5_broken S x1 x2 x3 x4 Q) : Mi l yX5_broken cX5_broken 7 (some .int) { frames := 5, cells := 0, slots := 0, locals := 103 } D (ctys cI cL) (cw ad cI cL) [.ref (ad 0), .int x1, .int x2, .int x3, .long x4] S Q := by
  refine Mi.of (by decide +kernel) (Nat.le_of_ble_eq_true rfl) ?_
  intro p e s m args below meth c A ls C hw hl
  have hx := C.1
  have hb := C.2.1
  have hl : lv_has ls 7 [(0, .ref (ad 0)), (1, .int x1), (2, .int x2), (3, .int x3), (4, .long x4)] := hl
  have hw : WW D (ctys cI cL) (cw ad cI cL S) A s s.heap [] := hw
  unfold wX5_broken at hq
  refine lv_aload_n hx hb dX5_broken_0 rfl (lv_at hl 0 rfl) ?_
  refine w_get C hw uw_X5 0 cO_X5 rfl 2 (by decide) fl_X5_26 rfl dX5_broken_1 ?_
  refine lv_iload_n hx hb dX5_broken_4 rfl (lv_at hl 1 rfl) ?_
  refine w_calli hw (w_runV (rest := []) C hw (mX4_has l D ad cI cL S x1 _ hq _) kc_X4_has ml_X5_103 3 cO_X4 rfl rfl ⟨rfl, rfl, Nat.le_of_ble_eq_true rfl, Nat.le_of_ble_eq_true rfl⟩ rfl rfl (Nat.le_of_ble_eq_true rfl) hl.1 dX5_broken_5) ?_
  clear hw hq
  intro r_2 S_1 H locs hq hw
  refine lv_if_eq (tgt := 35) hx hb dX5_broken_8 (by decide) (fun hc => ?_) (fun hc => ?_)
  · replace hq := hq.1 hc
    refine lv_iconst (v := (-1)) hx hb dX5_broken_35 (by decide) ?_
    exact w_iret C hw hq dX5_broken_36
  · replace hq := hq.2 hc
    refine lv_iload_n hx hb dX5_broken_11 rfl (lv_at hl 2 rfl) ?_
    refine lv_iload_n hx hb dX5_broken_12 rfl (lv_at hl 3 rfl) ?_
    refine w_calli hw (w_runS (rest := []) C hw (mX5_areSummedDays l D ad cI cL S_1 x2 x3 _ hq _) kc_X5_areSummedDays ml_X5_128 ⟨rfl, rfl, Nat.le_of_ble_eq_true rfl, Nat.le_of_ble_eq_true rfl⟩ rfl rfl (Nat.le_of_ble_eq_true rfl) hl.1 dX5_broken_13) ?_
    clear hw hq
    intro r_4 S_3 H locs hq hw
    refine lv_if_eq (tgt := 35) hx hb dX5_broken_16 (by decide) (fun hc => ?_) (fun hc => ?_)
    · replace hq := hq.1 hc
      refine lv_iconst (v := (-1)) hx hb dX5_broken_35 (by decide) ?_
      exact w_iret C hw hq dX5_broken_36
    · replace hq := hq.2 hc
      refine lv_lload hx hb dX5_broken_19 (lv_at hl 4 rfl) ?_
      refine lv_lconst (v := 0) hx hb dX5_broken_21 (by decide) ?_
      refine W.lcmp hx hb dX5_broken_22 ?_
      refine lv_if_lt (tgt := 35) hx hb dX5_broken_23 (by decide) (fun hc => ?_) (fun hc => ?_)
      · replace hq := hq.1 hc
        refine lv_iconst (v := (-1)) hx hb dX5_broken_35 (by decide) ?_
        exact w_iret C hw hq dX5_broken_36
      · replace hq := hq.2 hc
        refine lv_lload hx hb dX5_broken_26 (lv_at hl 4 rfl) ?_
        refine lv_ldc2 hx hb C.2.2.2.2.1 (C.w kk_X5_131 rfl) dX5_broken_28 ?_
        refine W.lcmp hx hb dX5_broken_31 ?_
        refine lv_if_le (tgt := 37) hx hb dX5_broken_32 (by decide) (fun hc => ?_) (fun hc => ?_)
        · replace hq := hq.1 hc
          refine lv_aload_n hx hb dX5_broken_37 rfl (lv_at hl 0 rfl) ?_
          refine w_get C hw uw_X5 0 cO_X5 rfl 3 (by decide) fl_X5_35 rfl dX5_broken_38 ?_
          refine lv_iload_n hx hb dX5_broken_41 rfl (lv_at hl 1 rfl) ?_
          refine w_calli hw (w_runV (rest := []) C hw (mX1_hasTooManyEvents l D ad cI cL S_3 x1 _ hq _) kc_X1_hasTooManyEvents ml_X5_115 4 cO_X1 rfl rfl ⟨rfl, rfl, Nat.le_of_ble_eq_true rfl, Nat.le_of_ble_eq_true rfl⟩ rfl rfl (Nat.le_of_ble_eq_true rfl) hl.1 dX5_broken_42) ?_
          clear hw hq
          intro r_6 S_5 H locs hq hw
          refine lv_if_eq (tgt := 51) hx hb dX5_broken_45 (by decide) (fun hc => ?_) (fun hc => ?_)
          · replace hq := hq.1 hc
            refine lv_aload_n hx hb dX5_broken_51 rfl (lv_at hl 0 rfl) ?_
            refine w_get C hw uw_X5 0 cO_X5 rfl 3 (by decide) fl_X5_35 rfl dX5_broken_52 ?_
            refine lv_iload_n hx hb dX5_broken_55 rfl (lv_at hl 1 rfl) ?_
            refine w_callv hw (w_runV (rest := []) C hw (mX1_startFailing l D ad cI cL S_5 x1 _ hq _) kc_X1_startFailing ml_X5_120 4 cO_X1 rfl rfl ⟨rfl, rfl, Nat.le_of_ble_eq_true rfl, Nat.le_of_ble_eq_true rfl⟩ rfl rfl (Nat.le_of_ble_eq_true rfl) hl.1 dX5_broken_56) ?_
            clear hw hq
            intro S_7 H locs hq hw
            refine lv_iload_n hx hb dX5_broken_59 rfl (lv_at hl 2 rfl) ?_
            refine lv_istore (lv' := [(6, .int x2), (0, .ref (ad 0)), (1, .int x1), (2, .int x2), (3, .int x3), (4, .long x4)]) hx hb dX5_broken_60 hl (by decide) rfl (fun ls hl => ?_)
            obtain ⟨n0, hq⟩ := hq
            refine kLX5_broken_62 C x3 x4 _ Q ?_ n0 S_7 x2 hq _ _ _ hw (lv_sub hl [1, 4, 5, 0] rfl)
            clear hw hl hq
            intro S_9 H locs ls hq hw hl
            refine lv_bipush (v := (-4)) hx hb dX5_broken_92 (by decide) ?_
            exact w_iret C hw hq dX5_broken_94
          · replace hq := hq.2 hc
            refine lv_bipush (v := (-2)) hx hb dX5_broken_48 (by decide) ?_
            exact w_iret C hw hq dX5_broken_50
        · replace hq := hq.2 hc
          refine lv_iconst (v := (-1)) hx hb dX5_broken_35 (by decide) ?_
          exact w_iret C hw hq dX5_broken_36
set_option maxHeartbeats 4000000 in
set_option maxRecDepth 100000 in
theorem mX5_nothing (l : Launch) (D : va_G) (ad : Nat → Nat) (cI cL : ClassId) (S : MS) (x1 : Int32) (Q : Int64 → MS → Prop) (hq : wX5_nothing S x1 Q) : Ml l yX5_nothing cX5_nothing 2 (some .long) { frames := 3, cells := 0, slots := 0, locals := 66 } D (ctys cI cL) (cw ad cI cL) [.ref (ad 0), .int x1] S Q := by
  refine Ml.of (by decide +kernel) (Nat.le_of_ble_eq_true rfl) ?_
  intro p e s m args below meth c A ls C hw hl
  have hx := C.1
  have hb := C.2.1
  have hl : lv_has ls 2 [(0, .ref (ad 0)), (1, .int x1)] := hl
  have hw : WW D (ctys cI cL) (cw ad cI cL S) A s s.heap [] := hw
  unfold wX5_nothing at hq
  refine lv_aload_n hx hb dX5_nothing_0 rfl (lv_at hl 0 rfl) ?_
  refine w_get C hw uw_X5 0 cO_X5 rfl 2 (by decide) fl_X5_26 rfl dX5_nothing_1 ?_
  refine lv_iload_n hx hb dX5_nothing_4 rfl (lv_at hl 1 rfl) ?_
  refine w_calli hw (w_runV (rest := []) C hw (mX4_has l D ad cI cL S x1 _ hq _) kc_X4_has ml_X5_103 3 cO_X4 rfl rfl ⟨rfl, rfl, Nat.le_of_ble_eq_true rfl, Nat.le_of_ble_eq_true rfl⟩ rfl rfl (Nat.le_of_ble_eq_true rfl) hl.1 dX5_nothing_5) ?_
  clear hw hq
  intro r_2 S_1 H locs hq hw
  refine lv_if_ne (tgt := 15) hx hb dX5_nothing_8 (by decide) (fun hc => ?_) (fun hc => ?_)
  · replace hq := hq.2 hc
    refine lv_aload_n hx hb dX5_nothing_15 rfl (lv_at hl 0 rfl) ?_
    refine w_get C hw uw_X5 0 cO_X5 rfl 2 (by decide) fl_X5_26 rfl dX5_nothing_16 ?_
    refine lv_iload_n hx hb dX5_nothing_19 rfl (lv_at hl 1 rfl) ?_
    refine w_calli hw (w_runV (rest := []) C hw (mX4_sizeBelow l D ad cI cL S_1 x1 _ hq _) kc_X4_sizeBelow ml_X5_133 3 cO_X4 rfl rfl ⟨rfl, rfl, Nat.le_of_ble_eq_true rfl, Nat.le_of_ble_eq_true rfl⟩ rfl rfl (Nat.le_of_ble_eq_true rfl) hl.1 dX5_nothing_20) ?_
    clear hw hq
    intro r_4 S_3 H locs hq hw
    refine lv_bipush (v := 8) hx hb dX5_nothing_23 (by decide) ?_
    refine lv_icmp_le (tgt := 32) hx hb dX5_nothing_25 (by decide) (fun hc => ?_) (fun hc => ?_)
    · replace hq := hq.1 hc
      refine lv_aload_n hx hb dX5_nothing_32 rfl (lv_at hl 0 rfl) ?_
      refine w_get C hw uw_X5 0 cO_X5 rfl 3 (by decide) fl_X5_35 rfl dX5_nothing_33 ?_
      refine lv_iload_n hx hb dX5_nothing_36 rfl (lv_at hl 1 rfl) ?_
      refine w_calll hw (w_runV (rest := []) C hw (mX1_forNothing l D ad cI cL S_3 x1 _ hq _) kc_X1_forNothing ml_X5_136 4 cO_X1 rfl rfl ⟨rfl, rfl, Nat.le_of_ble_eq_true rfl, Nat.le_of_ble_eq_true rfl⟩ rfl rfl (Nat.le_of_ble_eq_true rfl) hl.1 dX5_nothing_37) ?_
      clear hw hq
      intro r_6 S_5 H locs hq hw
      exact w_lret C hw hq dX5_nothing_40
    · replace hq := hq.2 hc
      refine lv_ldc2 hx hb C.2.2.2.2.1 (C.w kk_X5_118 rfl) dX5_nothing_28 ?_
      exact w_lret C hw hq dX5_nothing_31
  · replace hq := hq.1 hc
    refine lv_ldc2 hx hb C.2.2.2.2.1 (C.w kk_X5_113 rfl) dX5_nothing_11 ?_
    exact w_lret C hw hq dX5_nothing_14
set_option maxHeartbeats 4000000 in
set_option maxRecDepth 100000 in
theorem mX5_matters (l : Launch) (D : va_G) (ad : Nat → Nat) (cI cL : ClassId) (S : MS) (x1 : Int32) (x2 : Int32) (x3 : Int32) (Q : Int64 → MS → Prop) (hq : wX5_matters S x1 x2 x3 Q) : Ml l yX5_matters cX5_matters 4 (some .long) { frames := 5, cells := 0, slots := 0, locals := 105 } D (ctys cI cL) (cw ad cI cL) [.ref (ad 0), .int x1, .int x2, .int x3] S Q := by
  refine Ml.of (by decide +kernel) (Nat.le_of_ble_eq_true rfl) ?_
  intro p e s m args below meth c A ls C hw hl
  have hx := C.1
  have hb := C.2.1
  have hl : lv_has ls 4 [(0, .ref (ad 0)), (1, .int x1), (2, .int x2), (3, .int x3)] := hl
  have hw : WW D (ctys cI cL) (cw ad cI cL S) A s s.heap [] := hw
  unfold wX5_matters at hq
  refine lv_aload_n hx hb dX5_matters_0 rfl (lv_at hl 0 rfl) ?_
  refine w_get C hw uw_X5 0 cO_X5 rfl 2 (by decide) fl_X5_26 rfl dX5_matters_1 ?_
  refine lv_iload_n hx hb dX5_matters_4 rfl (lv_at hl 1 rfl) ?_
  refine w_calli hw (w_runV (rest := []) C hw (mX4_has l D ad cI cL S x1 _ hq _) kc_X4_has ml_X5_103 3 cO_X4 rfl rfl ⟨rfl, rfl, Nat.le_of_ble_eq_true rfl, Nat.le_of_ble_eq_true rfl⟩ rfl rfl (Nat.le_of_ble_eq_true rfl) hl.1 dX5_matters_5) ?_
  clear hw hq
  intro r_2 S_1 H locs hq hw
  refine lv_if_eq (tgt := 29) hx hb dX5_matters_8 (by decide) (fun hc => ?_) (fun hc => ?_)
  · replace hq := hq.1 hc
    refine lv_ldc2 hx hb C.2.2.2.2.1 (C.w kk_X5_113 rfl) dX5_matters_29 ?_
    exact w_lret C hw hq dX5_matters_32
  · replace hq := hq.2 hc
    refine lv_aload_n hx hb dX5_matters_11 rfl (lv_at hl 0 rfl) ?_
    refine w_get C hw uw_X5 0 cO_X5 rfl 0 (by decide) fl_X5_10 rfl dX5_matters_12 ?_
    refine lv_iload_n hx hb dX5_matters_15 rfl (lv_at hl 2 rfl) ?_
    refine w_calli hw (w_runV (rest := []) C hw (mX2_has l D ad cI cL S_1 x2 _ hq _) kc_X2_has ml_X5_60 1 cO_X2 rfl rfl ⟨rfl, rfl, Nat.le_of_ble_eq_true rfl, Nat.le_of_ble_eq_true rfl⟩ rfl rfl (Nat.le_of_ble_eq_true rfl) hl.1 dX5_matters_16) ?_
    clear hw hq
    intro r_4 S_3 H locs hq hw
    refine lv_if_eq (tgt := 29) hx hb dX5_matters_19 (by decide) (fun hc => ?_) (fun hc => ?_)
    · replace hq := hq.1 hc
      refine lv_ldc2 hx hb C.2.2.2.2.1 (C.w kk_X5_113 rfl) dX5_matters_29 ?_
      exact w_lret C hw hq dX5_matters_32
    · replace hq := hq.2 hc
      refine lv_iload_n hx hb dX5_matters_22 rfl (lv_at hl 3 rfl) ?_
      refine w_calli hw (w_runS (rest := []) C hw (mX5_isDay l D ad cI cL S_3 x3 _ hq _) kc_X5_isDay ml_X5_63 ⟨rfl, rfl, Nat.le_of_ble_eq_true rfl, Nat.le_of_ble_eq_true rfl⟩ rfl rfl (Nat.le_of_ble_eq_true rfl) hl.1 dX5_matters_23) ?_
      clear hw hq
      intro r_6 S_5 H locs hq hw
      refine lv_if_ne (tgt := 33) hx hb dX5_matters_26 (by decide) (fun hc => ?_) (fun hc => ?_)
      · replace hq := hq.2 hc
        refine lv_aload_n hx hb dX5_matters_33 rfl (lv_at hl 0 rfl) ?_
        refine w_get C hw uw_X5 0 cO_X5 rfl 3 (by decide) fl_X5_35 rfl dX5_matters_34 ?_
        refine lv_iload_n hx hb dX5_matters_37 rfl (lv_at hl 1 rfl) ?_
        refine w_calli hw (w_runV (rest := []) C hw (mX1_hasTooManyEvents l D ad cI cL S_5 x1 _ hq _) kc_X1_hasTooManyEvents ml_X5_115 4 cO_X1 rfl rfl ⟨rfl, rfl, Nat.le_of_ble_eq_true rfl, Nat.le_of_ble_eq_true rfl⟩ rfl rfl (Nat.le_of_ble_eq_true rfl) hl.1 dX5_matters_38) ?_
        clear hw hq
        intro r_8 S_7 H locs hq hw
        refine lv_if_eq (tgt := 48) hx hb dX5_matters_41 (by decide) (fun hc => ?_) (fun hc => ?_)
        · replace hq := hq.1 hc
          refine lv_aload_n hx hb dX5_matters_48 rfl (lv_at hl 0 rfl) ?_
          refine w_get C hw uw_X5 0 cO_X5 rfl 3 (by decide) fl_X5_35 rfl dX5_matters_49 ?_
          refine lv_iload_n hx hb dX5_matters_52 rfl (lv_at hl 1 rfl) ?_
          refine w_callv hw (w_runV (rest := []) C hw (mX1_startFailing l D ad cI cL S_7 x1 _ hq _) kc_X1_startFailing ml_X5_120 4 cO_X1 rfl rfl ⟨rfl, rfl, Nat.le_of_ble_eq_true rfl, Nat.le_of_ble_eq_true rfl⟩ rfl rfl (Nat.le_of_ble_eq_true rfl) hl.1 dX5_matters_53) ?_
          clear hw hq
          intro S_9 H locs hq hw
          refine lv_aload_n hx hb dX5_matters_56 rfl (lv_at hl 0 rfl) ?_
          refine w_get C hw uw_X5 0 cO_X5 rfl 3 (by decide) fl_X5_35 rfl dX5_matters_57 ?_
          refine lv_iload_n hx hb dX5_matters_60 rfl (lv_at hl 2 rfl) ?_
          refine lv_iload_n hx hb dX5_matters_61 rfl (lv_at hl 3 rfl) ?_
          refine w_calll hw (w_runV (rest := []) C hw (mX1_weightOf l D ad cI cL S_9 x2 x3 _ hq _) kc_X1_weightOf ml_X5_139 4 cO_X1 rfl rfl ⟨rfl, rfl, Nat.le_of_ble_eq_true rfl, Nat.le_of_ble_eq_true rfl⟩ rfl rfl (Nat.le_of_ble_eq_true rfl) hl.1 dX5_matters_62) ?_
          clear hw hq
          intro r_12 S_11 H locs hq hw
          exact w_lret C hw hq dX5_matters_65
        · replace hq := hq.2 hc
          refine lv_ldc2 hx hb C.2.2.2.2.1 (C.w kk_X5_118 rfl) dX5_matters_44 ?_
          exact w_lret C hw hq dX5_matters_47
      · replace hq := hq.1 hc
        refine lv_ldc2 hx hb C.2.2.2.2.1 (C.w kk_X5_113 rfl) dX5_matters_29 ?_
        exact w_lret C hw hq dX5_matters_32
set_option maxHeartbeats 4000000 in
set_option maxRecDepth 100000 in
theorem mX5_most (l : Launch) (D : va_G) (ad : Nat → Nat) (cI cL : ClassId) (S : MS) (x1 : Int32) (x2 : Int32) (Q : Int32 → MS → Prop) (hq : wX5_most S x1 x2 Q) : Mi l yX5_most cX5_most 3 (some .int) { frames := 5, cells := 0, slots := 0, locals := 109 } D (ctys cI cL) (cw ad cI cL) [.ref (ad 0), .int x1, .int x2] S Q := by
  refine Mi.of (by decide +kernel) (Nat.le_of_ble_eq_true rfl) ?_
  intro p e s m args below meth c A ls C hw hl
  have hx := C.1
  have hb := C.2.1
  have hl : lv_has ls 3 [(0, .ref (ad 0)), (1, .int x1), (2, .int x2)] := hl
  have hw : WW D (ctys cI cL) (cw ad cI cL S) A s s.heap [] := hw
  unfold wX5_most at hq
  refine lv_aload_n hx hb dX5_most_0 rfl (lv_at hl 0 rfl) ?_
  refine w_get C hw uw_X5 0 cO_X5 rfl 2 (by decide) fl_X5_26 rfl dX5_most_1 ?_
  refine lv_iload_n hx hb dX5_most_4 rfl (lv_at hl 1 rfl) ?_
  refine w_calli hw (w_runV (rest := []) C hw (mX4_has l D ad cI cL S x1 _ hq _) kc_X4_has ml_X5_103 3 cO_X4 rfl rfl ⟨rfl, rfl, Nat.le_of_ble_eq_true rfl, Nat.le_of_ble_eq_true rfl⟩ rfl rfl (Nat.le_of_ble_eq_true rfl) hl.1 dX5_most_5) ?_
  clear hw hq
  intro r_2 S_1 H locs hq hw
  refine lv_if_eq (tgt := 18) hx hb dX5_most_8 (by decide) (fun hc => ?_) (fun hc => ?_)
  · replace hq := hq.1 hc
    refine lv_iconst (v := (-1)) hx hb dX5_most_18 (by decide) ?_
    exact w_iret C hw hq dX5_most_19
  · replace hq := hq.2 hc
    refine lv_iload_n hx hb dX5_most_11 rfl (lv_at hl 2 rfl) ?_
    refine w_calli hw (w_runS (rest := []) C hw (mX5_isDay l D ad cI cL S_1 x2 _ hq _) kc_X5_isDay ml_X5_63 ⟨rfl, rfl, Nat.le_of_ble_eq_true rfl, Nat.le_of_ble_eq_true rfl⟩ rfl rfl (Nat.le_of_ble_eq_true rfl) hl.1 dX5_most_12) ?_
    clear hw hq
    intro r_4 S_3 H locs hq hw
    refine lv_if_ne (tgt := 20) hx hb dX5_most_15 (by decide) (fun hc => ?_) (fun hc => ?_)
    · replace hq := hq.2 hc
      refine lv_aload_n hx hb dX5_most_20 rfl (lv_at hl 0 rfl) ?_
      refine w_get C hw uw_X5 0 cO_X5 rfl 3 (by decide) fl_X5_35 rfl dX5_most_21 ?_
      refine lv_iload_n hx hb dX5_most_24 rfl (lv_at hl 1 rfl) ?_
      refine w_calli hw (w_runV (rest := []) C hw (mX1_hasTooManyEvents l D ad cI cL S_3 x1 _ hq _) kc_X1_hasTooManyEvents ml_X5_115 4 cO_X1 rfl rfl ⟨rfl, rfl, Nat.le_of_ble_eq_true rfl, Nat.le_of_ble_eq_true rfl⟩ rfl rfl (Nat.le_of_ble_eq_true rfl) hl.1 dX5_most_25) ?_
      clear hw hq
      intro r_6 S_5 H locs hq hw
      refine lv_if_eq (tgt := 34) hx hb dX5_most_28 (by decide) (fun hc => ?_) (fun hc => ?_)
      · replace hq := hq.1 hc
        refine lv_aload_n hx hb dX5_most_34 rfl (lv_at hl 0 rfl) ?_
        refine w_get C hw uw_X5 0 cO_X5 rfl 3 (by decide) fl_X5_35 rfl dX5_most_35 ?_
        refine lv_iload_n hx hb dX5_most_38 rfl (lv_at hl 1 rfl) ?_
        refine w_callv hw (w_runV (rest := []) C hw (mX1_startFailing l D ad cI cL S_5 x1 _ hq _) kc_X1_startFailing ml_X5_120 4 cO_X1 rfl rfl ⟨rfl, rfl, Nat.le_of_ble_eq_true rfl, Nat.le_of_ble_eq_true rfl⟩ rfl rfl (Nat.le_of_ble_eq_true rfl) hl.1 dX5_most_39) ?_
        clear hw hq
        intro S_7 H locs hq hw
        refine lv_aload_n hx hb dX5_most_42 rfl (lv_at hl 0 rfl) ?_
        refine w_get C hw uw_X5 0 cO_X5 rfl 3 (by decide) fl_X5_35 rfl dX5_most_43 ?_
        refine lv_iload_n hx hb dX5_most_46 rfl (lv_at hl 2 rfl) ?_
        refine w_calli hw (w_runV (rest := []) C hw (mX1_weightiestPart l D ad cI cL S_7 x2 _ hq _) kc_X1_weightiestPart ml_X5_143 4 cO_X1 rfl rfl ⟨rfl, rfl, Nat.le_of_ble_eq_true rfl, Nat.le_of_ble_eq_true rfl⟩ rfl rfl (Nat.le_of_ble_eq_true rfl) hl.1 dX5_most_47) ?_
        clear hw hq
        intro r_10 S_9 H locs hq hw
        exact w_iret C hw hq dX5_most_50
      · replace hq := hq.2 hc
        refine lv_bipush (v := (-2)) hx hb dX5_most_31 (by decide) ?_
        exact w_iret C hw hq dX5_most_33
    · replace hq := hq.1 hc
      refine lv_iconst (v := (-1)) hx hb dX5_most_18 (by decide) ?_
      exact w_iret C hw hq dX5_most_19
set_option maxHeartbeats 4000000 in
set_option maxRecDepth 100000 in
theorem mX5_cost (l : Launch) (D : va_G) (ad : Nat → Nat) (cI cL : ClassId) (S : MS) (x1 : Int32) (x2 : Int32) (Q : Int32 → MS → Prop) (hq : wX5_cost S x1 x2 Q) : Mi l yX5_cost cX5_cost 3 (some .int) { frames := 1, cells := 0, slots := 0, locals := 23 } D (ctys cI cL) (cw ad cI cL) [.ref (ad 0), .int x1, .int x2] S Q := by
  refine Mi.of (by decide +kernel) (Nat.le_of_ble_eq_true rfl) ?_
  intro p e s m args below meth c A ls C hw hl
  have hx := C.1
  have hb := C.2.1
  have hl : lv_has ls 3 [(0, .ref (ad 0)), (1, .int x1), (2, .int x2)] := hl
  have hw : WW D (ctys cI cL) (cw ad cI cL S) A s s.heap [] := hw
  unfold wX5_cost at hq
  refine lv_aload_n hx hb dX5_cost_0 rfl (lv_at hl 0 rfl) ?_
  refine w_get C hw uw_X5 0 cO_X5 rfl 0 (by decide) fl_X5_10 rfl dX5_cost_1 ?_
  refine lv_iload_n hx hb dX5_cost_4 rfl (lv_at hl 1 rfl) ?_
  refine w_calli hw (w_runV (rest := []) C hw (mX2_has l D ad cI cL S x1 _ hq _) kc_X2_has ml_X5_60 1 cO_X2 rfl rfl ⟨rfl, rfl, Nat.le_of_ble_eq_true rfl, Nat.le_of_ble_eq_true rfl⟩ rfl rfl (Nat.le_of_ble_eq_true rfl) hl.1 dX5_cost_5) ?_
  clear hw hq
  intro r_2 S_1 H locs hq hw
  refine lv_if_eq (tgt := 22) hx hb dX5_cost_8 (by decide) (fun hc => ?_) (fun hc => ?_)
  · replace hq := hq.1 hc
    refine lv_iconst (v := (-1)) hx hb dX5_cost_22 (by decide) ?_
    exact w_iret C hw hq dX5_cost_23
  · replace hq := hq.2 hc
    refine lv_iload_n hx hb dX5_cost_11 rfl (lv_at hl 2 rfl) ?_
    refine lv_if_lt (tgt := 22) hx hb dX5_cost_12 (by decide) (fun hc => ?_) (fun hc => ?_)
    · replace hq := hq.1 hc
      refine lv_iconst (v := (-1)) hx hb dX5_cost_22 (by decide) ?_
      exact w_iret C hw hq dX5_cost_23
    · replace hq := hq.2 hc
      refine lv_iload_n hx hb dX5_cost_15 rfl (lv_at hl 2 rfl) ?_
      refine lv_sipush (v := 1000) hx hb dX5_cost_16 (by decide) ?_
      refine lv_icmp_le (tgt := 24) hx hb dX5_cost_19 (by decide) (fun hc => ?_) (fun hc => ?_)
      · replace hq := hq.1 hc
        refine lv_aload_n hx hb dX5_cost_24 rfl (lv_at hl 0 rfl) ?_
        refine w_get C hw uw_X5 0 cO_X5 rfl 0 (by decide) fl_X5_10 rfl dX5_cost_25 ?_
        refine lv_iload_n hx hb dX5_cost_28 rfl (lv_at hl 1 rfl) ?_
        refine lv_iload_n hx hb dX5_cost_29 rfl (lv_at hl 2 rfl) ?_
        refine w_calli hw (w_runV (rest := []) C hw (mX2_changeCost l D ad cI cL S_1 x1 x2 _ hq _) kc_X2_changeCost ml_X5_146 1 cO_X2 rfl rfl ⟨rfl, rfl, Nat.le_of_ble_eq_true rfl, Nat.le_of_ble_eq_true rfl⟩ rfl rfl (Nat.le_of_ble_eq_true rfl) hl.1 dX5_cost_30) ?_
        clear hw hq
        intro r_4 S_3 H locs hq hw
        exact w_iret C hw hq dX5_cost_33
      · replace hq := hq.2 hc
        refine lv_iconst (v := (-1)) hx hb dX5_cost_22 (by decide) ?_
        exact w_iret C hw hq dX5_cost_23
set_option maxHeartbeats 4000000 in
set_option maxRecDepth 100000 in
theorem mX5_isInterval (l : Launch) (D : va_G) (ad : Nat → Nat) (cI cL : ClassId) (S : MS) (x0 : Int32) (Q : Int32 → MS → Prop) (hq : wX5_isInterval S x0 Q) : Mi l yX5_isInterval cX5_isInterval 1 (some .boolean) { frames := 0, cells := 0, slots := 0, locals := 0 } D (ctys cI cL) (cw ad cI cL) [.int x0] S Q := by
  refine Mi.of (by decide +kernel) (Nat.le_of_ble_eq_true rfl) ?_
  intro p e s m args below meth c A ls C hw hl
  have hx := C.1
  have hb := C.2.1
  have hl : lv_has ls 1 [(0, .int x0)] := hl
  have hw : WW D (ctys cI cL) (cw ad cI cL S) A s s.heap [] := hw
  unfold wX5_isInterval at hq
  refine lv_iload_n hx hb dX5_isInterval_0 rfl (lv_at hl 0 rfl) ?_
  refine lv_iconst (v := 1) hx hb dX5_isInterval_1 (by decide) ?_
  refine lv_icmp_lt (tgt := 15) hx hb dX5_isInterval_2 (by decide) (fun hc => ?_) (fun hc => ?_)
  · replace hq := hq.1 hc
    refine lv_iconst (v := 0) hx hb dX5_isInterval_15 (by decide) ?_
    exact w_zret C hw rfl hq dX5_isInterval_16
  · replace hq := hq.2 hc
    refine lv_iload_n hx hb dX5_isInterval_5 rfl (lv_at hl 0 rfl) ?_
    refine lv_bipush (v := 100) hx hb dX5_isInterval_6 (by decide) ?_
    refine lv_icmp_gt (tgt := 15) hx hb dX5_isInterval_8 (by decide) (fun hc => ?_) (fun hc => ?_)
    · replace hq := hq.1 hc
      refine lv_iconst (v := 0) hx hb dX5_isInterval_15 (by decide) ?_
      exact w_zret C hw rfl hq dX5_isInterval_16
    · replace hq := hq.2 hc
      refine lv_iconst (v := 1) hx hb dX5_isInterval_11 (by decide) ?_
      refine lv_goto (tgt := 16) hx hb dX5_isInterval_12 (by decide) ?_
      exact w_zret C hw rfl hq dX5_isInterval_16
set_option maxHeartbeats 4000000 in
set_option maxRecDepth 100000 in
theorem mX5_plan (l : Launch) (D : va_G) (ad : Nat → Nat) (cI cL : ClassId) (S : MS) (x1 : Int32) (x2 : Int32) (x3 : Int32) (x4 : Int32) (x5 : Int64) (x7 : Int32) (Q : Int32 → MS → Prop) (hq : wX5_plan S x1 x2 x3 x4 x5 x7 Q) : Mi l yX5_plan cX5_plan 8 (some .int) { frames := 4, cells := 0, slots := 0, locals := 97 } D (ctys cI cL) (cw ad cI cL) [.ref (ad 0), .int x1, .int x2, .int x3, .int x4, .long x5, .int x7] S Q := by
  refine Mi.of (by decide +kernel) (Nat.le_of_ble_eq_true rfl) ?_
  intro p e s m args below meth c A ls C hw hl
  have hx := C.1
  have hb := C.2.1
  have hl : lv_has ls 8 [(0, .ref (ad 0)), (1, .int x1), (2, .int x2), (3, .int x3), (4, .int x4), (5, .long x5), (7, .int x7)] := hl
  have hw : WW D (ctys cI cL) (cw ad cI cL S) A s s.heap [] := hw
  unfold wX5_plan at hq
  refine lv_aload_n hx hb dX5_plan_0 rfl (lv_at hl 0 rfl) ?_
  refine w_get C hw uw_X5 0 cO_X5 rfl 2 (by decide) fl_X5_26 rfl dX5_plan_1 ?_
  refine lv_iload_n hx hb dX5_plan_4 rfl (lv_at hl 1 rfl) ?_
  refine w_calli hw (w_runV (rest := []) C hw (mX4_has l D ad cI cL S x1 _ hq _) kc_X4_has ml_X5_103 3 cO_X4 rfl rfl ⟨rfl, rfl, Nat.le_of_ble_eq_true rfl, Nat.le_of_ble_eq_true rfl⟩ rfl rfl (Nat.le_of_ble_eq_true rfl) hl.1 dX5_plan_5) ?_
  clear hw hq
  intro r_2 S_1 H locs hq hw
  refine lv_if_eq (tgt := 33) hx hb dX5_plan_8 (by decide) (fun hc => ?_) (fun hc => ?_)
  · replace hq := hq.1 hc
    refine lv_iconst (v := (-1)) hx hb dX5_plan_33 (by decide) ?_
    exact w_iret C hw hq dX5_plan_34
  · replace hq := hq.2 hc
    refine lv_iload_n hx hb dX5_plan_11 rfl (lv_at hl 2 rfl) ?_
    refine w_calli hw (w_runS (rest := []) C hw (mX5_isInterval l D ad cI cL S_1 x2 _ hq _) kc_X5_isInterval ml_X5_149 ⟨rfl, rfl, Nat.le_of_ble_eq_true rfl, Nat.le_of_ble_eq_true rfl⟩ rfl rfl (Nat.le_of_ble_eq_true rfl) hl.1 dX5_plan_12) ?_
    clear hw hq
    intro r_4 S_3 H locs hq hw
    refine lv_if_eq (tgt := 33) hx hb dX5_plan_15 (by decide) (fun hc => ?_) (fun hc => ?_)
    · replace hq := hq.1 hc
      refine lv_iconst (v := (-1)) hx hb dX5_plan_33 (by decide) ?_
      exact w_iret C hw hq dX5_plan_34
    · replace hq := hq.2 hc
      refine lv_iload_n hx hb dX5_plan_18 rfl (lv_at hl 3 rfl) ?_
      refine w_calli hw (w_runS (rest := []) C hw (mX5_isInterval l D ad cI cL S_3 x3 _ hq _) kc_X5_isInterval ml_X5_149 ⟨rfl, rfl, Nat.le_of_ble_eq_true rfl, Nat.le_of_ble_eq_true rfl⟩ rfl rfl (Nat.le_of_ble_eq_true rfl) hl.1 dX5_plan_19) ?_
      clear hw hq
      intro r_6 S_5 H locs hq hw
      refine lv_if_eq (tgt := 33) hx hb dX5_plan_22 (by decide) (fun hc => ?_) (fun hc => ?_)
      · replace hq := hq.1 hc
        refine lv_iconst (v := (-1)) hx hb dX5_plan_33 (by decide) ?_
        exact w_iret C hw hq dX5_plan_34
      · replace hq := hq.2 hc
        refine lv_iload hx hb dX5_plan_25 (lv_at hl 4 rfl) ?_
        refine w_calli hw (w_runS (rest := []) C hw (mX5_isInterval l D ad cI cL S_5 x4 _ hq _) kc_X5_isInterval ml_X5_149 ⟨rfl, rfl, Nat.le_of_ble_eq_true rfl, Nat.le_of_ble_eq_true rfl⟩ rfl rfl (Nat.le_of_ble_eq_true rfl) hl.1 dX5_plan_27) ?_
        clear hw hq
        intro r_8 S_7 H locs hq hw
        refine lv_if_ne (tgt := 35) hx hb dX5_plan_30 (by decide) (fun hc => ?_) (fun hc => ?_)
        · replace hq := hq.2 hc
          refine lv_lload hx hb dX5_plan_35 (lv_at hl 5 rfl) ?_
          refine lv_lconst (v := 0) hx hb dX5_plan_37 (by decide) ?_
          refine W.lcmp hx hb dX5_plan_38 ?_
          refine lv_if_lt (tgt := 62) hx hb dX5_plan_39 (by decide) (fun hc => ?_) (fun hc => ?_)
          · replace hq := hq.1 hc
            refine lv_iconst (v := (-1)) hx hb dX5_plan_62 (by decide) ?_
            exact w_iret C hw hq dX5_plan_63
          · replace hq := hq.2 hc
            refine lv_lload hx hb dX5_plan_42 (lv_at hl 5 rfl) ?_
            refine lv_ldc2 hx hb C.2.2.2.2.1 (C.w kk_X5_152 rfl) dX5_plan_44 ?_
            refine W.lcmp hx hb dX5_plan_47 ?_
            refine lv_if_gt (tgt := 62) hx hb dX5_plan_48 (by decide) (fun hc => ?_) (fun hc => ?_)
            · replace hq := hq.1 hc
              refine lv_iconst (v := (-1)) hx hb dX5_plan_62 (by decide) ?_
              exact w_iret C hw hq dX5_plan_63
            · replace hq := hq.2 hc
              refine lv_iload hx hb dX5_plan_51 (lv_at hl 6 rfl) ?_
              refine lv_if_lt (tgt := 62) hx hb dX5_plan_53 (by decide) (fun hc => ?_) (fun hc => ?_)
              · replace hq := hq.1 hc
                refine lv_iconst (v := (-1)) hx hb dX5_plan_62 (by decide) ?_
                exact w_iret C hw hq dX5_plan_63
              · replace hq := hq.2 hc
                refine lv_iload hx hb dX5_plan_56 (lv_at hl 6 rfl) ?_
                refine lv_iconst (v := 1) hx hb dX5_plan_58 (by decide) ?_
                refine lv_icmp_le (tgt := 64) hx hb dX5_plan_59 (by decide) (fun hc => ?_) (fun hc => ?_)
                · replace hq := hq.1 hc
                  refine lv_aload_n hx hb dX5_plan_64 rfl (lv_at hl 0 rfl) ?_
                  refine w_get C hw uw_X5 0 cO_X5 rfl 2 (by decide) fl_X5_26 rfl dX5_plan_65 ?_
                  refine lv_iload_n hx hb dX5_plan_68 rfl (lv_at hl 1 rfl) ?_
                  refine w_calli hw (w_runV (rest := []) C hw (mX4_sizeBelow l D ad cI cL S_7 x1 _ hq _) kc_X4_sizeBelow ml_X5_133 3 cO_X4 rfl rfl ⟨rfl, rfl, Nat.le_of_ble_eq_true rfl, Nat.le_of_ble_eq_true rfl⟩ rfl rfl (Nat.le_of_ble_eq_true rfl) hl.1 dX5_plan_69) ?_
                  clear hw hq
                  intro r_10 S_9 H locs hq hw
                  refine lv_iconst (v := 3) hx hb dX5_plan_72 (by decide) ?_
                  refine lv_icmp_gt (tgt := 87) hx hb dX5_plan_73 (by decide) (fun hc => ?_) (fun hc => ?_)
                  · replace hq := hq.1 hc
                    refine lv_bipush (v := (-2)) hx hb dX5_plan_87 (by decide) ?_
                    exact w_iret C hw hq dX5_plan_89
                  · replace hq := hq.2 hc
                    refine lv_aload_n hx hb dX5_plan_76 rfl (lv_at hl 0 rfl) ?_
                    refine w_get C hw uw_X5 0 cO_X5 rfl 3 (by decide) fl_X5_35 rfl dX5_plan_77 ?_
                    refine lv_iload_n hx hb dX5_plan_80 rfl (lv_at hl 1 rfl) ?_
                    refine w_calli hw (w_runV (rest := []) C hw (mX1_hasTooManyEvents l D ad cI cL S_9 x1 _ hq _) kc_X1_hasTooManyEvents ml_X5_115 4 cO_X1 rfl rfl ⟨rfl, rfl, Nat.le_of_ble_eq_true rfl, Nat.le_of_ble_eq_true rfl⟩ rfl rfl (Nat.le_of_ble_eq_true rfl) hl.1 dX5_plan_81) ?_
                    clear hw hq
                    intro r_12 S_11 H locs hq hw
                    refine lv_if_eq (tgt := 90) hx hb dX5_plan_84 (by decide) (fun hc => ?_) (fun hc => ?_)
                    · replace hq := hq.1 hc
                      refine lv_aload_n hx hb dX5_plan_90 rfl (lv_at hl 0 rfl) ?_
                      refine w_get C hw uw_X5 0 cO_X5 rfl 4 (by decide) fl_X5_44 rfl dX5_plan_91 ?_
                      refine lv_iload_n hx hb dX5_plan_94 rfl (lv_at hl 2 rfl) ?_
                      refine lv_iload_n hx hb dX5_plan_95 rfl (lv_at hl 3 rfl) ?_
                      refine lv_iload hx hb dX5_plan_96 (lv_at hl 4 rfl) ?_
                      refine w_callv hw (w_runV (rest := []) C hw (mX3_setIntervals l D ad cI cL S_11 x2 x3 x4 _ hq _) kc_X3_setIntervals ml_X5_154 5 cO_X3 rfl rfl ⟨rfl, rfl, Nat.le_of_ble_eq_true rfl, Nat.le_of_ble_eq_true rfl⟩ rfl rfl (Nat.le_of_ble_eq_true rfl) hl.1 dX5_plan_98) ?_
                      clear hw hq
                      intro S_13 H locs hq hw
                      refine lv_aload_n hx hb dX5_plan_101 rfl (lv_at hl 0 rfl) ?_
                      refine w_get C hw uw_X5 0 cO_X5 rfl 4 (by decide) fl_X5_44 rfl dX5_plan_102 ?_
                      refine lv_iload_n hx hb dX5_plan_105 rfl (lv_at hl 1 rfl) ?_
                      refine lv_lload hx hb dX5_plan_106 (lv_at hl 5 rfl) ?_
                      refine w_calli hw (w_runV (rest := []) C hw (mX3_findCheapest l D ad cI cL S_13 x1 x5 _ hq _) kc_X3_findCheapest ml_X5_158 5 cO_X3 rfl rfl ⟨rfl, rfl, Nat.le_of_ble_eq_true rfl, Nat.le_of_ble_eq_true rfl⟩ rfl rfl (Nat.le_of_ble_eq_true rfl) hl.1 dX5_plan_108) ?_
                      clear hw hq
                      intro r_16 S_15 H locs hq hw
                      refine lv_if_ne (tgt := 117) hx hb dX5_plan_111 (by decide) (fun hc => ?_) (fun hc => ?_)
                      · replace hq := hq.2 hc
                        refine lv_iload hx hb dX5_plan_117 (lv_at hl 6 rfl) ?_
                        refine lv_if_ne (tgt := 132) hx hb dX5_plan_119 (by decide) (fun hc => ?_) (fun hc => ?_)
                        · replace hq := hq.2 hc
                          refine lv_aload_n hx hb dX5_plan_132 rfl (lv_at hl 0 rfl) ?_
                          refine w_get C hw uw_X5 0 cO_X5 rfl 4 (by decide) fl_X5_44 rfl dX5_plan_133 ?_
                          refine w_calli hw (w_runV (rest := []) C hw (mX3_cheapestChoices l D ad cI cL S_15 _ hq _) kc_X3_cheapestChoices ml_X5_166 5 cO_X3 rfl rfl ⟨rfl, rfl, Nat.le_of_ble_eq_true rfl, Nat.le_of_ble_eq_true rfl⟩ rfl rfl (Nat.le_of_ble_eq_true rfl) hl.1 dX5_plan_136) ?_
                          clear hw hq
                          intro r_18 S_17 H locs hq hw
                          exact w_iret C hw hq dX5_plan_139
                        · replace hq := hq.1 hc
                          refine lv_aload_n hx hb dX5_plan_122 rfl (lv_at hl 0 rfl) ?_
                          refine w_get C hw uw_X5 0 cO_X5 rfl 4 (by decide) fl_X5_44 rfl dX5_plan_123 ?_
                          refine w_calli hw (w_runV (rest := []) C hw (mX3_cheapestCost l D ad cI cL S_15 _ hq _) kc_X3_cheapestCost ml_X5_162 5 cO_X3 rfl rfl ⟨rfl, rfl, Nat.le_of_ble_eq_true rfl, Nat.le_of_ble_eq_true rfl⟩ rfl rfl (Nat.le_of_ble_eq_true rfl) hl.1 dX5_plan_126) ?_
                          clear hw hq
                          intro r_20 S_19 H locs hq hw
                          refine lv_goto (tgt := 139) hx hb dX5_plan_129 (by decide) ?_
                          exact w_iret C hw hq dX5_plan_139
                      · replace hq := hq.1 hc
                        refine lv_bipush (v := (-4)) hx hb dX5_plan_114 (by decide) ?_
                        exact w_iret C hw hq dX5_plan_116
                    · replace hq := hq.2 hc
                      refine lv_bipush (v := (-2)) hx hb dX5_plan_87 (by decide) ?_
                      exact w_iret C hw hq dX5_plan_89
                · replace hq := hq.2 hc
                  refine lv_iconst (v := (-1)) hx hb dX5_plan_62 (by decide) ?_
                  exact w_iret C hw hq dX5_plan_63
        · replace hq := hq.1 hc
          refine lv_iconst (v := (-1)) hx hb dX5_plan_33 (by decide) ?_
          exact w_iret C hw hq dX5_plan_34
set_option maxHeartbeats 4000000 in
set_option maxRecDepth 100000 in
theorem mX5_count (l : Launch) (D : va_G) (ad : Nat → Nat) (cI cL : ClassId) (S : MS) (x1 : Int32) (Q : Int32 → MS → Prop) (hq : wX5_count S x1 Q) : Mi l yX5_count cX5_count 2 (some .int) { frames := 1, cells := 0, slots := 0, locals := 22 } D (ctys cI cL) (cw ad cI cL) [.ref (ad 0), .int x1] S Q := by
  refine Mi.of (by decide +kernel) (Nat.le_of_ble_eq_true rfl) ?_
  intro p e s m args below meth c A ls C hw hl
  have hx := C.1
  have hb := C.2.1
  have hl : lv_has ls 2 [(0, .ref (ad 0)), (1, .int x1)] := hl
  have hw : WW D (ctys cI cL) (cw ad cI cL S) A s s.heap [] := hw
  unfold wX5_count at hq
  refine lv_iload_n hx hb dX5_count_0 rfl (lv_at hl 1 rfl) ?_
  by_cases hc0 : x1 = 0
  · replace hq := hq.1 hc0
    refine lv_tableIn (tgt := 36) (off := 35) hx hb dX5_count_1 (by rw [hc0]; decide) (by rw [hc0]; decide) (by rw [hc0]; rfl) (by decide) ?_
    refine lv_aload_n hx hb dX5_count_36 rfl (lv_at hl 0 rfl) ?_
    refine w_get C hw uw_X5 0 cO_X5 rfl 0 (by decide) fl_X5_10 rfl dX5_count_37 ?_
    refine w_calli hw (w_runV (rest := []) C hw (mX2_size l D ad cI cL S _ hq _) kc_X2_size ml_X5_169 1 cO_X2 rfl rfl ⟨rfl, rfl, Nat.le_of_ble_eq_true rfl, Nat.le_of_ble_eq_true rfl⟩ rfl rfl (Nat.le_of_ble_eq_true rfl) hl.1 dX5_count_40) ?_
    clear hw hq
    intro r_2 S_1 H locs hq hw
    exact w_iret C hw hq dX5_count_43
  by_cases hc1 : x1 = 1
  · replace hq := hq.2.1 hc1
    refine lv_tableIn (tgt := 44) (off := 43) hx hb dX5_count_1 (by rw [hc1]; decide) (by rw [hc1]; decide) (by rw [hc1]; rfl) (by decide) ?_
    refine lv_aload_n hx hb dX5_count_44 rfl (lv_at hl 0 rfl) ?_
    refine w_get C hw uw_X5 0 cO_X5 rfl 0 (by decide) fl_X5_10 rfl dX5_count_45 ?_
    refine w_calli hw (w_runV (rest := []) C hw (mX2_allTests l D ad cI cL S _ hq _) kc_X2_allTests ml_X5_172 1 cO_X2 rfl rfl ⟨rfl, rfl, Nat.le_of_ble_eq_true rfl, Nat.le_of_ble_eq_true rfl⟩ rfl rfl (Nat.le_of_ble_eq_true rfl) hl.1 dX5_count_48) ?_
    clear hw hq
    intro r_4 S_3 H locs hq hw
    exact w_iret C hw hq dX5_count_51
  by_cases hc2 : x1 = 2
  · replace hq := hq.2.2.1 hc2
    refine lv_tableIn (tgt := 52) (off := 51) hx hb dX5_count_1 (by rw [hc2]; decide) (by rw [hc2]; decide) (by rw [hc2]; rfl) (by decide) ?_
    refine lv_aload_n hx hb dX5_count_52 rfl (lv_at hl 0 rfl) ?_
    refine w_get C hw uw_X5 0 cO_X5 rfl 0 (by decide) fl_X5_10 rfl dX5_count_53 ?_
    refine w_calli hw (w_runV (rest := []) C hw (mX2_allBypasses l D ad cI cL S _ hq _) kc_X2_allBypasses ml_X5_175 1 cO_X2 rfl rfl ⟨rfl, rfl, Nat.le_of_ble_eq_true rfl, Nat.le_of_ble_eq_true rfl⟩ rfl rfl (Nat.le_of_ble_eq_true rfl) hl.1 dX5_count_56) ?_
    clear hw hq
    intro r_6 S_5 H locs hq hw
    exact w_iret C hw hq dX5_count_59
  by_cases hc3 : x1 = 3
  · replace hq := hq.2.2.2.1 hc3
    refine lv_tableIn (tgt := 60) (off := 59) hx hb dX5_count_1 (by rw [hc3]; decide) (by rw [hc3]; decide) (by rw [hc3]; rfl) (by decide) ?_
    refine lv_aload_n hx hb dX5_count_60 rfl (lv_at hl 0 rfl) ?_
    refine w_get C hw uw_X5 0 cO_X5 rfl 1 (by decide) fl_X5_19 rfl dX5_count_61 ?_
    refine w_calli hw (w_runV (rest := []) C hw (mX0_size l D ad cI cL S _ hq _) kc_X0_size ml_X5_178 2 cO_X0 rfl rfl ⟨rfl, rfl, Nat.le_of_ble_eq_true rfl, Nat.le_of_ble_eq_true rfl⟩ rfl rfl (Nat.le_of_ble_eq_true rfl) hl.1 dX5_count_64) ?_
    clear hw hq
    intro r_8 S_7 H locs hq hw
    exact w_iret C hw hq dX5_count_67
  by_cases hc4 : x1 = 4
  · replace hq := hq.2.2.2.2.1 hc4
    refine lv_tableIn (tgt := 68) (off := 67) hx hb dX5_count_1 (by rw [hc4]; decide) (by rw [hc4]; decide) (by rw [hc4]; rfl) (by decide) ?_
    refine lv_aload_n hx hb dX5_count_68 rfl (lv_at hl 0 rfl) ?_
    refine w_get C hw uw_X5 0 cO_X5 rfl 2 (by decide) fl_X5_26 rfl dX5_count_69 ?_
    refine w_calli hw (w_runV (rest := []) C hw (mX4_size l D ad cI cL S _ hq _) kc_X4_size ml_X5_179 3 cO_X4 rfl rfl ⟨rfl, rfl, Nat.le_of_ble_eq_true rfl, Nat.le_of_ble_eq_true rfl⟩ rfl rfl (Nat.le_of_ble_eq_true rfl) hl.1 dX5_count_72) ?_
    clear hw hq
    intro r_10 S_9 H locs hq hw
    exact w_iret C hw hq dX5_count_75
  replace hq := hq.2.2.2.2.2 hc0 hc1 hc2 hc3 hc4
  refine lv_tableOut (tgt := 76) hx hb dX5_count_1 (by have g0 := lv_neT (a := 0) hc0 (by decide); have g1 := lv_neT (a := 1) hc1 (by decide); have g2 := lv_neT (a := 2) hc2 (by decide); have g3 := lv_neT (a := 3) hc3 (by decide); have g4 := lv_neT (a := 4) hc4 (by decide); omega) (by decide) ?_
  refine lv_iconst (v := (-1)) hx hb dX5_count_76 (by decide) ?_
  exact w_iret C hw hq dX5_count_77
