set_option maxHeartbeats 4000000 in
set_option maxRecDepth 100000 in
theorem mX6_in (l : Launch) (D : va_G) (ad : Nat → Nat) (cI cL : ClassId) (S : MS) (x0 : Int64) (x2 : Int64) (x4 : Int64) (Q : Int32 → MS → Prop) (hq : wX6_in S x0 x2 x4 Q) : Mi l yX6_in cX6_in 6 (some .boolean) { frames := 0, cells := 0, slots := 0, locals := 0 } D (rtys cI cL) (rw_ ad cI cL) [.long x0, .long x2, .long x4] S Q := by
  refine Mi.of (by decide +kernel) (Nat.le_of_ble_eq_true rfl) ?_
  intro p e s m args below meth c A ls C hw hl
  have hx := C.1
  have hb := C.2.1
  have hl : lv_has ls 6 [(0, .long x0), (2, .long x2), (4, .long x4)] := hl
  have hw : WW D (rtys cI cL) (rw_ ad cI cL S) A s s.heap [] := hw
  unfold wX6_in at hq
  refine lv_lload_n hx hb dX6_in_0 rfl (lv_at hl 0 rfl) ?_
  refine lv_lload_n hx hb dX6_in_1 rfl (lv_at hl 1 rfl) ?_
  refine W.lcmp hx hb dX6_in_2 ?_
  refine lv_if_lt (tgt := 17) hx hb dX6_in_3 (by decide) (fun hc => ?_) (fun hc => ?_)
  · replace hq := hq.1 hc
    refine lv_iconst (v := 0) hx hb dX6_in_17 (by decide) ?_
    exact w_zret C hw rfl hq dX6_in_18
  · replace hq := hq.2 hc
    refine lv_lload_n hx hb dX6_in_6 rfl (lv_at hl 0 rfl) ?_
    refine lv_lload hx hb dX6_in_7 (lv_at hl 2 rfl) ?_
    refine W.lcmp hx hb dX6_in_9 ?_
    refine lv_if_gt (tgt := 17) hx hb dX6_in_10 (by decide) (fun hc => ?_) (fun hc => ?_)
    · replace hq := hq.1 hc
      refine lv_iconst (v := 0) hx hb dX6_in_17 (by decide) ?_
      exact w_zret C hw rfl hq dX6_in_18
    · replace hq := hq.2 hc
      refine lv_iconst (v := 1) hx hb dX6_in_13 (by decide) ?_
      refine lv_goto (tgt := 18) hx hb dX6_in_14 (by decide) ?_
      exact w_zret C hw rfl hq dX6_in_18
set_option maxHeartbeats 4000000 in
set_option maxRecDepth 100000 in
theorem mX6_isPart (l : Launch) (D : va_G) (ad : Nat → Nat) (cI cL : ClassId) (S : MS) (x1 : Int32) (Q : Int32 → MS → Prop) (hq : wX6_isPart S x1 Q) : Mi l yX6_isPart cX6_isPart 2 (some .boolean) { frames := 1, cells := 0, slots := 0, locals := 25 } D (rtys cI cL) (rw_ ad cI cL) [.ref (ad 0), .int x1] S Q := by
  refine Mi.of (by decide +kernel) (Nat.le_of_ble_eq_true rfl) ?_
  intro p e s m args below meth c A ls C hw hl
  have hx := C.1
  have hb := C.2.1
  have hl : lv_has ls 2 [(0, .ref (ad 0)), (1, .int x1)] := hl
  have hw : WW D (rtys cI cL) (rw_ ad cI cL S) A s s.heap [] := hw
  unfold wX6_isPart at hq
  refine lv_iload_n hx hb dX6_isPart_0 rfl (lv_at hl 1 rfl) ?_
  refine lv_i2l (v := x1.toInt64) hx hb dX6_isPart_1 rfl ?_
  refine lv_lconst (v := 0) hx hb dX6_isPart_2 (by decide) ?_
  refine lv_aload_n hx hb dX6_isPart_3 rfl (lv_at hl 0 rfl) ?_
  refine w_get C hw uw_X6 0 rO rfl 0 (by decide) fl_X6_74 rfl dX6_isPart_4 ?_
  refine lv_iconst (v := 1) hx hb dX6_isPart_7 (by decide) ?_
  refine lv_isub hx hb dX6_isPart_8 ?_
  refine lv_i2l (v := ((S.2.2 0) - 1).toInt64) hx hb dX6_isPart_9 rfl ?_
  refine w_calli hw (w_runS (rest := []) C hw (mX6_in l D ad cI cL S x1.toInt64 0 (((S.2.2 0) - 1).toInt64) _ hq _) kc_X6_in ml_X6_78 ⟨rfl, rfl, Nat.le_of_ble_eq_true rfl, Nat.le_of_ble_eq_true rfl⟩ rfl rfl (Nat.le_of_ble_eq_true rfl) hl.1 dX6_isPart_10) ?_
  clear hw hq
  intro r_2 S_1 H locs hq hw
  exact w_zret C hw hq.1 hq.2 dX6_isPart_13
set_option maxHeartbeats 4000000 in
set_option maxRecDepth 100000 in
theorem mX6_isVote (l : Launch) (D : va_G) (ad : Nat → Nat) (cI cL : ClassId) (S : MS) (x1 : Int32) (Q : Int32 → MS → Prop) (hq : wX6_isVote S x1 Q) : Mi l yX6_isVote cX6_isVote 2 (some .boolean) { frames := 1, cells := 0, slots := 0, locals := 25 } D (rtys cI cL) (rw_ ad cI cL) [.ref (ad 0), .int x1] S Q := by
  refine Mi.of (by decide +kernel) (Nat.le_of_ble_eq_true rfl) ?_
  intro p e s m args below meth c A ls C hw hl
  have hx := C.1
  have hb := C.2.1
  have hl : lv_has ls 2 [(0, .ref (ad 0)), (1, .int x1)] := hl
  have hw : WW D (rtys cI cL) (rw_ ad cI cL S) A s s.heap [] := hw
  unfold wX6_isVote at hq
  refine lv_iload_n hx hb dX6_isVote_0 rfl (lv_at hl 1 rfl) ?_
  refine lv_i2l (v := x1.toInt64) hx hb dX6_isVote_1 rfl ?_
  refine lv_lconst (v := 0) hx hb dX6_isVote_2 (by decide) ?_
  refine lv_aload_n hx hb dX6_isVote_3 rfl (lv_at hl 0 rfl) ?_
  refine w_get C hw uw_X6 0 rO rfl 16 (by decide) fl_X6_82 rfl dX6_isVote_4 ?_
  refine lv_iconst (v := 1) hx hb dX6_isVote_7 (by decide) ?_
  refine lv_isub hx hb dX6_isVote_8 ?_
  refine lv_i2l (v := ((S.2.2 3) - 1).toInt64) hx hb dX6_isVote_9 rfl ?_
  refine w_calli hw (w_runS (rest := []) C hw (mX6_in l D ad cI cL S x1.toInt64 0 (((S.2.2 3) - 1).toInt64) _ hq _) kc_X6_in ml_X6_78 ⟨rfl, rfl, Nat.le_of_ble_eq_true rfl, Nat.le_of_ble_eq_true rfl⟩ rfl rfl (Nat.le_of_ble_eq_true rfl) hl.1 dX6_isVote_10) ?_
  clear hw hq
  intro r_2 S_1 H locs hq hw
  exact w_zret C hw hq.1 hq.2 dX6_isVote_13
set_option maxHeartbeats 4000000 in
set_option maxRecDepth 100000 in
theorem mX6_isDay (l : Launch) (D : va_G) (ad : Nat → Nat) (cI cL : ClassId) (S : MS) (x0 : Int32) (Q : Int32 → MS → Prop) (hq : wX6_isDay S x0 Q) : Mi l yX6_isDay cX6_isDay 1 (some .boolean) { frames := 1, cells := 0, slots := 0, locals := 25 } D (rtys cI cL) (rw_ ad cI cL) [.int x0] S Q := by
  refine Mi.of (by decide +kernel) (Nat.le_of_ble_eq_true rfl) ?_
  intro p e s m args below meth c A ls C hw hl
  have hx := C.1
  have hb := C.2.1
  have hl : lv_has ls 1 [(0, .int x0)] := hl
  have hw : WW D (rtys cI cL) (rw_ ad cI cL S) A s s.heap [] := hw
  unfold wX6_isDay at hq
  refine lv_iload_n hx hb dX6_isDay_0 rfl (lv_at hl 0 rfl) ?_
  refine lv_i2l (v := x0.toInt64) hx hb dX6_isDay_1 rfl ?_
  refine lv_lconst (v := 0) hx hb dX6_isDay_2 (by decide) ?_
  refine lv_ldc2 hx hb C.2.2.2.2.1 (C.w kk_X6_85 rfl) dX6_isDay_3 ?_
  refine w_calli hw (w_runS (rest := []) C hw (mX6_in l D ad cI cL S x0.toInt64 0 999 _ hq _) kc_X6_in ml_X6_78 ⟨rfl, rfl, Nat.le_of_ble_eq_true rfl, Nat.le_of_ble_eq_true rfl⟩ rfl rfl (Nat.le_of_ble_eq_true rfl) hl.1 dX6_isDay_6) ?_
  clear hw hq
  intro r_2 S_1 H locs hq hw
  exact w_zret C hw hq.1 hq.2 dX6_isDay_9
set_option maxHeartbeats 4000000 in
set_option maxRecDepth 100000 in
theorem mX6_part (l : Launch) (D : va_G) (ad : Nat → Nat) (cI cL : ClassId) (S : MS) (x1 : Int32) (x2 : Int32) (x3 : Int32) (Q : Int32 → MS → Prop) (hq : wX6_part S x1 x2 x3 Q) : Mi l yX6_part cX6_part 4 (some .int) { frames := 1, cells := 0, slots := 0, locals := 25 } D (rtys cI cL) (rw_ ad cI cL) [.ref (ad 0), .int x1, .int x2, .int x3] S Q := by
  refine Mi.of (by decide +kernel) (Nat.le_of_ble_eq_true rfl) ?_
  intro p e s m args below meth c A ls C hw hl
  have hx := C.1
  have hb := C.2.1
  have hl : lv_has ls 4 [(0, .ref (ad 0)), (1, .int x1), (2, .int x2), (3, .int x3)] := hl
  have hw : WW D (rtys cI cL) (rw_ ad cI cL S) A s s.heap [] := hw
  unfold wX6_part at hq
  refine lv_iload_n hx hb dX6_part_0 rfl (lv_at hl 1 rfl) ?_
  refine lv_i2l (v := x1.toInt64) hx hb dX6_part_1 rfl ?_
  refine lv_lconst (v := 0) hx hb dX6_part_2 (by decide) ?_
  refine lv_ldc2 hx hb C.2.2.2.2.1 (C.w kk_X6_87 rfl) dX6_part_3 ?_
  refine w_calli hw (w_runS (rest := []) C hw (mX6_in l D ad cI cL S x1.toInt64 0 64 _ hq _) kc_X6_in ml_X6_78 ⟨rfl, rfl, Nat.le_of_ble_eq_true rfl, Nat.le_of_ble_eq_true rfl⟩ rfl rfl (Nat.le_of_ble_eq_true rfl) hl.1 dX6_part_6) ?_
  clear hw hq
  intro r_2 S_1 H locs hq hw
  refine lv_if_eq (tgt := 36) hx hb dX6_part_9 (by decide) (fun hc => ?_) (fun hc => ?_)
  · replace hq := hq.1 hc
    refine lv_iconst (v := (-1)) hx hb dX6_part_36 (by decide) ?_
    exact w_iret C hw hq dX6_part_37
  · replace hq := hq.2 hc
    refine lv_iload_n hx hb dX6_part_12 rfl (lv_at hl 2 rfl) ?_
    refine lv_i2l (v := x2.toInt64) hx hb dX6_part_13 rfl ?_
    refine lv_lconst (v := 0) hx hb dX6_part_14 (by decide) ?_
    refine lv_ldc2 hx hb C.2.2.2.2.1 (C.w kk_X6_87 rfl) dX6_part_15 ?_
    refine w_calli hw (w_runS (rest := []) C hw (mX6_in l D ad cI cL S_1 x2.toInt64 0 64 _ hq _) kc_X6_in ml_X6_78 ⟨rfl, rfl, Nat.le_of_ble_eq_true rfl, Nat.le_of_ble_eq_true rfl⟩ rfl rfl (Nat.le_of_ble_eq_true rfl) hl.1 dX6_part_18) ?_
    clear hw hq
    intro r_4 S_3 H locs hq hw
    refine lv_if_eq (tgt := 36) hx hb dX6_part_21 (by decide) (fun hc => ?_) (fun hc => ?_)
    · replace hq := hq.1 hc
      refine lv_iconst (v := (-1)) hx hb dX6_part_36 (by decide) ?_
      exact w_iret C hw hq dX6_part_37
    · replace hq := hq.2 hc
      refine lv_iload_n hx hb dX6_part_24 rfl (lv_at hl 3 rfl) ?_
      refine lv_i2l (v := x3.toInt64) hx hb dX6_part_25 rfl ?_
      refine lv_lconst (v := 0) hx hb dX6_part_26 (by decide) ?_
      refine lv_ldc2 hx hb C.2.2.2.2.1 (C.w kk_X6_87 rfl) dX6_part_27 ?_
      refine w_calli hw (w_runS (rest := []) C hw (mX6_in l D ad cI cL S_3 x3.toInt64 0 64 _ hq _) kc_X6_in ml_X6_78 ⟨rfl, rfl, Nat.le_of_ble_eq_true rfl, Nat.le_of_ble_eq_true rfl⟩ rfl rfl (Nat.le_of_ble_eq_true rfl) hl.1 dX6_part_30) ?_
      clear hw hq
      intro r_6 S_5 H locs hq hw
      refine lv_if_ne (tgt := 38) hx hb dX6_part_33 (by decide) (fun hc => ?_) (fun hc => ?_)
      · replace hq := hq.2 hc
        refine lv_aload_n hx hb dX6_part_38 rfl (lv_at hl 0 rfl) ?_
        refine w_get C hw uw_X6 0 rO rfl 0 (by decide) fl_X6_74 rfl dX6_part_39 ?_
        refine lv_bipush (v := 12) hx hb dX6_part_42 (by decide) ?_
        refine lv_icmp_ne (tgt := 50) hx hb dX6_part_44 (by decide) (fun hc => ?_) (fun hc => ?_)
        · replace hq := hq.2 hc
          refine lv_aload_n hx hb dX6_part_50 rfl (lv_at hl 0 rfl) ?_
          refine w_get C hw uw_X6 0 rO rfl 1 (by decide) fl_X6_7 rfl dX6_part_51 ?_
          refine lv_aload_n hx hb dX6_part_54 rfl (lv_at hl 0 rfl) ?_
          refine w_get C hw uw_X6 0 rO rfl 0 (by decide) fl_X6_74 rfl dX6_part_55 ?_
          refine lv_iload_n hx hb dX6_part_58 rfl (lv_at hl 1 rfl) ?_
          obtain ⟨hin, hq⟩ := hq
          obtain ⟨S_7, eS_7⟩ : ∃ z, z = uI S_5 0 (S_5.2.2 0).toNatClampNeg x1 := ⟨_, rfl⟩
          replace hq := hq S_7 eS_7
          refine w_ist (ws' := rw_ ad cI cL S_7) C hw 1 0 rI_0 rfl hin dX6_part_59 (by rw [eS_7]; exact rIs_0) (fun H locs hw => ?_)
          refine lv_aload_n hx hb dX6_part_60 rfl (lv_at hl 0 rfl) ?_
          refine w_get C hw uw_X6 0 rO rfl 2 (by decide) fl_X6_13 rfl dX6_part_61 ?_
          refine lv_aload_n hx hb dX6_part_64 rfl (lv_at hl 0 rfl) ?_
          refine w_get C hw uw_X6 0 rO rfl 0 (by decide) fl_X6_74 rfl dX6_part_65 ?_
          refine lv_iload_n hx hb dX6_part_68 rfl (lv_at hl 2 rfl) ?_
          obtain ⟨hin, hq⟩ := hq
          obtain ⟨S_8, eS_8⟩ : ∃ z, z = uI S_7 1 (S_7.2.2 0).toNatClampNeg x2 := ⟨_, rfl⟩
          replace hq := hq S_8 eS_8
          refine w_ist (ws' := rw_ ad cI cL S_8) C hw 2 0 rI_1 rfl hin dX6_part_69 (by rw [eS_8]; exact rIs_1) (fun H locs hw => ?_)
          refine lv_aload_n hx hb dX6_part_70 rfl (lv_at hl 0 rfl) ?_
          refine w_get C hw uw_X6 0 rO rfl 3 (by decide) fl_X6_16 rfl dX6_part_71 ?_
          refine lv_aload_n hx hb dX6_part_74 rfl (lv_at hl 0 rfl) ?_
          refine w_get C hw uw_X6 0 rO rfl 0 (by decide) fl_X6_74 rfl dX6_part_75 ?_
          refine lv_iload_n hx hb dX6_part_78 rfl (lv_at hl 3 rfl) ?_
          obtain ⟨hin, hq⟩ := hq
          obtain ⟨S_9, eS_9⟩ : ∃ z, z = uI S_8 2 (S_8.2.2 0).toNatClampNeg x3 := ⟨_, rfl⟩
          replace hq := hq S_9 eS_9
          refine w_ist (ws' := rw_ ad cI cL S_9) C hw 3 0 rI_2 rfl hin dX6_part_79 (by rw [eS_9]; exact rIs_2) (fun H locs hw => ?_)
          refine lv_aload_n hx hb dX6_part_80 rfl (lv_at hl 0 rfl) ?_
          refine lv_dup hx hb dX6_part_81 rfl ?_
          refine w_get C hw uw_X6 0 rO rfl 0 (by decide) fl_X6_74 rfl dX6_part_82 ?_
          refine lv_iconst (v := 1) hx hb dX6_part_85 (by decide) ?_
          refine lv_iadd hx hb dX6_part_86 ?_
          obtain ⟨S_10, eS_10⟩ : ∃ z, z = uF S_9 0 ((S_9.2.2 0) + 1) := ⟨_, rfl⟩
          replace hq := hq S_10 eS_10
          refine w_put (ws' := rw_ ad cI cL S_10) C hw uw_X6 tyX6 tyX6_ok nmX6 0 rO rfl 0 (by decide) fl_X6_74 rfl (by decide +kernel) (Nat.le_of_ble_eq_true rfl) dX6_part_87 (by rw [eS_10]; exact rFs_0) (fun H locs hw => ?_)
          refine lv_aload_n hx hb dX6_part_90 rfl (lv_at hl 0 rfl) ?_
          refine w_get C hw uw_X6 0 rO rfl 0 (by decide) fl_X6_74 rfl dX6_part_91 ?_
          refine lv_iconst (v := 1) hx hb dX6_part_94 (by decide) ?_
          refine lv_isub hx hb dX6_part_95 ?_
          exact w_iret C hw hq dX6_part_96
        · replace hq := hq.1 hc
          refine lv_bipush (v := (-3)) hx hb dX6_part_47 (by decide) ?_
          exact w_iret C hw hq dX6_part_49
      · replace hq := hq.1 hc
        refine lv_iconst (v := (-1)) hx hb dX6_part_36 (by decide) ?_
        exact w_iret C hw hq dX6_part_37
set_option maxHeartbeats 4000000 in
set_option maxRecDepth 100000 in
theorem kJX6_test_51 {p : Program} {l : Launch} {e : Env} {s : State} {m : MethodId} {args : Array Value} {below : List Frame} {meth : Method} {c : Code} {D : va_G} {ad : Nat → Nat} {cI cL : ClassId} {A : Nat → Prop} (C : Cx p s m args meth c yX6_test.cls cX6_test 3 (some .int)) (S : MS) (x1 : Int32) (x2 : Int32) (Q : Int32 → MS → Prop) (hq : JX6_test_51 S x1 x2 Q) (H : Heap) (locs : List Loc) (ls : Array Slot) (hw : WW D (rtys cI cL) (rw_ ad cI cL S) A s H locs) (hl : lv_has ls 3 [(0, .ref (ad 0)), (1, .int x1), (2, .int x2)]) : W p l e { frames := 2, cells := 0, slots := 0, locals := 46 } s m args below meth c H locs 0 0 (Zi D (rtys cI cL) (rw_ ad cI cL) A below args s Q) (F0 m 51 ls []) := by
  have hx := C.1
  have hb := C.2.1
  unfold JX6_test_51 at hq
  refine lv_aload_n hx hb dX6_test_51 rfl (lv_at hl 0 rfl) ?_
  refine w_get C hw uw_X6 0 rO rfl 5 (by decide) fl_X6_22 rfl dX6_test_52 ?_
  refine lv_iload_n hx hb dX6_test_55 rfl (lv_at hl 1 rfl) ?_
  obtain ⟨hin, hq⟩ := hq
  refine w_ild C hw 5 0 rI_4 rfl hin dX6_test_56 ?_
  refine lv_bipush (v := 12) hx hb dX6_test_57 (by decide) ?_
  refine lv_icmp_ne (tgt := 65) hx hb dX6_test_59 (by decide) (fun hc => ?_) (fun hc => ?_)
  · replace hq := hq.2 hc
    refine lv_aload_n hx hb dX6_test_65 rfl (lv_at hl 0 rfl) ?_
    refine w_get C hw uw_X6 0 rO rfl 6 (by decide) fl_X6_25 rfl dX6_test_66 ?_
    refine lv_bipush (v := 12) hx hb dX6_test_69 (by decide) ?_
    refine lv_iload_n hx hb dX6_test_71 rfl (lv_at hl 1 rfl) ?_
    refine lv_imul hx hb dX6_test_72 ?_
    refine lv_aload_n hx hb dX6_test_73 rfl (lv_at hl 0 rfl) ?_
    refine w_get C hw uw_X6 0 rO rfl 5 (by decide) fl_X6_22 rfl dX6_test_74 ?_
    refine lv_iload_n hx hb dX6_test_77 rfl (lv_at hl 1 rfl) ?_
    obtain ⟨hin, hq⟩ := hq
    refine w_ild C hw 5 0 rI_4 rfl hin dX6_test_78 ?_
    refine lv_iadd hx hb dX6_test_79 ?_
    refine lv_iload_n hx hb dX6_test_80 rfl (lv_at hl 2 rfl) ?_
    obtain ⟨hin, hq⟩ := hq
    obtain ⟨S_3, eS_3⟩ : ∃ z, z = uI S 5 ((12 * x1) + (S.1 4 x1.toNatClampNeg)).toNatClampNeg x2 := ⟨_, rfl⟩
    replace hq := hq S_3 eS_3
    refine w_ist (ws' := rw_ ad cI cL S_3) C hw 6 0 rI_5 rfl hin dX6_test_81 (by rw [eS_3]; exact rIs_5) (fun H locs hw => ?_)
    refine lv_aload_n hx hb dX6_test_82 rfl (lv_at hl 0 rfl) ?_
    refine w_get C hw uw_X6 0 rO rfl 5 (by decide) fl_X6_22 rfl dX6_test_83 ?_
    refine lv_iload_n hx hb dX6_test_86 rfl (lv_at hl 1 rfl) ?_
    refine lv_dup2_11 hx hb dX6_test_87 rfl rfl ?_
    obtain ⟨hin, hq⟩ := hq
    refine w_ild C hw 5 0 rI_4 rfl hin dX6_test_88 ?_
    refine lv_iconst (v := 1) hx hb dX6_test_89 (by decide) ?_
    refine lv_iadd hx hb dX6_test_90 ?_
    obtain ⟨hin, hq⟩ := hq
    obtain ⟨S_4, eS_4⟩ : ∃ z, z = uI S_3 4 x1.toNatClampNeg ((S_3.1 4 x1.toNatClampNeg) + 1) := ⟨_, rfl⟩
    replace hq := hq S_4 eS_4
    refine w_ist (ws' := rw_ ad cI cL S_4) C hw 5 0 rI_4 rfl hin dX6_test_91 (by rw [eS_4]; exact rIs_4) (fun H locs hw => ?_)
    refine lv_aload_n hx hb dX6_test_92 rfl (lv_at hl 0 rfl) ?_
    refine w_get C hw uw_X6 0 rO rfl 5 (by decide) fl_X6_22 rfl dX6_test_93 ?_
    refine lv_iload_n hx hb dX6_test_96 rfl (lv_at hl 1 rfl) ?_
    obtain ⟨hin, hq⟩ := hq
    refine w_ild C hw 5 0 rI_4 rfl hin dX6_test_97 ?_
    exact w_iret C hw hq dX6_test_98
  · replace hq := hq.1 hc
    refine lv_bipush (v := (-3)) hx hb dX6_test_62 (by decide) ?_
    exact w_iret C hw hq dX6_test_64
set_option maxHeartbeats 4000000 in
set_option maxRecDepth 100000 in
theorem mX6_test (l : Launch) (D : va_G) (ad : Nat → Nat) (cI cL : ClassId) (S : MS) (x1 : Int32) (x2 : Int32) (Q : Int32 → MS → Prop) (hq : wX6_test S x1 x2 Q) : Mi l yX6_test cX6_test 3 (some .int) { frames := 2, cells := 0, slots := 0, locals := 46 } D (rtys cI cL) (rw_ ad cI cL) [.ref (ad 0), .int x1, .int x2] S Q := by
  refine Mi.of (by decide +kernel) (Nat.le_of_ble_eq_true rfl) ?_
  intro p e s m args below meth c A ls C hw hl
  have hx := C.1
  have hb := C.2.1
  have hl : lv_has ls 3 [(0, .ref (ad 0)), (1, .int x1), (2, .int x2)] := hl
  have hw : WW D (rtys cI cL) (rw_ ad cI cL S) A s s.heap [] := hw
  unfold wX6_test at hq
  refine lv_aload_n hx hb dX6_test_0 rfl (lv_at hl 0 rfl) ?_
  refine lv_iload_n hx hb dX6_test_1 rfl (lv_at hl 1 rfl) ?_
  refine w_calli hw (w_runV (rest := []) C hw (mX6_isPart l D ad cI cL S x1 _ hq _) kc_X6_isPart ml_X6_89 0 rO rfl rfl ⟨rfl, rfl, Nat.le_of_ble_eq_true rfl, Nat.le_of_ble_eq_true rfl⟩ rfl rfl (Nat.le_of_ble_eq_true rfl) hl.1 dX6_test_2) ?_
  clear hw hq
  intro r_2 S_1 H locs hq hw
  refine lv_if_eq (tgt := 15) hx hb dX6_test_5 (by decide) (fun hc => ?_) (fun hc => ?_)
  · replace hq := hq.1 hc
    refine lv_iconst (v := (-1)) hx hb dX6_test_15 (by decide) ?_
    exact w_iret C hw hq dX6_test_16
  · replace hq := hq.2 hc
    refine lv_iload_n hx hb dX6_test_8 rfl (lv_at hl 2 rfl) ?_
    refine w_calli hw (w_runS (rest := []) C hw (mX6_isDay l D ad cI cL S_1 x2 _ hq _) kc_X6_isDay ml_X6_93 ⟨rfl, rfl, Nat.le_of_ble_eq_true rfl, Nat.le_of_ble_eq_true rfl⟩ rfl rfl (Nat.le_of_ble_eq_true rfl) hl.1 dX6_test_9) ?_
    clear hw hq
    intro r_4 S_3 H locs hq hw
    refine lv_if_ne (tgt := 17) hx hb dX6_test_12 (by decide) (fun hc => ?_) (fun hc => ?_)
    · replace hq := hq.2 hc
      refine lv_aload_n hx hb dX6_test_17 rfl (lv_at hl 0 rfl) ?_
      refine w_get C hw uw_X6 0 rO rfl 5 (by decide) fl_X6_22 rfl dX6_test_18 ?_
      refine lv_iload_n hx hb dX6_test_21 rfl (lv_at hl 1 rfl) ?_
      obtain ⟨hin, hq⟩ := hq
      refine w_ild C hw 5 0 rI_4 rfl hin dX6_test_22 ?_
      refine lv_if_le (tgt := 51) hx hb dX6_test_23 (by decide) (fun hc => ?_) (fun hc => ?_)
      · replace hq := hq.1 hc
        exact kJX6_test_51 C S_3 x1 x2 Q hq _ _ _ hw (lv_sub hl [0, 1, 2] rfl)
      · replace hq := hq.2 hc
        refine lv_aload_n hx hb dX6_test_26 rfl (lv_at hl 0 rfl) ?_
        refine w_get C hw uw_X6 0 rO rfl 6 (by decide) fl_X6_25 rfl dX6_test_27 ?_
        refine lv_bipush (v := 12) hx hb dX6_test_30 (by decide) ?_
        refine lv_iload_n hx hb dX6_test_32 rfl (lv_at hl 1 rfl) ?_
        refine lv_imul hx hb dX6_test_33 ?_
        refine lv_aload_n hx hb dX6_test_34 rfl (lv_at hl 0 rfl) ?_
        refine w_get C hw uw_X6 0 rO rfl 5 (by decide) fl_X6_22 rfl dX6_test_35 ?_
        refine lv_iload_n hx hb dX6_test_38 rfl (lv_at hl 1 rfl) ?_
        obtain ⟨hin, hq⟩ := hq
        refine w_ild C hw 5 0 rI_4 rfl hin dX6_test_39 ?_
        refine lv_iadd hx hb dX6_test_40 ?_
        refine lv_iconst (v := 1) hx hb dX6_test_41 (by decide) ?_
        refine lv_isub hx hb dX6_test_42 ?_
        obtain ⟨hin, hq⟩ := hq
        refine w_ild C hw 6 0 rI_5 rfl hin dX6_test_43 ?_
        refine lv_iload_n hx hb dX6_test_44 rfl (lv_at hl 2 rfl) ?_
        refine lv_icmp_lt (tgt := 51) hx hb dX6_test_45 (by decide) (fun hc => ?_) (fun hc => ?_)
        · replace hq := hq.1 hc
          exact kJX6_test_51 C S_3 x1 x2 Q hq _ _ _ hw (lv_sub hl [0, 1, 2] rfl)
        · replace hq := hq.2 hc
          refine lv_bipush (v := (-2)) hx hb dX6_test_48 (by decide) ?_
          exact w_iret C hw hq dX6_test_50
    · replace hq := hq.1 hc
      refine lv_iconst (v := (-1)) hx hb dX6_test_15 (by decide) ?_
      exact w_iret C hw hq dX6_test_16
set_option maxHeartbeats 4000000 in
set_option maxRecDepth 100000 in
theorem kLX6_noTests_24 {p : Program} {l : Launch} {e : Env} {s : State} {m : MethodId} {args : Array Value} {below : List Frame} {meth : Method} {c : Code} {D : va_G} {ad : Nat → Nat} {cI cL : ClassId} {A : Nat → Prop} (C : Cx p s m args meth c yX6_noTests.cls cX6_noTests 4 (some .int)) (x1 : Int32) (x2 : Int32) (x3 : Int32) (K : MS → Prop) (Q : Int32 → MS → Prop) (hK : ∀ (S : MS) (H : Heap) (locs : List Loc) (ls : Array Slot), K S  → WW D (rtys cI cL) (rw_ ad cI cL S) A s H locs → lv_has ls 4 [(0, .ref (ad 0)), (1, .int x1), (3, .int x3)] → W p l e { frames := 2, cells := 0, slots := 0, locals := 46 } s m args below meth c H locs 0 0 (Zi D (rtys cI cL) (rw_ ad cI cL) A below args s Q) (F0 m 68 ls [])) : ∀ (n : Nat) (S : MS) (_ : LX6_noTests_24 x1 x2 x3 K Q n S) (H : Heap) (locs : List Loc) (ls : Array Slot), WW D (rtys cI cL) (rw_ ad cI cL S) A s H locs → lv_has ls 4 [(0, .ref (ad 0)), (1, .int x1), (2, .int x2), (3, .int x3)] → W p l e { frames := 2, cells := 0, slots := 0, locals := 46 } s m args below meth c H locs 0 0 (Zi D (rtys cI cL) (rw_ ad cI cL) A below args s Q) (F0 m 24 ls []) := by
  have hx := C.1
  have hb := C.2.1
  intro n
  induction n with
  | zero => intro S hq; exact absurd hq (by rw [LX6_noTests_24]; exact id)
  | succ n ih =>
    intro S hq H locs ls hw hl
    rw [LX6_noTests_24] at hq
    refine lv_aload_n hx hb dX6_noTests_24 rfl (lv_at hl 0 rfl) ?_
    refine w_get C hw uw_X6 0 rO rfl 5 (by decide) fl_X6_22 rfl dX6_noTests_25 ?_
    refine lv_iload_n hx hb dX6_noTests_28 rfl (lv_at hl 1 rfl) ?_
    obtain ⟨hin, hq⟩ := hq
    refine w_ild C hw 5 0 rI_4 rfl hin dX6_noTests_29 ?_
    refine lv_if_le (tgt := 68) hx hb dX6_noTests_30 (by decide) (fun hc => ?_) (fun hc => ?_)
    · replace hq := hq.1 hc
      exact hK S  _ _ _ hq hw (lv_sub hl [0, 1, 3] rfl)
    · replace hq := hq.2 hc
      refine lv_aload_n hx hb dX6_noTests_33 rfl (lv_at hl 0 rfl) ?_
      refine w_get C hw uw_X6 0 rO rfl 6 (by decide) fl_X6_25 rfl dX6_noTests_34 ?_
      refine lv_bipush (v := 12) hx hb dX6_noTests_37 (by decide) ?_
      refine lv_iload_n hx hb dX6_noTests_39 rfl (lv_at hl 1 rfl) ?_
      refine lv_imul hx hb dX6_noTests_40 ?_
      refine lv_aload_n hx hb dX6_noTests_41 rfl (lv_at hl 0 rfl) ?_
      refine w_get C hw uw_X6 0 rO rfl 5 (by decide) fl_X6_22 rfl dX6_noTests_42 ?_
      refine lv_iload_n hx hb dX6_noTests_45 rfl (lv_at hl 1 rfl) ?_
      obtain ⟨hin, hq⟩ := hq
      refine w_ild C hw 5 0 rI_4 rfl hin dX6_noTests_46 ?_
      refine lv_iadd hx hb dX6_noTests_47 ?_
      refine lv_iconst (v := 1) hx hb dX6_noTests_48 (by decide) ?_
      refine lv_isub hx hb dX6_noTests_49 ?_
      obtain ⟨hin, hq⟩ := hq
      refine w_ild C hw 6 0 rI_5 rfl hin dX6_noTests_50 ?_
      refine lv_iload_n hx hb dX6_noTests_51 rfl (lv_at hl 2 rfl) ?_
      refine lv_icmp_lt (tgt := 68) hx hb dX6_noTests_52 (by decide) (fun hc => ?_) (fun hc => ?_)
      · replace hq := hq.1 hc
        exact hK S  _ _ _ hq hw (lv_sub hl [0, 1, 3] rfl)
      · replace hq := hq.2 hc
        refine lv_aload_n hx hb dX6_noTests_55 rfl (lv_at hl 0 rfl) ?_
        refine w_get C hw uw_X6 0 rO rfl 5 (by decide) fl_X6_22 rfl dX6_noTests_56 ?_
        refine lv_iload_n hx hb dX6_noTests_59 rfl (lv_at hl 1 rfl) ?_
        refine lv_dup2_11 hx hb dX6_noTests_60 rfl rfl ?_
        obtain ⟨hin, hq⟩ := hq
        refine w_ild C hw 5 0 rI_4 rfl hin dX6_noTests_61 ?_
        refine lv_iconst (v := 1) hx hb dX6_noTests_62 (by decide) ?_
        refine lv_isub hx hb dX6_noTests_63 ?_
        obtain ⟨hin, hq⟩ := hq
        obtain ⟨S_1, eS_1⟩ : ∃ z, z = uI S 4 x1.toNatClampNeg ((S.1 4 x1.toNatClampNeg) - 1) := ⟨_, rfl⟩
        replace hq := hq S_1 eS_1
        refine w_ist (ws' := rw_ ad cI cL S_1) C hw 5 0 rI_4 rfl hin dX6_noTests_64 (by rw [eS_1]; exact rIs_4) (fun H locs hw => ?_)
        refine lv_goto (tgt := 24) hx hb dX6_noTests_65 (by decide) ?_
        exact ih S_1  hq _ _ _ hw (lv_sub hl [0, 1, 2, 3] rfl)
set_option maxHeartbeats 4000000 in
set_option maxRecDepth 100000 in
theorem mX6_noTests (l : Launch) (D : va_G) (ad : Nat → Nat) (cI cL : ClassId) (S : MS) (x1 : Int32) (x2 : Int32) (Q : Int32 → MS → Prop) (hq : wX6_noTests S x1 x2 Q) : Mi l yX6_noTests cX6_noTests 4 (some .int) { frames := 2, cells := 0, slots := 0, locals := 46 } D (rtys cI cL) (rw_ ad cI cL) [.ref (ad 0), .int x1, .int x2] S Q := by
  refine Mi.of (by decide +kernel) (Nat.le_of_ble_eq_true rfl) ?_
  intro p e s m args below meth c A ls C hw hl
  have hx := C.1
  have hb := C.2.1
  have hl : lv_has ls 4 [(0, .ref (ad 0)), (1, .int x1), (2, .int x2)] := hl
  have hw : WW D (rtys cI cL) (rw_ ad cI cL S) A s s.heap [] := hw
  unfold wX6_noTests at hq
  refine lv_aload_n hx hb dX6_noTests_0 rfl (lv_at hl 0 rfl) ?_
  refine lv_iload_n hx hb dX6_noTests_1 rfl (lv_at hl 1 rfl) ?_
  refine w_calli hw (w_runV (rest := []) C hw (mX6_isPart l D ad cI cL S x1 _ hq _) kc_X6_isPart ml_X6_89 0 rO rfl rfl ⟨rfl, rfl, Nat.le_of_ble_eq_true rfl, Nat.le_of_ble_eq_true rfl⟩ rfl rfl (Nat.le_of_ble_eq_true rfl) hl.1 dX6_noTests_2) ?_
  clear hw hq
  intro r_2 S_1 H locs hq hw
  refine lv_if_eq (tgt := 15) hx hb dX6_noTests_5 (by decide) (fun hc => ?_) (fun hc => ?_)
  · replace hq := hq.1 hc
    refine lv_iconst (v := (-1)) hx hb dX6_noTests_15 (by decide) ?_
    exact w_iret C hw hq dX6_noTests_16
  · replace hq := hq.2 hc
    refine lv_iload_n hx hb dX6_noTests_8 rfl (lv_at hl 2 rfl) ?_
    refine w_calli hw (w_runS (rest := []) C hw (mX6_isDay l D ad cI cL S_1 x2 _ hq _) kc_X6_isDay ml_X6_93 ⟨rfl, rfl, Nat.le_of_ble_eq_true rfl, Nat.le_of_ble_eq_true rfl⟩ rfl rfl (Nat.le_of_ble_eq_true rfl) hl.1 dX6_noTests_9) ?_
    clear hw hq
    intro r_4 S_3 H locs hq hw
    refine lv_if_ne (tgt := 17) hx hb dX6_noTests_12 (by decide) (fun hc => ?_) (fun hc => ?_)
    · replace hq := hq.2 hc
      refine lv_aload_n hx hb dX6_noTests_17 rfl (lv_at hl 0 rfl) ?_
      refine w_get C hw uw_X6 0 rO rfl 5 (by decide) fl_X6_22 rfl dX6_noTests_18 ?_
      refine lv_iload_n hx hb dX6_noTests_21 rfl (lv_at hl 1 rfl) ?_
      obtain ⟨hin, hq⟩ := hq
      refine w_ild C hw 5 0 rI_4 rfl hin dX6_noTests_22 ?_
      refine lv_istore_n (lv' := [(3, .int (S_3.1 4 x1.toNatClampNeg)), (0, .ref (ad 0)), (1, .int x1), (2, .int x2)]) hx hb dX6_noTests_23 rfl hl (by decide) rfl (fun ls hl => ?_)
      obtain ⟨n0, hq⟩ := hq
      refine kLX6_noTests_24 C x1 x2 (S_3.1 4 x1.toNatClampNeg) _ Q ?_ n0 S_3 hq _ _ _ hw (lv_sub hl [1, 2, 3, 0] rfl)
      clear hw hl hq
      intro S_5 H locs ls hq hw hl
      refine lv_iload_n hx hb dX6_noTests_68 rfl (lv_at hl 2 rfl) ?_
      refine lv_aload_n hx hb dX6_noTests_69 rfl (lv_at hl 0 rfl) ?_
      refine w_get C hw uw_X6 0 rO rfl 5 (by decide) fl_X6_22 rfl dX6_noTests_70 ?_
      refine lv_iload_n hx hb dX6_noTests_73 rfl (lv_at hl 1 rfl) ?_
      obtain ⟨hin, hq⟩ := hq
      refine w_ild C hw 5 0 rI_4 rfl hin dX6_noTests_74 ?_
      refine lv_isub hx hb dX6_noTests_75 ?_
      exact w_iret C hw hq dX6_noTests_76
    · replace hq := hq.1 hc
      refine lv_iconst (v := (-1)) hx hb dX6_noTests_15 (by decide) ?_
      exact w_iret C hw hq dX6_noTests_16
set_option maxHeartbeats 4000000 in
set_option maxRecDepth 100000 in
theorem mX6_areDays (l : Launch) (D : va_G) (ad : Nat → Nat) (cI cL : ClassId) (S : MS) (x0 : Int32) (x1 : Int32) (Q : Int32 → MS → Prop) (hq : wX6_areDays S x0 x1 Q) : Mi l yX6_areDays cX6_areDays 2 (some .boolean) { frames := 2, cells := 0, slots := 0, locals := 45 } D (rtys cI cL) (rw_ ad cI cL) [.int x0, .int x1] S Q := by
  refine Mi.of (by decide +kernel) (Nat.le_of_ble_eq_true rfl) ?_
  intro p e s m args below meth c A ls C hw hl
  have hx := C.1
  have hb := C.2.1
  have hl : lv_has ls 2 [(0, .int x0), (1, .int x1)] := hl
  have hw : WW D (rtys cI cL) (rw_ ad cI cL S) A s s.heap [] := hw
  unfold wX6_areDays at hq
  refine lv_iload_n hx hb dX6_areDays_0 rfl (lv_at hl 0 rfl) ?_
  refine w_calli hw (w_runS (rest := []) C hw (mX6_isDay l D ad cI cL S x0 _ hq _) kc_X6_isDay ml_X6_93 ⟨rfl, rfl, Nat.le_of_ble_eq_true rfl, Nat.le_of_ble_eq_true rfl⟩ rfl rfl (Nat.le_of_ble_eq_true rfl) hl.1 dX6_areDays_1) ?_
  clear hw hq
  intro r_2 S_1 H locs hq hw
  refine lv_if_eq (tgt := 23) hx hb dX6_areDays_4 (by decide) (fun hc => ?_) (fun hc => ?_)
  · replace hq := hq.1 hc
    refine lv_iconst (v := 0) hx hb dX6_areDays_23 (by decide) ?_
    exact w_zret C hw rfl hq dX6_areDays_24
  · replace hq := hq.2 hc
    refine lv_iload_n hx hb dX6_areDays_7 rfl (lv_at hl 1 rfl) ?_
    refine w_calli hw (w_runS (rest := []) C hw (mX6_isDay l D ad cI cL S_1 x1 _ hq _) kc_X6_isDay ml_X6_93 ⟨rfl, rfl, Nat.le_of_ble_eq_true rfl, Nat.le_of_ble_eq_true rfl⟩ rfl rfl (Nat.le_of_ble_eq_true rfl) hl.1 dX6_areDays_8) ?_
    clear hw hq
    intro r_4 S_3 H locs hq hw
    refine lv_if_eq (tgt := 23) hx hb dX6_areDays_11 (by decide) (fun hc => ?_) (fun hc => ?_)
    · replace hq := hq.1 hc
      refine lv_iconst (v := 0) hx hb dX6_areDays_23 (by decide) ?_
      exact w_zret C hw rfl hq dX6_areDays_24
    · replace hq := hq.2 hc
      refine lv_iload_n hx hb dX6_areDays_14 rfl (lv_at hl 0 rfl) ?_
      refine lv_iload_n hx hb dX6_areDays_15 rfl (lv_at hl 1 rfl) ?_
      refine lv_icmp_gt (tgt := 23) hx hb dX6_areDays_16 (by decide) (fun hc => ?_) (fun hc => ?_)
      · replace hq := hq.1 hc
        refine lv_iconst (v := 0) hx hb dX6_areDays_23 (by decide) ?_
        exact w_zret C hw rfl hq dX6_areDays_24
      · replace hq := hq.2 hc
        refine lv_iconst (v := 1) hx hb dX6_areDays_19 (by decide) ?_
        refine lv_goto (tgt := 24) hx hb dX6_areDays_20 (by decide) ?_
        exact w_zret C hw rfl hq dX6_areDays_24
set_option maxHeartbeats 4000000 in
set_option maxRecDepth 100000 in
theorem mX6_bypass (l : Launch) (D : va_G) (ad : Nat → Nat) (cI cL : ClassId) (S : MS) (x1 : Int32) (x2 : Int32) (x3 : Int32) (Q : Int32 → MS → Prop) (hq : wX6_bypass S x1 x2 x3 Q) : Mi l yX6_bypass cX6_bypass 4 (some .int) { frames := 3, cells := 0, slots := 0, locals := 66 } D (rtys cI cL) (rw_ ad cI cL) [.ref (ad 0), .int x1, .int x2, .int x3] S Q := by
  refine Mi.of (by decide +kernel) (Nat.le_of_ble_eq_true rfl) ?_
  intro p e s m args below meth c A ls C hw hl
  have hx := C.1
  have hb := C.2.1
  have hl : lv_has ls 4 [(0, .ref (ad 0)), (1, .int x1), (2, .int x2), (3, .int x3)] := hl
  have hw : WW D (rtys cI cL) (rw_ ad cI cL S) A s s.heap [] := hw
  unfold wX6_bypass at hq
  refine lv_aload_n hx hb dX6_bypass_0 rfl (lv_at hl 0 rfl) ?_
  refine lv_iload_n hx hb dX6_bypass_1 rfl (lv_at hl 1 rfl) ?_
  refine w_calli hw (w_runV (rest := []) C hw (mX6_isPart l D ad cI cL S x1 _ hq _) kc_X6_isPart ml_X6_89 0 rO rfl rfl ⟨rfl, rfl, Nat.le_of_ble_eq_true rfl, Nat.le_of_ble_eq_true rfl⟩ rfl rfl (Nat.le_of_ble_eq_true rfl) hl.1 dX6_bypass_2) ?_
  clear hw hq
  intro r_2 S_1 H locs hq hw
  refine lv_if_eq (tgt := 16) hx hb dX6_bypass_5 (by decide) (fun hc => ?_) (fun hc => ?_)
  · replace hq := hq.1 hc
    refine lv_iconst (v := (-1)) hx hb dX6_bypass_16 (by decide) ?_
    exact w_iret C hw hq dX6_bypass_17
  · replace hq := hq.2 hc
    refine lv_iload_n hx hb dX6_bypass_8 rfl (lv_at hl 2 rfl) ?_
    refine lv_iload_n hx hb dX6_bypass_9 rfl (lv_at hl 3 rfl) ?_
    refine w_calli hw (w_runS (rest := []) C hw (mX6_areDays l D ad cI cL S_1 x2 x3 _ hq _) kc_X6_areDays ml_X6_96 ⟨rfl, rfl, Nat.le_of_ble_eq_true rfl, Nat.le_of_ble_eq_true rfl⟩ rfl rfl (Nat.le_of_ble_eq_true rfl) hl.1 dX6_bypass_10) ?_
    clear hw hq
    intro r_4 S_3 H locs hq hw
    refine lv_if_ne (tgt := 18) hx hb dX6_bypass_13 (by decide) (fun hc => ?_) (fun hc => ?_)
    · replace hq := hq.2 hc
      refine lv_aload_n hx hb dX6_bypass_18 rfl (lv_at hl 0 rfl) ?_
      refine w_get C hw uw_X6 0 rO rfl 9 (by decide) fl_X6_100 rfl dX6_bypass_19 ?_
      refine lv_bipush (v := 20) hx hb dX6_bypass_22 (by decide) ?_
      refine lv_icmp_ne (tgt := 30) hx hb dX6_bypass_24 (by decide) (fun hc => ?_) (fun hc => ?_)
      · replace hq := hq.2 hc
        refine lv_aload_n hx hb dX6_bypass_30 rfl (lv_at hl 0 rfl) ?_
        refine w_get C hw uw_X6 0 rO rfl 10 (by decide) fl_X6_34 rfl dX6_bypass_31 ?_
        refine lv_aload_n hx hb dX6_bypass_34 rfl (lv_at hl 0 rfl) ?_
        refine w_get C hw uw_X6 0 rO rfl 9 (by decide) fl_X6_100 rfl dX6_bypass_35 ?_
        refine lv_iload_n hx hb dX6_bypass_38 rfl (lv_at hl 1 rfl) ?_
        obtain ⟨hin, hq⟩ := hq
        obtain ⟨S_5, eS_5⟩ : ∃ z, z = uI S_3 8 (S_3.2.2 1).toNatClampNeg x1 := ⟨_, rfl⟩
        replace hq := hq S_5 eS_5
        refine w_ist (ws' := rw_ ad cI cL S_5) C hw 9 0 rI_8 rfl hin dX6_bypass_39 (by rw [eS_5]; exact rIs_8) (fun H locs hw => ?_)
        refine lv_aload_n hx hb dX6_bypass_40 rfl (lv_at hl 0 rfl) ?_
        refine w_get C hw uw_X6 0 rO rfl 11 (by decide) fl_X6_37 rfl dX6_bypass_41 ?_
        refine lv_aload_n hx hb dX6_bypass_44 rfl (lv_at hl 0 rfl) ?_
        refine w_get C hw uw_X6 0 rO rfl 9 (by decide) fl_X6_100 rfl dX6_bypass_45 ?_
        refine lv_iload_n hx hb dX6_bypass_48 rfl (lv_at hl 2 rfl) ?_
        obtain ⟨hin, hq⟩ := hq
        obtain ⟨S_6, eS_6⟩ : ∃ z, z = uI S_5 9 (S_5.2.2 1).toNatClampNeg x2 := ⟨_, rfl⟩
        replace hq := hq S_6 eS_6
        refine w_ist (ws' := rw_ ad cI cL S_6) C hw 10 0 rI_9 rfl hin dX6_bypass_49 (by rw [eS_6]; exact rIs_9) (fun H locs hw => ?_)
        refine lv_aload_n hx hb dX6_bypass_50 rfl (lv_at hl 0 rfl) ?_
        refine w_get C hw uw_X6 0 rO rfl 12 (by decide) fl_X6_40 rfl dX6_bypass_51 ?_
        refine lv_aload_n hx hb dX6_bypass_54 rfl (lv_at hl 0 rfl) ?_
        refine w_get C hw uw_X6 0 rO rfl 9 (by decide) fl_X6_100 rfl dX6_bypass_55 ?_
        refine lv_iload_n hx hb dX6_bypass_58 rfl (lv_at hl 3 rfl) ?_
        obtain ⟨hin, hq⟩ := hq
        obtain ⟨S_7, eS_7⟩ : ∃ z, z = uI S_6 10 (S_6.2.2 1).toNatClampNeg x3 := ⟨_, rfl⟩
        replace hq := hq S_7 eS_7
        refine w_ist (ws' := rw_ ad cI cL S_7) C hw 11 0 rI_10 rfl hin dX6_bypass_59 (by rw [eS_7]; exact rIs_10) (fun H locs hw => ?_)
        refine lv_aload_n hx hb dX6_bypass_60 rfl (lv_at hl 0 rfl) ?_
        refine lv_dup hx hb dX6_bypass_61 rfl ?_
        refine w_get C hw uw_X6 0 rO rfl 9 (by decide) fl_X6_100 rfl dX6_bypass_62 ?_
        refine lv_iconst (v := 1) hx hb dX6_bypass_65 (by decide) ?_
        refine lv_iadd hx hb dX6_bypass_66 ?_
        obtain ⟨S_8, eS_8⟩ : ∃ z, z = uF S_7 1 ((S_7.2.2 1) + 1) := ⟨_, rfl⟩
        replace hq := hq S_8 eS_8
        refine w_put (ws' := rw_ ad cI cL S_8) C hw uw_X6 tyX6 tyX6_ok nmX6 0 rO rfl 9 (by decide) fl_X6_100 rfl (by decide +kernel) (Nat.le_of_ble_eq_true rfl) dX6_bypass_67 (by rw [eS_8]; exact rFs_1) (fun H locs hw => ?_)
        refine lv_aload_n hx hb dX6_bypass_70 rfl (lv_at hl 0 rfl) ?_
        refine w_get C hw uw_X6 0 rO rfl 9 (by decide) fl_X6_100 rfl dX6_bypass_71 ?_
        exact w_iret C hw hq dX6_bypass_74
      · replace hq := hq.1 hc
        refine lv_bipush (v := (-3)) hx hb dX6_bypass_27 (by decide) ?_
        exact w_iret C hw hq dX6_bypass_29
    · replace hq := hq.1 hc
      refine lv_iconst (v := (-1)) hx hb dX6_bypass_16 (by decide) ?_
      exact w_iret C hw hq dX6_bypass_17
set_option maxHeartbeats 4000000 in
set_option maxRecDepth 100000 in
theorem kJX6_isBypassed_58 {p : Program} {l : Launch} {e : Env} {s : State} {m : MethodId} {args : Array Value} {below : List Frame} {meth : Method} {c : Code} {D : va_G} {ad : Nat → Nat} {cI cL : ClassId} {A : Nat → Prop} (C : Cx p s m args meth c yX6_isBypassed.cls cX6_isBypassed 5 (some .boolean)) (S : MS) (x1 : Int32) (x2 : Int32) (x4 : Int32) (t0 : Int32) (Hd : MS → Int32 → Int32 → Prop) (K : MS → Int32 → Prop) (Q : Int32 → MS → Prop) (hq : JX6_isBypassed_58 S x1 x2 x4 t0 Hd K Q) (H : Heap) (locs : List Loc) (ls : Array Slot) (hw : WW D (rtys cI cL) (rw_ ad cI cL S) A s H locs) (hl : lv_has ls 5 [(0, .ref (ad 0)), (1, .int x1), (2, .int x2), (4, .int x4)]) (hH : ∀ (S : MS) (z3 : Int32) (z4 : Int32) (H : Heap) (locs : List Loc) (ls : Array Slot), Hd S z3 z4 → WW D (rtys cI cL) (rw_ ad cI cL S) A s H locs → lv_has ls 5 [(0, .ref (ad 0)), (1, .int x1), (2, .int x2), (3, .int z3), (4, .int z4)] → W p l e { frames := 1, cells := 0, slots := 0, locals := 25 } s m args below meth c H locs 0 0 (Zi D (rtys cI cL) (rw_ ad cI cL) A below args s Q) (F0 m 5 ls [])) (hK : ∀ (S : MS) (z3 : Int32) (H : Heap) (locs : List Loc) (ls : Array Slot), K S z3 → WW D (rtys cI cL) (rw_ ad cI cL S) A s H locs → lv_has ls 5 [(3, .int z3)] → W p l e { frames := 1, cells := 0, slots := 0, locals := 25 } s m args below meth c H locs 0 0 (Zi D (rtys cI cL) (rw_ ad cI cL) A below args s Q) (F0 m 65 ls [])) : W p l e { frames := 1, cells := 0, slots := 0, locals := 25 } s m args below meth c H locs 0 0 (Zi D (rtys cI cL) (rw_ ad cI cL) A below args s Q) (F0 m 58 ls [.int t0]) := by
  have hx := C.1
  have hb := C.2.1
  unfold JX6_isBypassed_58 at hq
  refine lv_istore_n (lv' := [(3, .int t0), (0, .ref (ad 0)), (1, .int x1), (2, .int x2), (4, .int x4)]) hx hb dX6_isBypassed_58 rfl hl (by decide) rfl (fun ls hl => ?_)
  refine lv_iinc (v := x4 + 1) (lv' := [(4, .int (x4 + 1)), (3, .int t0), (0, .ref (ad 0)), (1, .int x1), (2, .int x2)]) hx hb dX6_isBypassed_59 hl (k := 4) rfl rfl (by decide) rfl (fun ls hl => ?_)
  refine lv_goto (tgt := 5) hx hb dX6_isBypassed_62 (by decide) ?_
  exact hH S t0 (x4 + 1) _ _ _ hq hw (lv_sub hl [2, 3, 4, 1, 0] rfl)
set_option maxHeartbeats 4000000 in
set_option maxRecDepth 100000 in
theorem kJX6_isBypassed_53 {p : Program} {l : Launch} {e : Env} {s : State} {m : MethodId} {args : Array Value} {below : List Frame} {meth : Method} {c : Code} {D : va_G} {ad : Nat → Nat} {cI cL : ClassId} {A : Nat → Prop} (C : Cx p s m args meth c yX6_isBypassed.cls cX6_isBypassed 5 (some .boolean)) (S : MS) (x1 : Int32) (x2 : Int32) (x4 : Int32) (Hd : MS → Int32 → Int32 → Prop) (K : MS → Int32 → Prop) (Q : Int32 → MS → Prop) (hq : JX6_isBypassed_53 S x1 x2 x4 Hd K Q) (H : Heap) (locs : List Loc) (ls : Array Slot) (hw : WW D (rtys cI cL) (rw_ ad cI cL S) A s H locs) (hl : lv_has ls 5 [(0, .ref (ad 0)), (1, .int x1), (2, .int x2), (4, .int x4)]) (hH : ∀ (S : MS) (z3 : Int32) (z4 : Int32) (H : Heap) (locs : List Loc) (ls : Array Slot), Hd S z3 z4 → WW D (rtys cI cL) (rw_ ad cI cL S) A s H locs → lv_has ls 5 [(0, .ref (ad 0)), (1, .int x1), (2, .int x2), (3, .int z3), (4, .int z4)] → W p l e { frames := 1, cells := 0, slots := 0, locals := 25 } s m args below meth c H locs 0 0 (Zi D (rtys cI cL) (rw_ ad cI cL) A below args s Q) (F0 m 5 ls [])) (hK : ∀ (S : MS) (z3 : Int32) (H : Heap) (locs : List Loc) (ls : Array Slot), K S z3 → WW D (rtys cI cL) (rw_ ad cI cL S) A s H locs → lv_has ls 5 [(3, .int z3)] → W p l e { frames := 1, cells := 0, slots := 0, locals := 25 } s m args below meth c H locs 0 0 (Zi D (rtys cI cL) (rw_ ad cI cL) A below args s Q) (F0 m 65 ls [])) : W p l e { frames := 1, cells := 0, slots := 0, locals := 25 } s m args below meth c H locs 0 0 (Zi D (rtys cI cL) (rw_ ad cI cL) A below args s Q) (F0 m 53 ls []) := by
  have hx := C.1
  have hb := C.2.1
  unfold JX6_isBypassed_53 at hq
  refine lv_iconst (v := 1) hx hb dX6_isBypassed_53 (by decide) ?_
  refine lv_goto (tgt := 58) hx hb dX6_isBypassed_54 (by decide) ?_
  exact kJX6_isBypassed_58 C S x1 x2 x4 1 Hd K Q hq _ _ _ hw (lv_sub hl [0, 1, 2, 3] rfl) hH hK
set_option maxHeartbeats 4000000 in
set_option maxRecDepth 100000 in
theorem kJX6_isBypassed_57 {p : Program} {l : Launch} {e : Env} {s : State} {m : MethodId} {args : Array Value} {below : List Frame} {meth : Method} {c : Code} {D : va_G} {ad : Nat → Nat} {cI cL : ClassId} {A : Nat → Prop} (C : Cx p s m args meth c yX6_isBypassed.cls cX6_isBypassed 5 (some .boolean)) (S : MS) (x1 : Int32) (x2 : Int32) (x4 : Int32) (Hd : MS → Int32 → Int32 → Prop) (K : MS → Int32 → Prop) (Q : Int32 → MS → Prop) (hq : JX6_isBypassed_57 S x1 x2 x4 Hd K Q) (H : Heap) (locs : List Loc) (ls : Array Slot) (hw : WW D (rtys cI cL) (rw_ ad cI cL S) A s H locs) (hl : lv_has ls 5 [(0, .ref (ad 0)), (1, .int x1), (2, .int x2), (4, .int x4)]) (hH : ∀ (S : MS) (z3 : Int32) (z4 : Int32) (H : Heap) (locs : List Loc) (ls : Array Slot), Hd S z3 z4 → WW D (rtys cI cL) (rw_ ad cI cL S) A s H locs → lv_has ls 5 [(0, .ref (ad 0)), (1, .int x1), (2, .int x2), (3, .int z3), (4, .int z4)] → W p l e { frames := 1, cells := 0, slots := 0, locals := 25 } s m args below meth c H locs 0 0 (Zi D (rtys cI cL) (rw_ ad cI cL) A below args s Q) (F0 m 5 ls [])) (hK : ∀ (S : MS) (z3 : Int32) (H : Heap) (locs : List Loc) (ls : Array Slot), K S z3 → WW D (rtys cI cL) (rw_ ad cI cL S) A s H locs → lv_has ls 5 [(3, .int z3)] → W p l e { frames := 1, cells := 0, slots := 0, locals := 25 } s m args below meth c H locs 0 0 (Zi D (rtys cI cL) (rw_ ad cI cL) A below args s Q) (F0 m 65 ls [])) : W p l e { frames := 1, cells := 0, slots := 0, locals := 25 } s m args below meth c H locs 0 0 (Zi D (rtys cI cL) (rw_ ad cI cL) A below args s Q) (F0 m 57 ls []) := by
  have hx := C.1
  have hb := C.2.1
  unfold JX6_isBypassed_57 at hq
  refine lv_iconst (v := 0) hx hb dX6_isBypassed_57 (by decide) ?_
  exact kJX6_isBypassed_58 C S x1 x2 x4 0 Hd K Q hq _ _ _ hw (lv_sub hl [0, 1, 2, 3] rfl) hH hK
set_option maxHeartbeats 4000000 in
set_option maxRecDepth 100000 in
theorem kLX6_isBypassed_5 {p : Program} {l : Launch} {e : Env} {s : State} {m : MethodId} {args : Array Value} {below : List Frame} {meth : Method} {c : Code} {D : va_G} {ad : Nat → Nat} {cI cL : ClassId} {A : Nat → Prop} (C : Cx p s m args meth c yX6_isBypassed.cls cX6_isBypassed 5 (some .boolean)) (x1 : Int32) (x2 : Int32) (K : MS → Int32 → Prop) (Q : Int32 → MS → Prop) (hK : ∀ (S : MS) (z3 : Int32) (H : Heap) (locs : List Loc) (ls : Array Slot), K S z3 → WW D (rtys cI cL) (rw_ ad cI cL S) A s H locs → lv_has ls 5 [(3, .int z3)] → W p l e { frames := 1, cells := 0, slots := 0, locals := 25 } s m args below meth c H locs 0 0 (Zi D (rtys cI cL) (rw_ ad cI cL) A below args s Q) (F0 m 65 ls [])) : ∀ (n : Nat) (S : MS) (x3 : Int32) (x4 : Int32) (_ : LX6_isBypassed_5 x1 x2 K Q n S x3 x4) (H : Heap) (locs : List Loc) (ls : Array Slot), WW D (rtys cI cL) (rw_ ad cI cL S) A s H locs → lv_has ls 5 [(0, .ref (ad 0)), (1, .int x1), (2, .int x2), (3, .int x3), (4, .int x4)] → W p l e { frames := 1, cells := 0, slots := 0, locals := 25 } s m args below meth c H locs 0 0 (Zi D (rtys cI cL) (rw_ ad cI cL) A below args s Q) (F0 m 5 ls []) := by
  have hx := C.1
  have hb := C.2.1
  intro n
  induction n with
  | zero => intro S x3 x4 hq; exact absurd hq (by rw [LX6_isBypassed_5]; exact id)
  | succ n ih =>
    intro S x3 x4 hq H locs ls hw hl
    rw [LX6_isBypassed_5] at hq
    refine lv_iload hx hb dX6_isBypassed_5 (lv_at hl 4 rfl) ?_
    refine lv_aload_n hx hb dX6_isBypassed_7 rfl (lv_at hl 0 rfl) ?_
    refine w_get C hw uw_X6 0 rO rfl 9 (by decide) fl_X6_100 rfl dX6_isBypassed_8 ?_
    refine lv_icmp_ge (tgt := 65) hx hb dX6_isBypassed_11 (by decide) (fun hc => ?_) (fun hc => ?_)
    · replace hq := hq.1 hc
      exact hK S x3 _ _ _ hq hw (lv_sub hl [3] rfl)
    · replace hq := hq.2 hc
      refine lv_iload_n hx hb dX6_isBypassed_14 rfl (lv_at hl 3 rfl) ?_
      refine lv_if_ne (tgt := 53) hx hb dX6_isBypassed_15 (by decide) (fun hc => ?_) (fun hc => ?_)
      · replace hq := hq.2 hc
        exact kJX6_isBypassed_53 C S x1 x2 x4 _ K Q hq _ _ _ hw (lv_sub hl [0, 1, 2, 4] rfl) (fun S a3 a4 H locs ls hq hw hl => ih S a3 a4 hq H locs ls hw hl) hK
      · replace hq := hq.1 hc
        refine lv_aload_n hx hb dX6_isBypassed_18 rfl (lv_at hl 0 rfl) ?_
        refine w_get C hw uw_X6 0 rO rfl 10 (by decide) fl_X6_34 rfl dX6_isBypassed_19 ?_
        refine lv_iload hx hb dX6_isBypassed_22 (lv_at hl 4 rfl) ?_
        obtain ⟨hin, hq⟩ := hq
        refine w_ild C hw 9 0 rI_8 rfl hin dX6_isBypassed_24 ?_
        refine lv_iload_n hx hb dX6_isBypassed_25 rfl (lv_at hl 1 rfl) ?_
        refine lv_icmp_ne (tgt := 57) hx hb dX6_isBypassed_26 (by decide) (fun hc => ?_) (fun hc => ?_)
        · replace hq := hq.2 hc
          exact kJX6_isBypassed_57 C S x1 x2 x4 _ K Q hq _ _ _ hw (lv_sub hl [0, 1, 2, 4] rfl) (fun S a3 a4 H locs ls hq hw hl => ih S a3 a4 hq H locs ls hw hl) hK
        · replace hq := hq.1 hc
          refine lv_iload_n hx hb dX6_isBypassed_29 rfl (lv_at hl 2 rfl) ?_
          refine lv_i2l (v := x2.toInt64) hx hb dX6_isBypassed_30 rfl ?_
          refine lv_aload_n hx hb dX6_isBypassed_31 rfl (lv_at hl 0 rfl) ?_
          refine w_get C hw uw_X6 0 rO rfl 11 (by decide) fl_X6_37 rfl dX6_isBypassed_32 ?_
          refine lv_iload hx hb dX6_isBypassed_35 (lv_at hl 4 rfl) ?_
          obtain ⟨hin, hq⟩ := hq
          refine w_ild C hw 10 0 rI_9 rfl hin dX6_isBypassed_37 ?_
          refine lv_i2l (v := (S.1 9 x4.toNatClampNeg).toInt64) hx hb dX6_isBypassed_38 rfl ?_
          refine lv_aload_n hx hb dX6_isBypassed_39 rfl (lv_at hl 0 rfl) ?_
          refine w_get C hw uw_X6 0 rO rfl 12 (by decide) fl_X6_40 rfl dX6_isBypassed_40 ?_
          refine lv_iload hx hb dX6_isBypassed_43 (lv_at hl 4 rfl) ?_
          obtain ⟨hin, hq⟩ := hq
          refine w_ild C hw 11 0 rI_10 rfl hin dX6_isBypassed_45 ?_
          refine lv_i2l (v := (S.1 10 x4.toNatClampNeg).toInt64) hx hb dX6_isBypassed_46 rfl ?_
          refine w_calli hw (w_runS (rest := []) C hw (mX6_in l D ad cI cL S x2.toInt64 ((S.1 9 x4.toNatClampNeg).toInt64) ((S.1 10 x4.toNatClampNeg).toInt64) _ hq _) kc_X6_in ml_X6_78 ⟨rfl, rfl, Nat.le_of_ble_eq_true rfl, Nat.le_of_ble_eq_true rfl⟩ rfl rfl (Nat.le_of_ble_eq_true rfl) hl.1 dX6_isBypassed_47) ?_
          clear hw hq
          intro r_2 S_1 H locs hq hw
          refine lv_if_eq (tgt := 57) hx hb dX6_isBypassed_50 (by decide) (fun hc => ?_) (fun hc => ?_)
          · replace hq := hq.1 hc
            exact kJX6_isBypassed_57 C S_1 x1 x2 x4 _ K Q hq _ _ _ hw (lv_sub hl [0, 1, 2, 4] rfl) (fun S a3 a4 H locs ls hq hw hl => ih S a3 a4 hq H locs ls hw hl) hK
          · replace hq := hq.2 hc
            exact kJX6_isBypassed_53 C S_1 x1 x2 x4 _ K Q hq _ _ _ hw (lv_sub hl [0, 1, 2, 4] rfl) (fun S a3 a4 H locs ls hq hw hl => ih S a3 a4 hq H locs ls hw hl) hK
set_option maxHeartbeats 4000000 in
set_option maxRecDepth 100000 in
theorem mX6_isBypassed (l : Launch) (D : va_G) (ad : Nat → Nat) (cI cL : ClassId) (S : MS) (x1 : Int32) (x2 : Int32) (Q : Int32 → MS → Prop) (hq : wX6_isBypassed S x1 x2 Q) : Mi l yX6_isBypassed cX6_isBypassed 5 (some .boolean) { frames := 1, cells := 0, slots := 0, locals := 25 } D (rtys cI cL) (rw_ ad cI cL) [.ref (ad 0), .int x1, .int x2] S Q := by
  refine Mi.of (by decide +kernel) (Nat.le_of_ble_eq_true rfl) ?_
  intro p e s m args below meth c A ls C hw hl
  have hx := C.1
  have hb := C.2.1
  have hl : lv_has ls 5 [(0, .ref (ad 0)), (1, .int x1), (2, .int x2)] := hl
  have hw : WW D (rtys cI cL) (rw_ ad cI cL S) A s s.heap [] := hw
  unfold wX6_isBypassed at hq
  refine lv_iconst (v := 0) hx hb dX6_isBypassed_0 (by decide) ?_
  refine lv_istore_n (lv' := [(3, .int 0), (0, .ref (ad 0)), (1, .int x1), (2, .int x2)]) hx hb dX6_isBypassed_1 rfl hl (by decide) rfl (fun ls hl => ?_)
  refine lv_iconst (v := 0) hx hb dX6_isBypassed_2 (by decide) ?_
  refine lv_istore (lv' := [(4, .int 0), (3, .int 0), (0, .ref (ad 0)), (1, .int x1), (2, .int x2)]) hx hb dX6_isBypassed_3 hl (by decide) rfl (fun ls hl => ?_)
  obtain ⟨n0, hq⟩ := hq
  refine kLX6_isBypassed_5 C x1 x2 _ Q ?_ n0 S 0 0 hq _ _ _ hw (lv_sub hl [2, 3, 4, 1, 0] rfl)
  clear hw hl hq
  intro S_1 y_2 H locs ls hq hw hl
  refine lv_iload_n hx hb dX6_isBypassed_65 rfl (lv_at hl 0 rfl) ?_
  exact w_zret C hw hq.1 hq.2 dX6_isBypassed_66
set_option maxHeartbeats 4000000 in
set_option maxRecDepth 100000 in
theorem kJX6_bypassed_47 {p : Program} {l : Launch} {e : Env} {s : State} {m : MethodId} {args : Array Value} {below : List Frame} {meth : Method} {c : Code} {D : va_G} {ad : Nat → Nat} {cI cL : ClassId} {A : Nat → Prop} (C : Cx p s m args meth c yX6_bypassed.cls cX6_bypassed 6 (some .int)) (S : MS) (x1 : Int32) (x3 : Int32) (x5 : Int32) (t0 : Int32) (t1 : Int32) (Hd : MS → Int32 → Int32 → Prop) (K : MS → Int32 → Prop) (Q : Int32 → MS → Prop) (hq : JX6_bypassed_47 S x1 x3 x5 t0 t1 Hd K Q) (H : Heap) (locs : List Loc) (ls : Array Slot) (hw : WW D (rtys cI cL) (rw_ ad cI cL S) A s H locs) (hl : lv_has ls 6 [(0, .ref (ad 0)), (1, .int x1), (3, .int x3), (5, .int x5)]) (hH : ∀ (S : MS) (z4 : Int32) (z5 : Int32) (H : Heap) (locs : List Loc) (ls : Array Slot), Hd S z4 z5 → WW D (rtys cI cL) (rw_ ad cI cL S) A s H locs → lv_has ls 6 [(0, .ref (ad 0)), (1, .int x1), (3, .int x3), (4, .int z4), (5, .int z5)] → W p l e { frames := 3, cells := 0, slots := 0, locals := 66 } s m args below meth c H locs 0 0 (Zi D (rtys cI cL) (rw_ ad cI cL) A below args s Q) (F0 m 24 ls [])) (hK : ∀ (S : MS) (z4 : Int32) (H : Heap) (locs : List Loc) (ls : Array Slot), K S z4 → WW D (rtys cI cL) (rw_ ad cI cL S) A s H locs → lv_has ls 6 [(4, .int z4)] → W p l e { frames := 3, cells := 0, slots := 0, locals := 66 } s m args below meth c H locs 0 0 (Zi D (rtys cI cL) (rw_ ad cI cL) A below args s Q) (F0 m 56 ls [])) : W p l e { frames := 3, cells := 0, slots := 0, locals := 66 } s m args below meth c H locs 0 0 (Zi D (rtys cI cL) (rw_ ad cI cL) A below args s Q) (F0 m 47 ls [.int t1, .int t0]) := by
  have hx := C.1
  have hb := C.2.1
  unfold JX6_bypassed_47 at hq
  refine lv_iadd hx hb dX6_bypassed_47 ?_
  refine lv_istore (lv' := [(4, .int (t0 + t1)), (0, .ref (ad 0)), (1, .int x1), (3, .int x3), (5, .int x5)]) hx hb dX6_bypassed_48 hl (by decide) rfl (fun ls hl => ?_)
  refine lv_iinc (v := x5 + 1) (lv' := [(5, .int (x5 + 1)), (4, .int (t0 + t1)), (0, .ref (ad 0)), (1, .int x1), (3, .int x3)]) hx hb dX6_bypassed_50 hl (k := 4) rfl rfl (by decide) rfl (fun ls hl => ?_)
  refine lv_goto (tgt := 24) hx hb dX6_bypassed_53 (by decide) ?_
  exact hH S (t0 + t1) (x5 + 1) _ _ _ hq hw (lv_sub hl [2, 3, 4, 1, 0] rfl)
set_option maxHeartbeats 4000000 in
set_option maxRecDepth 100000 in
theorem kLX6_bypassed_24 {p : Program} {l : Launch} {e : Env} {s : State} {m : MethodId} {args : Array Value} {below : List Frame} {meth : Method} {c : Code} {D : va_G} {ad : Nat → Nat} {cI cL : ClassId} {A : Nat → Prop} (C : Cx p s m args meth c yX6_bypassed.cls cX6_bypassed 6 (some .int)) (x1 : Int32) (x3 : Int32) (K : MS → Int32 → Prop) (Q : Int32 → MS → Prop) (hK : ∀ (S : MS) (z4 : Int32) (H : Heap) (locs : List Loc) (ls : Array Slot), K S z4 → WW D (rtys cI cL) (rw_ ad cI cL S) A s H locs → lv_has ls 6 [(4, .int z4)] → W p l e { frames := 3, cells := 0, slots := 0, locals := 66 } s m args below meth c H locs 0 0 (Zi D (rtys cI cL) (rw_ ad cI cL) A below args s Q) (F0 m 56 ls [])) : ∀ (n : Nat) (S : MS) (x4 : Int32) (x5 : Int32) (_ : LX6_bypassed_24 x1 x3 K Q n S x4 x5) (H : Heap) (locs : List Loc) (ls : Array Slot), WW D (rtys cI cL) (rw_ ad cI cL S) A s H locs → lv_has ls 6 [(0, .ref (ad 0)), (1, .int x1), (3, .int x3), (4, .int x4), (5, .int x5)] → W p l e { frames := 3, cells := 0, slots := 0, locals := 66 } s m args below meth c H locs 0 0 (Zi D (rtys cI cL) (rw_ ad cI cL) A below args s Q) (F0 m 24 ls []) := by
  have hx := C.1
  have hb := C.2.1
  intro n
  induction n with
  | zero => intro S x4 x5 hq; exact absurd hq (by rw [LX6_bypassed_24]; exact id)
  | succ n ih =>
    intro S x4 x5 hq H locs ls hw hl
    rw [LX6_bypassed_24] at hq
    refine lv_iload hx hb dX6_bypassed_24 (lv_at hl 4 rfl) ?_
    refine lv_iload_n hx hb dX6_bypassed_26 rfl (lv_at hl 2 rfl) ?_
    refine lv_icmp_gt (tgt := 56) hx hb dX6_bypassed_27 (by decide) (fun hc => ?_) (fun hc => ?_)
    · replace hq := hq.1 hc
      exact hK S x4 _ _ _ hq hw (lv_sub hl [3] rfl)
    · replace hq := hq.2 hc
      refine lv_iload hx hb dX6_bypassed_30 (lv_at hl 3 rfl) ?_
      refine lv_aload_n hx hb dX6_bypassed_32 rfl (lv_at hl 0 rfl) ?_
      refine lv_iload_n hx hb dX6_bypassed_33 rfl (lv_at hl 1 rfl) ?_
      refine lv_iload hx hb dX6_bypassed_34 (lv_at hl 4 rfl) ?_
      refine w_calli hw (w_runV (rest := [.int x4]) C hw (mX6_isBypassed l D ad cI cL S x1 x5 _ hq _) kc_X6_isBypassed ml_X6_103 0 rO rfl rfl ⟨rfl, rfl, Nat.le_of_ble_eq_true rfl, Nat.le_of_ble_eq_true rfl⟩ rfl rfl (Nat.le_of_ble_eq_true rfl) hl.1 dX6_bypassed_36) ?_
      clear hw hq
      intro r_2 S_1 H locs hq hw
      refine lv_if_eq (tgt := 46) hx hb dX6_bypassed_39 (by decide) (fun hc => ?_) (fun hc => ?_)
      · replace hq := hq.1 hc
        refine lv_iconst (v := 0) hx hb dX6_bypassed_46 (by decide) ?_
        exact kJX6_bypassed_47 C S_1 x1 x3 x5 x4 0 _ K Q hq _ _ _ hw (lv_sub hl [0, 1, 2, 4] rfl) (fun S a4 a5 H locs ls hq hw hl => ih S a4 a5 hq H locs ls hw hl) hK
      · replace hq := hq.2 hc
        refine lv_iconst (v := 1) hx hb dX6_bypassed_42 (by decide) ?_
        refine lv_goto (tgt := 47) hx hb dX6_bypassed_43 (by decide) ?_
        exact kJX6_bypassed_47 C S_1 x1 x3 x5 x4 1 _ K Q hq _ _ _ hw (lv_sub hl [0, 1, 2, 4] rfl) (fun S a4 a5 H locs ls hq hw hl => ih S a4 a5 hq H locs ls hw hl) hK
set_option maxHeartbeats 4000000 in
set_option maxRecDepth 100000 in
theorem mX6_bypassed (l : Launch) (D : va_G) (ad : Nat → Nat) (cI cL : ClassId) (S : MS) (x1 : Int32) (x2 : Int32) (x3 : Int32) (Q : Int32 → MS → Prop) (hq : wX6_bypassed S x1 x2 x3 Q) : Mi l yX6_bypassed cX6_bypassed 6 (some .int) { frames := 3, cells := 0, slots := 0, locals := 66 } D (rtys cI cL) (rw_ ad cI cL) [.ref (ad 0), .int x1, .int x2, .int x3] S Q := by
  refine Mi.of (by decide +kernel) (Nat.le_of_ble_eq_true rfl) ?_
  intro p e s m args below meth c A ls C hw hl
  have hx := C.1
  have hb := C.2.1
  have hl : lv_has ls 6 [(0, .ref (ad 0)), (1, .int x1), (2, .int x2), (3, .int x3)] := hl
  have hw : WW D (rtys cI cL) (rw_ ad cI cL S) A s s.heap [] := hw
  unfold wX6_bypassed at hq
  refine lv_aload_n hx hb dX6_bypassed_0 rfl (lv_at hl 0 rfl) ?_
  refine lv_iload_n hx hb dX6_bypassed_1 rfl (lv_at hl 1 rfl) ?_
  refine w_calli hw (w_runV (rest := []) C hw (mX6_isPart l D ad cI cL S x1 _ hq _) kc_X6_isPart ml_X6_89 0 rO rfl rfl ⟨rfl, rfl, Nat.le_of_ble_eq_true rfl, Nat.le_of_ble_eq_true rfl⟩ rfl rfl (Nat.le_of_ble_eq_true rfl) hl.1 dX6_bypassed_2) ?_
  clear hw hq
  intro r_2 S_1 H locs hq hw
  refine lv_if_eq (tgt := 16) hx hb dX6_bypassed_5 (by decide) (fun hc => ?_) (fun hc => ?_)
  · replace hq := hq.1 hc
    refine lv_iconst (v := (-1)) hx hb dX6_bypassed_16 (by decide) ?_
    exact w_iret C hw hq dX6_bypassed_17
  · replace hq := hq.2 hc
    refine lv_iload_n hx hb dX6_bypassed_8 rfl (lv_at hl 2 rfl) ?_
    refine lv_iload_n hx hb dX6_bypassed_9 rfl (lv_at hl 3 rfl) ?_
    refine w_calli hw (w_runS (rest := []) C hw (mX6_areDays l D ad cI cL S_1 x2 x3 _ hq _) kc_X6_areDays ml_X6_96 ⟨rfl, rfl, Nat.le_of_ble_eq_true rfl, Nat.le_of_ble_eq_true rfl⟩ rfl rfl (Nat.le_of_ble_eq_true rfl) hl.1 dX6_bypassed_10) ?_
    clear hw hq
    intro r_4 S_3 H locs hq hw
    refine lv_if_ne (tgt := 18) hx hb dX6_bypassed_13 (by decide) (fun hc => ?_) (fun hc => ?_)
    · replace hq := hq.2 hc
      refine lv_iconst (v := 0) hx hb dX6_bypassed_18 (by decide) ?_
      refine lv_istore (lv' := [(4, .int 0), (0, .ref (ad 0)), (1, .int x1), (2, .int x2), (3, .int x3)]) hx hb dX6_bypassed_19 hl (by decide) rfl (fun ls hl => ?_)
      refine lv_iload_n hx hb dX6_bypassed_21 rfl (lv_at hl 3 rfl) ?_
      refine lv_istore (lv' := [(5, .int x2), (4, .int 0), (0, .ref (ad 0)), (1, .int x1), (2, .int x2), (3, .int x3)]) hx hb dX6_bypassed_22 hl (by decide) rfl (fun ls hl => ?_)
      obtain ⟨n0, hq⟩ := hq
      refine kLX6_bypassed_24 C x1 x3 _ Q ?_ n0 S_3 0 x2 hq _ _ _ hw (lv_sub hl [2, 3, 5, 1, 0] rfl)
      clear hw hl hq
      intro S_5 y_6 H locs ls hq hw hl
      refine lv_iload hx hb dX6_bypassed_56 (lv_at hl 0 rfl) ?_
      exact w_iret C hw hq dX6_bypassed_58
    · replace hq := hq.1 hc
      refine lv_iconst (v := (-1)) hx hb dX6_bypassed_16 (by decide) ?_
      exact w_iret C hw hq dX6_bypassed_17
set_option maxHeartbeats 4000000 in
set_option maxRecDepth 100000 in
theorem kLX6_bits_4 {p : Program} {l : Launch} {e : Env} {s : State} {m : MethodId} {args : Array Value} {below : List Frame} {meth : Method} {c : Code} {D : va_G} {ad : Nat → Nat} {cI cL : ClassId} {A : Nat → Prop} (C : Cx p s m args meth c yX6_bits.cls cX6_bits 3 (some .int)) (x0 : Int32) (K : MS → Int32 → Prop) (Q : Int32 → MS → Prop) (hK : ∀ (S : MS) (z1 : Int32) (H : Heap) (locs : List Loc) (ls : Array Slot), K S z1 → WW D (rtys cI cL) (rw_ ad cI cL S) A s H locs → lv_has ls 3 [(1, .int z1)] → W p l e { frames := 0, cells := 0, slots := 0, locals := 0 } s m args below meth c H locs 0 0 (Zi D (rtys cI cL) (rw_ ad cI cL) A below args s Q) (F0 m 24 ls [])) : ∀ (n : Nat) (S : MS) (x1 : Int32) (x2 : Int32) (_ : LX6_bits_4 x0 K Q n S x1 x2) (H : Heap) (locs : List Loc) (ls : Array Slot), WW D (rtys cI cL) (rw_ ad cI cL S) A s H locs → lv_has ls 3 [(0, .int x0), (1, .int x1), (2, .int x2)] → W p l e { frames := 0, cells := 0, slots := 0, locals := 0 } s m args below meth c H locs 0 0 (Zi D (rtys cI cL) (rw_ ad cI cL) A below args s Q) (F0 m 4 ls []) := by
  have hx := C.1
  have hb := C.2.1
  intro n
  induction n with
  | zero => intro S x1 x2 hq; exact absurd hq (by rw [LX6_bits_4]; exact id)
  | succ n ih =>
    intro S x1 x2 hq H locs ls hw hl
    rw [LX6_bits_4] at hq
    refine lv_iload_n hx hb dX6_bits_4 rfl (lv_at hl 2 rfl) ?_
    refine lv_bipush (v := 12) hx hb dX6_bits_5 (by decide) ?_
    refine lv_icmp_ge (tgt := 24) hx hb dX6_bits_7 (by decide) (fun hc => ?_) (fun hc => ?_)
    · replace hq := hq.1 hc
      exact hK S x1 _ _ _ hq hw (lv_sub hl [1] rfl)
    · replace hq := hq.2 hc
      refine lv_iload_n hx hb dX6_bits_10 rfl (lv_at hl 1 rfl) ?_
      refine lv_iload_n hx hb dX6_bits_11 rfl (lv_at hl 0 rfl) ?_
      refine lv_iload_n hx hb dX6_bits_12 rfl (lv_at hl 2 rfl) ?_
      refine lv_ishr hx hb dX6_bits_13 ?_
      refine lv_iconst (v := 1) hx hb dX6_bits_14 (by decide) ?_
      refine lv_iand hx hb dX6_bits_15 ?_
      refine lv_iadd hx hb dX6_bits_16 ?_
      refine lv_topi (fun v_1 ev_1 => ?_)
      replace hq := hq v_1 ev_1
      refine lv_istore_n (lv' := [(1, .int v_1), (0, .int x0), (2, .int x2)]) hx hb dX6_bits_17 rfl hl (by decide) rfl (fun ls hl => ?_)
      refine lv_iinc (v := x2 + 1) (lv' := [(2, .int (x2 + 1)), (1, .int v_1), (0, .int x0)]) hx hb dX6_bits_18 hl (k := 2) rfl rfl (by decide) rfl (fun ls hl => ?_)
      refine lv_goto (tgt := 4) hx hb dX6_bits_21 (by decide) ?_
      exact ih S v_1 (x2 + 1) hq _ _ _ hw (lv_sub hl [2, 1, 0] rfl)
set_option maxHeartbeats 4000000 in
set_option maxRecDepth 100000 in
theorem mX6_bits (l : Launch) (D : va_G) (ad : Nat → Nat) (cI cL : ClassId) (S : MS) (x0 : Int32) (Q : Int32 → MS → Prop) (hq : wX6_bits S x0 Q) : Mi l yX6_bits cX6_bits 3 (some .int) { frames := 0, cells := 0, slots := 0, locals := 0 } D (rtys cI cL) (rw_ ad cI cL) [.int x0] S Q := by
  refine Mi.of (by decide +kernel) (Nat.le_of_ble_eq_true rfl) ?_
  intro p e s m args below meth c A ls C hw hl
  have hx := C.1
  have hb := C.2.1
  have hl : lv_has ls 3 [(0, .int x0)] := hl
  have hw : WW D (rtys cI cL) (rw_ ad cI cL S) A s s.heap [] := hw
  unfold wX6_bits at hq
  refine lv_iconst (v := 0) hx hb dX6_bits_0 (by decide) ?_
  refine lv_istore_n (lv' := [(1, .int 0), (0, .int x0)]) hx hb dX6_bits_1 rfl hl (by decide) rfl (fun ls hl => ?_)
  refine lv_iconst (v := 0) hx hb dX6_bits_2 (by decide) ?_
  refine lv_istore_n (lv' := [(2, .int 0), (1, .int 0), (0, .int x0)]) hx hb dX6_bits_3 rfl hl (by decide) rfl (fun ls hl => ?_)
  obtain ⟨n0, hq⟩ := hq
  refine kLX6_bits_4 C x0 _ Q ?_ n0 S 0 0 hq _ _ _ hw (lv_sub hl [2, 1, 0] rfl)
  clear hw hl hq
  intro S_1 y_2 H locs ls hq hw hl
  refine lv_iload_n hx hb dX6_bits_24 rfl (lv_at hl 0 rfl) ?_
  exact w_iret C hw hq dX6_bits_25
set_option maxHeartbeats 4000000 in
set_option maxRecDepth 100000 in
theorem mX6_group (l : Launch) (D : va_G) (ad : Nat → Nat) (cI cL : ClassId) (S : MS) (x1 : Int32) (x2 : Int32) (Q : Int32 → MS → Prop) (hq : wX6_group S x1 x2 Q) : Mi l yX6_group cX6_group 3 (some .int) { frames := 1, cells := 0, slots := 0, locals := 25 } D (rtys cI cL) (rw_ ad cI cL) [.ref (ad 0), .int x1, .int x2] S Q := by
  refine Mi.of (by decide +kernel) (Nat.le_of_ble_eq_true rfl) ?_
  intro p e s m args below meth c A ls C hw hl
  have hx := C.1
  have hb := C.2.1
  have hl : lv_has ls 3 [(0, .ref (ad 0)), (1, .int x1), (2, .int x2)] := hl
  have hw : WW D (rtys cI cL) (rw_ ad cI cL S) A s s.heap [] := hw
  unfold wX6_group at hq
  refine lv_iload_n hx hb dX6_group_0 rfl (lv_at hl 1 rfl) ?_
  refine lv_i2l (v := x1.toInt64) hx hb dX6_group_1 rfl ?_
  refine lv_lconst (v := 0) hx hb dX6_group_2 (by decide) ?_
  refine lv_ldc2 hx hb C.2.2.2.2.1 (C.w kk_X6_87 rfl) dX6_group_3 ?_
  refine w_calli hw (w_runS (rest := []) C hw (mX6_in l D ad cI cL S x1.toInt64 0 64 _ hq _) kc_X6_in ml_X6_78 ⟨rfl, rfl, Nat.le_of_ble_eq_true rfl, Nat.le_of_ble_eq_true rfl⟩ rfl rfl (Nat.le_of_ble_eq_true rfl) hl.1 dX6_group_6) ?_
  clear hw hq
  intro r_2 S_1 H locs hq hw
  refine lv_if_eq (tgt := 38) hx hb dX6_group_9 (by decide) (fun hc => ?_) (fun hc => ?_)
  · replace hq := hq.1 hc
    refine lv_iconst (v := (-1)) hx hb dX6_group_38 (by decide) ?_
    exact w_iret C hw hq dX6_group_39
  · replace hq := hq.2 hc
    refine lv_iload_n hx hb dX6_group_12 rfl (lv_at hl 2 rfl) ?_
    refine lv_i2l (v := x2.toInt64) hx hb dX6_group_13 rfl ?_
    refine lv_lconst (v := 0) hx hb dX6_group_14 (by decide) ?_
    refine lv_iconst (v := 1) hx hb dX6_group_15 (by decide) ?_
    refine lv_aload_n hx hb dX6_group_16 rfl (lv_at hl 0 rfl) ?_
    refine w_get C hw uw_X6 0 rO rfl 0 (by decide) fl_X6_74 rfl dX6_group_17 ?_
    refine lv_ishl hx hb dX6_group_20 ?_
    refine lv_iconst (v := 1) hx hb dX6_group_21 (by decide) ?_
    refine lv_isub hx hb dX6_group_22 ?_
    refine lv_i2l (v := (((1 : Int32) <<< ((S_1.2.2 0) &&& 31)) - 1).toInt64) hx hb dX6_group_23 rfl ?_
    refine w_calli hw (w_runS (rest := []) C hw (mX6_in l D ad cI cL S_1 x2.toInt64 0 ((((1 : Int32) <<< ((S_1.2.2 0) &&& 31)) - 1).toInt64) _ hq _) kc_X6_in ml_X6_78 ⟨rfl, rfl, Nat.le_of_ble_eq_true rfl, Nat.le_of_ble_eq_true rfl⟩ rfl rfl (Nat.le_of_ble_eq_true rfl) hl.1 dX6_group_24) ?_
    clear hw hq
    intro r_4 S_3 H locs hq hw
    refine lv_if_eq (tgt := 38) hx hb dX6_group_27 (by decide) (fun hc => ?_) (fun hc => ?_)
    · replace hq := hq.1 hc
      refine lv_iconst (v := (-1)) hx hb dX6_group_38 (by decide) ?_
      exact w_iret C hw hq dX6_group_39
    · replace hq := hq.2 hc
      refine lv_iload_n hx hb dX6_group_30 rfl (lv_at hl 2 rfl) ?_
      refine w_calli hw (w_runS (rest := []) C hw (mX6_bits l D ad cI cL S_3 x2 _ hq _) kc_X6_bits ml_X6_106 ⟨rfl, rfl, Nat.le_of_ble_eq_true rfl, Nat.le_of_ble_eq_true rfl⟩ rfl rfl (Nat.le_of_ble_eq_true rfl) hl.1 dX6_group_31) ?_
      clear hw hq
      intro r_6 S_5 H locs hq hw
      refine lv_iconst (v := 2) hx hb dX6_group_34 (by decide) ?_
      refine lv_icmp_ge (tgt := 40) hx hb dX6_group_35 (by decide) (fun hc => ?_) (fun hc => ?_)
      · replace hq := hq.1 hc
        refine lv_aload_n hx hb dX6_group_40 rfl (lv_at hl 0 rfl) ?_
        refine w_get C hw uw_X6 0 rO rfl 13 (by decide) fl_X6_110 rfl dX6_group_41 ?_
        refine lv_iconst (v := 4) hx hb dX6_group_44 (by decide) ?_
        refine lv_icmp_ne (tgt := 51) hx hb dX6_group_45 (by decide) (fun hc => ?_) (fun hc => ?_)
        · replace hq := hq.2 hc
          refine lv_aload_n hx hb dX6_group_51 rfl (lv_at hl 0 rfl) ?_
          refine w_get C hw uw_X6 0 rO rfl 14 (by decide) fl_X6_43 rfl dX6_group_52 ?_
          refine lv_aload_n hx hb dX6_group_55 rfl (lv_at hl 0 rfl) ?_
          refine w_get C hw uw_X6 0 rO rfl 13 (by decide) fl_X6_110 rfl dX6_group_56 ?_
          refine lv_iload_n hx hb dX6_group_59 rfl (lv_at hl 1 rfl) ?_
          obtain ⟨hin, hq⟩ := hq
          obtain ⟨S_7, eS_7⟩ : ∃ z, z = uI S_5 11 (S_5.2.2 2).toNatClampNeg x1 := ⟨_, rfl⟩
          replace hq := hq S_7 eS_7
          refine w_ist (ws' := rw_ ad cI cL S_7) C hw 12 0 rI_11 rfl hin dX6_group_60 (by rw [eS_7]; exact rIs_11) (fun H locs hw => ?_)
          refine lv_aload_n hx hb dX6_group_61 rfl (lv_at hl 0 rfl) ?_
          refine w_get C hw uw_X6 0 rO rfl 15 (by decide) fl_X6_46 rfl dX6_group_62 ?_
          refine lv_aload_n hx hb dX6_group_65 rfl (lv_at hl 0 rfl) ?_
          refine w_get C hw uw_X6 0 rO rfl 13 (by decide) fl_X6_110 rfl dX6_group_66 ?_
          refine lv_iload_n hx hb dX6_group_69 rfl (lv_at hl 2 rfl) ?_
          obtain ⟨hin, hq⟩ := hq
          obtain ⟨S_8, eS_8⟩ : ∃ z, z = uI S_7 12 (S_7.2.2 2).toNatClampNeg x2 := ⟨_, rfl⟩
          replace hq := hq S_8 eS_8
          refine w_ist (ws' := rw_ ad cI cL S_8) C hw 13 0 rI_12 rfl hin dX6_group_70 (by rw [eS_8]; exact rIs_12) (fun H locs hw => ?_)
          refine lv_aload_n hx hb dX6_group_71 rfl (lv_at hl 0 rfl) ?_
          refine lv_dup hx hb dX6_group_72 rfl ?_
          refine w_get C hw uw_X6 0 rO rfl 13 (by decide) fl_X6_110 rfl dX6_group_73 ?_
          refine lv_iconst (v := 1) hx hb dX6_group_76 (by decide) ?_
          refine lv_iadd hx hb dX6_group_77 ?_
          obtain ⟨S_9, eS_9⟩ : ∃ z, z = uF S_8 2 ((S_8.2.2 2) + 1) := ⟨_, rfl⟩
          replace hq := hq S_9 eS_9
          refine w_put (ws' := rw_ ad cI cL S_9) C hw uw_X6 tyX6 tyX6_ok nmX6 0 rO rfl 13 (by decide) fl_X6_110 rfl (by decide +kernel) (Nat.le_of_ble_eq_true rfl) dX6_group_78 (by rw [eS_9]; exact rFs_2) (fun H locs hw => ?_)
          refine lv_aload_n hx hb dX6_group_81 rfl (lv_at hl 0 rfl) ?_
          refine w_get C hw uw_X6 0 rO rfl 13 (by decide) fl_X6_110 rfl dX6_group_82 ?_
          refine lv_iconst (v := 1) hx hb dX6_group_85 (by decide) ?_
          refine lv_isub hx hb dX6_group_86 ?_
          exact w_iret C hw hq dX6_group_87
        · replace hq := hq.1 hc
          refine lv_bipush (v := (-3)) hx hb dX6_group_48 (by decide) ?_
          exact w_iret C hw hq dX6_group_50
      · replace hq := hq.2 hc
        refine lv_iconst (v := (-1)) hx hb dX6_group_38 (by decide) ?_
        exact w_iret C hw hq dX6_group_39
set_option maxHeartbeats 4000000 in
set_option maxRecDepth 100000 in
theorem kJX6_isInput_27 {p : Program} {l : Launch} {e : Env} {s : State} {m : MethodId} {args : Array Value} {below : List Frame} {meth : Method} {c : Code} {D : va_G} {ad : Nat → Nat} {cI cL : ClassId} {A : Nat → Prop} (C : Cx p s m args meth c yX6_isInput.cls cX6_isInput 2 (some .boolean)) (S : MS) (Q : Int32 → MS → Prop) (hq : JX6_isInput_27 S Q) (H : Heap) (locs : List Loc) (ls : Array Slot) (hw : WW D (rtys cI cL) (rw_ ad cI cL S) A s H locs) (hl : lv_has ls 2 []) : W p l e { frames := 2, cells := 0, slots := 0, locals := 46 } s m args below meth c H locs 0 0 (Zi D (rtys cI cL) (rw_ ad cI cL) A below args s Q) (F0 m 27 ls []) := by
  have hx := C.1
  have hb := C.2.1
  unfold JX6_isInput_27 at hq
  refine lv_iconst (v := 1) hx hb dX6_isInput_27 (by decide) ?_
  refine lv_goto (tgt := 32) hx hb dX6_isInput_28 (by decide) ?_
  exact w_zret C hw rfl hq dX6_isInput_32
set_option maxHeartbeats 4000000 in
set_option maxRecDepth 100000 in
theorem mX6_isInput (l : Launch) (D : va_G) (ad : Nat → Nat) (cI cL : ClassId) (S : MS) (x1 : Int32) (Q : Int32 → MS → Prop) (hq : wX6_isInput S x1 Q) : Mi l yX6_isInput cX6_isInput 2 (some .boolean) { frames := 2, cells := 0, slots := 0, locals := 46 } D (rtys cI cL) (rw_ ad cI cL) [.ref (ad 0), .int x1] S Q := by
  refine Mi.of (by decide +kernel) (Nat.le_of_ble_eq_true rfl) ?_
  intro p e s m args below meth c A ls C hw hl
  have hx := C.1
  have hb := C.2.1
  have hl : lv_has ls 2 [(0, .ref (ad 0)), (1, .int x1)] := hl
  have hw : WW D (rtys cI cL) (rw_ ad cI cL S) A s s.heap [] := hw
  unfold wX6_isInput at hq
  refine lv_aload_n hx hb dX6_isInput_0 rfl (lv_at hl 0 rfl) ?_
  refine lv_iload_n hx hb dX6_isInput_1 rfl (lv_at hl 1 rfl) ?_
  refine w_calli hw (w_runV (rest := []) C hw (mX6_isPart l D ad cI cL S x1 _ hq _) kc_X6_isPart ml_X6_89 0 rO rfl rfl ⟨rfl, rfl, Nat.le_of_ble_eq_true rfl, Nat.le_of_ble_eq_true rfl⟩ rfl rfl (Nat.le_of_ble_eq_true rfl) hl.1 dX6_isInput_2) ?_
  clear hw hq
  intro r_2 S_1 H locs hq hw
  refine lv_if_ne (tgt := 27) hx hb dX6_isInput_5 (by decide) (fun hc => ?_) (fun hc => ?_)
  · replace hq := hq.2 hc
    exact kJX6_isInput_27 C S_1 Q hq _ _ _ hw (lv_sub hl [] rfl)
  · replace hq := hq.1 hc
    refine lv_iload_n hx hb dX6_isInput_8 rfl (lv_at hl 1 rfl) ?_
    refine lv_i2l (v := x1.toInt64) hx hb dX6_isInput_9 rfl ?_
    refine lv_ldc2 hx hb C.2.2.2.2.1 (C.w kk_X6_113 rfl) dX6_isInput_10 ?_
    refine lv_bipush (v := 11) hx hb dX6_isInput_13 (by decide) ?_
    refine lv_aload_n hx hb dX6_isInput_15 rfl (lv_at hl 0 rfl) ?_
    refine w_get C hw uw_X6 0 rO rfl 16 (by decide) fl_X6_82 rfl dX6_isInput_16 ?_
    refine lv_iadd hx hb dX6_isInput_19 ?_
    refine lv_i2l (v := (11 + (S_1.2.2 3)).toInt64) hx hb dX6_isInput_20 rfl ?_
    refine w_calli hw (w_runS (rest := []) C hw (mX6_in l D ad cI cL S_1 x1.toInt64 12 ((11 + (S_1.2.2 3)).toInt64) _ hq _) kc_X6_in ml_X6_78 ⟨rfl, rfl, Nat.le_of_ble_eq_true rfl, Nat.le_of_ble_eq_true rfl⟩ rfl rfl (Nat.le_of_ble_eq_true rfl) hl.1 dX6_isInput_21) ?_
    clear hw hq
    intro r_4 S_3 H locs hq hw
    refine lv_if_eq (tgt := 31) hx hb dX6_isInput_24 (by decide) (fun hc => ?_) (fun hc => ?_)
    · replace hq := hq.1 hc
      refine lv_iconst (v := 0) hx hb dX6_isInput_31 (by decide) ?_
      exact w_zret C hw rfl hq dX6_isInput_32
    · replace hq := hq.2 hc
      exact kJX6_isInput_27 C S_3 Q hq _ _ _ hw (lv_sub hl [] rfl)
set_option maxHeartbeats 4000000 in
set_option maxRecDepth 100000 in
theorem kJX6_vote_78 {p : Program} {l : Launch} {e : Env} {s : State} {m : MethodId} {args : Array Value} {below : List Frame} {meth : Method} {c : Code} {D : va_G} {ad : Nat → Nat} {cI cL : ClassId} {A : Nat → Prop} (C : Cx p s m args meth c yX6_vote.cls cX6_vote 8 (some .int)) (S : MS) (x1 : Int32) (x2 : Int32) (x3 : Int32) (x4 : Int32) (x5 : Int32) (x6 : Int32) (t0 : Int32) (Q : Int32 → MS → Prop) (hq : JX6_vote_78 S x1 x2 x3 x4 x5 x6 t0 Q) (H : Heap) (locs : List Loc) (ls : Array Slot) (hw : WW D (rtys cI cL) (rw_ ad cI cL S) A s H locs) (hl : lv_has ls 8 [(0, .ref (ad 0)), (1, .int x1), (2, .int x2), (3, .int x3), (4, .int x4), (5, .int x5), (6, .int x6)]) : W p l e { frames := 3, cells := 0, slots := 0, locals := 67 } s m args below meth c H locs 0 0 (Zi D (rtys cI cL) (rw_ ad cI cL) A below args s Q) (F0 m 78 ls [.int t0]) := by
  have hx := C.1
  have hb := C.2.1
  unfold JX6_vote_78 at hq
  refine lv_istore (lv' := [(7, .int t0), (0, .ref (ad 0)), (1, .int x1), (2, .int x2), (3, .int x3), (4, .int x4), (5, .int x5), (6, .int x6)]) hx hb dX6_vote_78 hl (by decide) rfl (fun ls hl => ?_)
  refine lv_iload hx hb dX6_vote_80 (lv_at hl 0 rfl) ?_
  refine lv_if_ne (tgt := 87) hx hb dX6_vote_82 (by decide) (fun hc => ?_) (fun hc => ?_)
  · replace hq := hq.2 hc
    refine lv_aload_n hx hb dX6_vote_87 rfl (lv_at hl 1 rfl) ?_
    refine w_get C hw uw_X6 0 rO rfl 16 (by decide) fl_X6_82 rfl dX6_vote_88 ?_
    refine lv_bipush (v := 12) hx hb dX6_vote_91 (by decide) ?_
    refine lv_icmp_ne (tgt := 99) hx hb dX6_vote_93 (by decide) (fun hc => ?_) (fun hc => ?_)
    · replace hq := hq.2 hc
      refine lv_aload_n hx hb dX6_vote_99 rfl (lv_at hl 1 rfl) ?_
      refine w_get C hw uw_X6 0 rO rfl 17 (by decide) fl_X6_49 rfl dX6_vote_100 ?_
      refine lv_aload_n hx hb dX6_vote_103 rfl (lv_at hl 1 rfl) ?_
      refine w_get C hw uw_X6 0 rO rfl 16 (by decide) fl_X6_82 rfl dX6_vote_104 ?_
      refine lv_iload_n hx hb dX6_vote_107 rfl (lv_at hl 2 rfl) ?_
      obtain ⟨hin, hq⟩ := hq
      obtain ⟨S_8, eS_8⟩ : ∃ z, z = uI S 13 (S.2.2 3).toNatClampNeg x1 := ⟨_, rfl⟩
      replace hq := hq S_8 eS_8
      refine w_ist (ws' := rw_ ad cI cL S_8) C hw 14 0 rI_13 rfl hin dX6_vote_108 (by rw [eS_8]; exact rIs_13) (fun H locs hw => ?_)
      refine lv_aload_n hx hb dX6_vote_109 rfl (lv_at hl 1 rfl) ?_
      refine w_get C hw uw_X6 0 rO rfl 18 (by decide) fl_X6_52 rfl dX6_vote_110 ?_
      refine lv_aload_n hx hb dX6_vote_113 rfl (lv_at hl 1 rfl) ?_
      refine w_get C hw uw_X6 0 rO rfl 16 (by decide) fl_X6_82 rfl dX6_vote_114 ?_
      refine lv_iload_n hx hb dX6_vote_117 rfl (lv_at hl 3 rfl) ?_
      obtain ⟨hin, hq⟩ := hq
      obtain ⟨S_9, eS_9⟩ : ∃ z, z = uI S_8 14 (S_8.2.2 3).toNatClampNeg x2 := ⟨_, rfl⟩
      replace hq := hq S_9 eS_9
      refine w_ist (ws' := rw_ ad cI cL S_9) C hw 15 0 rI_14 rfl hin dX6_vote_118 (by rw [eS_9]; exact rIs_14) (fun H locs hw => ?_)
      refine lv_aload_n hx hb dX6_vote_119 rfl (lv_at hl 1 rfl) ?_
      refine w_get C hw uw_X6 0 rO rfl 19 (by decide) fl_X6_55 rfl dX6_vote_120 ?_
      refine lv_iconst (v := 4) hx hb dX6_vote_123 (by decide) ?_
      refine lv_aload_n hx hb dX6_vote_124 rfl (lv_at hl 1 rfl) ?_
      refine w_get C hw uw_X6 0 rO rfl 16 (by decide) fl_X6_82 rfl dX6_vote_125 ?_
      refine lv_imul hx hb dX6_vote_128 ?_
      refine lv_iload_n hx hb dX6_vote_129 rfl (lv_at hl 4 rfl) ?_
      obtain ⟨hin, hq⟩ := hq
      obtain ⟨S_10, eS_10⟩ : ∃ z, z = uI S_9 15 (4 * (S_9.2.2 3)).toNatClampNeg x3 := ⟨_, rfl⟩
      replace hq := hq S_10 eS_10
      refine w_ist (ws' := rw_ ad cI cL S_10) C hw 16 0 rI_15 rfl hin dX6_vote_130 (by rw [eS_10]; exact rIs_15) (fun H locs hw => ?_)
      refine lv_aload_n hx hb dX6_vote_131 rfl (lv_at hl 1 rfl) ?_
      refine w_get C hw uw_X6 0 rO rfl 19 (by decide) fl_X6_55 rfl dX6_vote_132 ?_
      refine lv_iconst (v := 4) hx hb dX6_vote_135 (by decide) ?_
      refine lv_aload_n hx hb dX6_vote_136 rfl (lv_at hl 1 rfl) ?_
      refine w_get C hw uw_X6 0 rO rfl 16 (by decide) fl_X6_82 rfl dX6_vote_137 ?_
      refine lv_imul hx hb dX6_vote_140 ?_
      refine lv_iconst (v := 1) hx hb dX6_vote_141 (by decide) ?_
      refine lv_iadd hx hb dX6_vote_142 ?_
      refine lv_iload hx hb dX6_vote_143 (lv_at hl 5 rfl) ?_
      obtain ⟨hin, hq⟩ := hq
      obtain ⟨S_11, eS_11⟩ : ∃ z, z = uI S_10 15 ((4 * (S_10.2.2 3)) + 1).toNatClampNeg x4 := ⟨_, rfl⟩
      replace hq := hq S_11 eS_11
      refine w_ist (ws' := rw_ ad cI cL S_11) C hw 16 0 rI_15 rfl hin dX6_vote_145 (by rw [eS_11]; exact rIs_15) (fun H locs hw => ?_)
      refine lv_aload_n hx hb dX6_vote_146 rfl (lv_at hl 1 rfl) ?_
      refine w_get C hw uw_X6 0 rO rfl 19 (by decide) fl_X6_55 rfl dX6_vote_147 ?_
      refine lv_iconst (v := 4) hx hb dX6_vote_150 (by decide) ?_
      refine lv_aload_n hx hb dX6_vote_151 rfl (lv_at hl 1 rfl) ?_
      refine w_get C hw uw_X6 0 rO rfl 16 (by decide) fl_X6_82 rfl dX6_vote_152 ?_
      refine lv_imul hx hb dX6_vote_155 ?_
      refine lv_iconst (v := 2) hx hb dX6_vote_156 (by decide) ?_
      refine lv_iadd hx hb dX6_vote_157 ?_
      refine lv_iload hx hb dX6_vote_158 (lv_at hl 6 rfl) ?_
      obtain ⟨hin, hq⟩ := hq
      obtain ⟨S_12, eS_12⟩ : ∃ z, z = uI S_11 15 ((4 * (S_11.2.2 3)) + 2).toNatClampNeg x5 := ⟨_, rfl⟩
      replace hq := hq S_12 eS_12
      refine w_ist (ws' := rw_ ad cI cL S_12) C hw 16 0 rI_15 rfl hin dX6_vote_160 (by rw [eS_12]; exact rIs_15) (fun H locs hw => ?_)
      refine lv_aload_n hx hb dX6_vote_161 rfl (lv_at hl 1 rfl) ?_
      refine w_get C hw uw_X6 0 rO rfl 19 (by decide) fl_X6_55 rfl dX6_vote_162 ?_
      refine lv_iconst (v := 4) hx hb dX6_vote_165 (by decide) ?_
      refine lv_aload_n hx hb dX6_vote_166 rfl (lv_at hl 1 rfl) ?_
      refine w_get C hw uw_X6 0 rO rfl 16 (by decide) fl_X6_82 rfl dX6_vote_167 ?_
      refine lv_imul hx hb dX6_vote_170 ?_
      refine lv_iconst (v := 3) hx hb dX6_vote_171 (by decide) ?_
      refine lv_iadd hx hb dX6_vote_172 ?_
      refine lv_iload hx hb dX6_vote_173 (lv_at hl 7 rfl) ?_
      obtain ⟨hin, hq⟩ := hq
      obtain ⟨S_13, eS_13⟩ : ∃ z, z = uI S_12 15 ((4 * (S_12.2.2 3)) + 3).toNatClampNeg x6 := ⟨_, rfl⟩
      replace hq := hq S_13 eS_13
      refine w_ist (ws' := rw_ ad cI cL S_13) C hw 16 0 rI_15 rfl hin dX6_vote_175 (by rw [eS_13]; exact rIs_15) (fun H locs hw => ?_)
      refine lv_aload_n hx hb dX6_vote_176 rfl (lv_at hl 1 rfl) ?_
      refine lv_dup hx hb dX6_vote_177 rfl ?_
      refine w_get C hw uw_X6 0 rO rfl 16 (by decide) fl_X6_82 rfl dX6_vote_178 ?_
      refine lv_iconst (v := 1) hx hb dX6_vote_181 (by decide) ?_
      refine lv_iadd hx hb dX6_vote_182 ?_
      obtain ⟨S_14, eS_14⟩ : ∃ z, z = uF S_13 3 ((S_13.2.2 3) + 1) := ⟨_, rfl⟩
      replace hq := hq S_14 eS_14
      refine w_put (ws' := rw_ ad cI cL S_14) C hw uw_X6 tyX6 tyX6_ok nmX6 0 rO rfl 16 (by decide) fl_X6_82 rfl (by decide +kernel) (Nat.le_of_ble_eq_true rfl) dX6_vote_183 (by rw [eS_14]; exact rFs_3) (fun H locs hw => ?_)
      refine lv_aload_n hx hb dX6_vote_186 rfl (lv_at hl 1 rfl) ?_
      refine w_get C hw uw_X6 0 rO rfl 16 (by decide) fl_X6_82 rfl dX6_vote_187 ?_
      refine lv_iconst (v := 1) hx hb dX6_vote_190 (by decide) ?_
      refine lv_isub hx hb dX6_vote_191 ?_
      exact w_iret C hw hq dX6_vote_192
    · replace hq := hq.1 hc
      refine lv_bipush (v := (-3)) hx hb dX6_vote_96 (by decide) ?_
      exact w_iret C hw hq dX6_vote_98
  · replace hq := hq.1 hc
    refine lv_iconst (v := (-1)) hx hb dX6_vote_85 (by decide) ?_
    exact w_iret C hw hq dX6_vote_86
set_option maxHeartbeats 4000000 in
set_option maxRecDepth 100000 in
theorem kJX6_vote_77 {p : Program} {l : Launch} {e : Env} {s : State} {m : MethodId} {args : Array Value} {below : List Frame} {meth : Method} {c : Code} {D : va_G} {ad : Nat → Nat} {cI cL : ClassId} {A : Nat → Prop} (C : Cx p s m args meth c yX6_vote.cls cX6_vote 8 (some .int)) (S : MS) (x1 : Int32) (x2 : Int32) (x3 : Int32) (x4 : Int32) (x5 : Int32) (x6 : Int32) (Q : Int32 → MS → Prop) (hq : JX6_vote_77 S x1 x2 x3 x4 x5 x6 Q) (H : Heap) (locs : List Loc) (ls : Array Slot) (hw : WW D (rtys cI cL) (rw_ ad cI cL S) A s H locs) (hl : lv_has ls 8 [(0, .ref (ad 0)), (1, .int x1), (2, .int x2), (3, .int x3), (4, .int x4), (5, .int x5), (6, .int x6)]) : W p l e { frames := 3, cells := 0, slots := 0, locals := 67 } s m args below meth c H locs 0 0 (Zi D (rtys cI cL) (rw_ ad cI cL) A below args s Q) (F0 m 77 ls []) := by
  have hx := C.1
  have hb := C.2.1
  unfold JX6_vote_77 at hq
  refine lv_iconst (v := 0) hx hb dX6_vote_77 (by decide) ?_
  exact kJX6_vote_78 C S x1 x2 x3 x4 x5 x6 0 Q hq _ _ _ hw (lv_sub hl [0, 1, 2, 3, 4, 5, 6] rfl)
set_option maxHeartbeats 4000000 in
set_option maxRecDepth 100000 in
theorem kJX6_vote_73 {p : Program} {l : Launch} {e : Env} {s : State} {m : MethodId} {args : Array Value} {below : List Frame} {meth : Method} {c : Code} {D : va_G} {ad : Nat → Nat} {cI cL : ClassId} {A : Nat → Prop} (C : Cx p s m args meth c yX6_vote.cls cX6_vote 8 (some .int)) (S : MS) (x1 : Int32) (x2 : Int32) (x3 : Int32) (x4 : Int32) (x5 : Int32) (x6 : Int32) (Q : Int32 → MS → Prop) (hq : JX6_vote_73 S x1 x2 x3 x4 x5 x6 Q) (H : Heap) (locs : List Loc) (ls : Array Slot) (hw : WW D (rtys cI cL) (rw_ ad cI cL S) A s H locs) (hl : lv_has ls 8 [(0, .ref (ad 0)), (1, .int x1), (2, .int x2), (3, .int x3), (4, .int x4), (5, .int x5), (6, .int x6)]) : W p l e { frames := 3, cells := 0, slots := 0, locals := 67 } s m args below meth c H locs 0 0 (Zi D (rtys cI cL) (rw_ ad cI cL) A below args s Q) (F0 m 73 ls []) := by
  have hx := C.1
  have hb := C.2.1
  unfold JX6_vote_73 at hq
  refine lv_iconst (v := 1) hx hb dX6_vote_73 (by decide) ?_
  refine lv_goto (tgt := 78) hx hb dX6_vote_74 (by decide) ?_
  exact kJX6_vote_78 C S x1 x2 x3 x4 x5 x6 1 Q hq _ _ _ hw (lv_sub hl [0, 1, 2, 3, 4, 5, 6] rfl)
set_option maxHeartbeats 4000000 in
set_option maxRecDepth 100000 in
theorem kJX6_vote_59 {p : Program} {l : Launch} {e : Env} {s : State} {m : MethodId} {args : Array Value} {below : List Frame} {meth : Method} {c : Code} {D : va_G} {ad : Nat → Nat} {cI cL : ClassId} {A : Nat → Prop} (C : Cx p s m args meth c yX6_vote.cls cX6_vote 8 (some .int)) (S : MS) (x1 : Int32) (x2 : Int32) (x3 : Int32) (x4 : Int32) (x5 : Int32) (x6 : Int32) (Q : Int32 → MS → Prop) (hq : JX6_vote_59 S x1 x2 x3 x4 x5 x6 Q) (H : Heap) (locs : List Loc) (ls : Array Slot) (hw : WW D (rtys cI cL) (rw_ ad cI cL S) A s H locs) (hl : lv_has ls 8 [(0, .ref (ad 0)), (1, .int x1), (2, .int x2), (3, .int x3), (4, .int x4), (5, .int x5), (6, .int x6)]) : W p l e { frames := 3, cells := 0, slots := 0, locals := 67 } s m args below meth c H locs 0 0 (Zi D (rtys cI cL) (rw_ ad cI cL) A below args s Q) (F0 m 59 ls []) := by
  have hx := C.1
  have hb := C.2.1
  unfold JX6_vote_59 at hq
  refine lv_iload_n hx hb dX6_vote_59 rfl (lv_at hl 2 rfl) ?_
  refine lv_iconst (v := 4) hx hb dX6_vote_60 (by decide) ?_
  refine lv_icmp_lt (tgt := 73) hx hb dX6_vote_61 (by decide) (fun hc => ?_) (fun hc => ?_)
  · replace hq := hq.1 hc
    exact kJX6_vote_73 C S x1 x2 x3 x4 x5 x6 Q hq _ _ _ hw (lv_sub hl [0, 1, 2, 3, 4, 5, 6] rfl)
  · replace hq := hq.2 hc
    refine lv_aload_n hx hb dX6_vote_64 rfl (lv_at hl 0 rfl) ?_
    refine lv_iload hx hb dX6_vote_65 (lv_at hl 6 rfl) ?_
    refine w_calli hw (w_runV (rest := []) C hw (mX6_isInput l D ad cI cL S x6 _ hq _) kc_X6_isInput ml_X6_117 0 rO rfl rfl ⟨rfl, rfl, Nat.le_of_ble_eq_true rfl, Nat.le_of_ble_eq_true rfl⟩ rfl rfl (Nat.le_of_ble_eq_true rfl) hl.1 dX6_vote_67) ?_
    clear hw hq
    intro r_4 S_3 H locs hq hw
    refine lv_if_eq (tgt := 77) hx hb dX6_vote_70 (by decide) (fun hc => ?_) (fun hc => ?_)
    · replace hq := hq.1 hc
      exact kJX6_vote_77 C S_3 x1 x2 x3 x4 x5 x6 Q hq _ _ _ hw (lv_sub hl [0, 1, 2, 3, 4, 5, 6] rfl)
    · replace hq := hq.2 hc
      exact kJX6_vote_73 C S_3 x1 x2 x3 x4 x5 x6 Q hq _ _ _ hw (lv_sub hl [0, 1, 2, 3, 4, 5, 6] rfl)
set_option maxHeartbeats 4000000 in
set_option maxRecDepth 100000 in
theorem kJX6_vote_45 {p : Program} {l : Launch} {e : Env} {s : State} {m : MethodId} {args : Array Value} {below : List Frame} {meth : Method} {c : Code} {D : va_G} {ad : Nat → Nat} {cI cL : ClassId} {A : Nat → Prop} (C : Cx p s m args meth c yX6_vote.cls cX6_vote 8 (some .int)) (S : MS) (x1 : Int32) (x2 : Int32) (x3 : Int32) (x4 : Int32) (x5 : Int32) (x6 : Int32) (Q : Int32 → MS → Prop) (hq : JX6_vote_45 S x1 x2 x3 x4 x5 x6 Q) (H : Heap) (locs : List Loc) (ls : Array Slot) (hw : WW D (rtys cI cL) (rw_ ad cI cL S) A s H locs) (hl : lv_has ls 8 [(0, .ref (ad 0)), (1, .int x1), (2, .int x2), (3, .int x3), (4, .int x4), (5, .int x5), (6, .int x6)]) : W p l e { frames := 3, cells := 0, slots := 0, locals := 67 } s m args below meth c H locs 0 0 (Zi D (rtys cI cL) (rw_ ad cI cL) A below args s Q) (F0 m 45 ls []) := by
  have hx := C.1
  have hb := C.2.1
  unfold JX6_vote_45 at hq
  refine lv_iload_n hx hb dX6_vote_45 rfl (lv_at hl 2 rfl) ?_
  refine lv_iconst (v := 3) hx hb dX6_vote_46 (by decide) ?_
  refine lv_icmp_lt (tgt := 59) hx hb dX6_vote_47 (by decide) (fun hc => ?_) (fun hc => ?_)
  · replace hq := hq.1 hc
    exact kJX6_vote_59 C S x1 x2 x3 x4 x5 x6 Q hq _ _ _ hw (lv_sub hl [0, 1, 2, 3, 4, 5, 6] rfl)
  · replace hq := hq.2 hc
    refine lv_aload_n hx hb dX6_vote_50 rfl (lv_at hl 0 rfl) ?_
    refine lv_iload hx hb dX6_vote_51 (lv_at hl 5 rfl) ?_
    refine w_calli hw (w_runV (rest := []) C hw (mX6_isInput l D ad cI cL S x5 _ hq _) kc_X6_isInput ml_X6_117 0 rO rfl rfl ⟨rfl, rfl, Nat.le_of_ble_eq_true rfl, Nat.le_of_ble_eq_true rfl⟩ rfl rfl (Nat.le_of_ble_eq_true rfl) hl.1 dX6_vote_53) ?_
    clear hw hq
    intro r_4 S_3 H locs hq hw
    refine lv_if_eq (tgt := 77) hx hb dX6_vote_56 (by decide) (fun hc => ?_) (fun hc => ?_)
    · replace hq := hq.1 hc
      exact kJX6_vote_77 C S_3 x1 x2 x3 x4 x5 x6 Q hq _ _ _ hw (lv_sub hl [0, 1, 2, 3, 4, 5, 6] rfl)
    · replace hq := hq.2 hc
      exact kJX6_vote_59 C S_3 x1 x2 x3 x4 x5 x6 Q hq _ _ _ hw (lv_sub hl [0, 1, 2, 3, 4, 5, 6] rfl)
set_option maxHeartbeats 4000000 in
set_option maxRecDepth 100000 in
theorem mX6_vote (l : Launch) (D : va_G) (ad : Nat → Nat) (cI cL : ClassId) (S : MS) (x1 : Int32) (x2 : Int32) (x3 : Int32) (x4 : Int32) (x5 : Int32) (x6 : Int32) (Q : Int32 → MS → Prop) (hq : wX6_vote S x1 x2 x3 x4 x5 x6 Q) : Mi l yX6_vote cX6_vote 8 (some .int) { frames := 3, cells := 0, slots := 0, locals := 67 } D (rtys cI cL) (rw_ ad cI cL) [.ref (ad 0), .int x1, .int x2, .int x3, .int x4, .int x5, .int x6] S Q := by
  refine Mi.of (by decide +kernel) (Nat.le_of_ble_eq_true rfl) ?_
  intro p e s m args below meth c A ls C hw hl
  have hx := C.1
  have hb := C.2.1
  have hl : lv_has ls 8 [(0, .ref (ad 0)), (1, .int x1), (2, .int x2), (3, .int x3), (4, .int x4), (5, .int x5), (6, .int x6)] := hl
  have hw : WW D (rtys cI cL) (rw_ ad cI cL S) A s s.heap [] := hw
  unfold wX6_vote at hq
  refine lv_iload_n hx hb dX6_vote_0 rfl (lv_at hl 2 rfl) ?_
  refine lv_i2l (v := x2.toInt64) hx hb dX6_vote_1 rfl ?_
  refine lv_lconst (v := 1) hx hb dX6_vote_2 (by decide) ?_
  refine lv_ldc2 hx hb C.2.2.2.2.1 (C.w kk_X6_115 rfl) dX6_vote_3 ?_
  refine w_calli hw (w_runS (rest := []) C hw (mX6_in l D ad cI cL S x2.toInt64 1 4 _ hq _) kc_X6_in ml_X6_78 ⟨rfl, rfl, Nat.le_of_ble_eq_true rfl, Nat.le_of_ble_eq_true rfl⟩ rfl rfl (Nat.le_of_ble_eq_true rfl) hl.1 dX6_vote_6) ?_
  clear hw hq
  intro r_2 S_1 H locs hq hw
  refine lv_if_eq (tgt := 77) hx hb dX6_vote_9 (by decide) (fun hc => ?_) (fun hc => ?_)
  · replace hq := hq.1 hc
    exact kJX6_vote_77 C S_1 x1 x2 x3 x4 x5 x6 Q hq _ _ _ hw (lv_sub hl [0, 1, 2, 3, 4, 5, 6] rfl)
  · replace hq := hq.2 hc
    refine lv_iload_n hx hb dX6_vote_12 rfl (lv_at hl 1 rfl) ?_
    refine lv_i2l (v := x1.toInt64) hx hb dX6_vote_13 rfl ?_
    refine lv_lconst (v := 1) hx hb dX6_vote_14 (by decide) ?_
    refine lv_iload_n hx hb dX6_vote_15 rfl (lv_at hl 2 rfl) ?_
    refine lv_i2l (v := x2.toInt64) hx hb dX6_vote_16 rfl ?_
    refine w_calli hw (w_runS (rest := []) C hw (mX6_in l D ad cI cL S_1 x1.toInt64 1 x2.toInt64 _ hq _) kc_X6_in ml_X6_78 ⟨rfl, rfl, Nat.le_of_ble_eq_true rfl, Nat.le_of_ble_eq_true rfl⟩ rfl rfl (Nat.le_of_ble_eq_true rfl) hl.1 dX6_vote_17) ?_
    clear hw hq
    intro r_4 S_3 H locs hq hw
    refine lv_if_eq (tgt := 77) hx hb dX6_vote_20 (by decide) (fun hc => ?_) (fun hc => ?_)
    · replace hq := hq.1 hc
      exact kJX6_vote_77 C S_3 x1 x2 x3 x4 x5 x6 Q hq _ _ _ hw (lv_sub hl [0, 1, 2, 3, 4, 5, 6] rfl)
    · replace hq := hq.2 hc
      refine lv_aload_n hx hb dX6_vote_23 rfl (lv_at hl 0 rfl) ?_
      refine lv_iload_n hx hb dX6_vote_24 rfl (lv_at hl 3 rfl) ?_
      refine w_calli hw (w_runV (rest := []) C hw (mX6_isInput l D ad cI cL S_3 x3 _ hq _) kc_X6_isInput ml_X6_117 0 rO rfl rfl ⟨rfl, rfl, Nat.le_of_ble_eq_true rfl, Nat.le_of_ble_eq_true rfl⟩ rfl rfl (Nat.le_of_ble_eq_true rfl) hl.1 dX6_vote_25) ?_
      clear hw hq
      intro r_6 S_5 H locs hq hw
      refine lv_if_eq (tgt := 77) hx hb dX6_vote_28 (by decide) (fun hc => ?_) (fun hc => ?_)
      · replace hq := hq.1 hc
        exact kJX6_vote_77 C S_5 x1 x2 x3 x4 x5 x6 Q hq _ _ _ hw (lv_sub hl [0, 1, 2, 3, 4, 5, 6] rfl)
      · replace hq := hq.2 hc
        refine lv_iload_n hx hb dX6_vote_31 rfl (lv_at hl 2 rfl) ?_
        refine lv_iconst (v := 2) hx hb dX6_vote_32 (by decide) ?_
        refine lv_icmp_lt (tgt := 45) hx hb dX6_vote_33 (by decide) (fun hc => ?_) (fun hc => ?_)
        · replace hq := hq.1 hc
          exact kJX6_vote_45 C S_5 x1 x2 x3 x4 x5 x6 Q hq _ _ _ hw (lv_sub hl [0, 1, 2, 3, 4, 5, 6] rfl)
        · replace hq := hq.2 hc
          refine lv_aload_n hx hb dX6_vote_36 rfl (lv_at hl 0 rfl) ?_
          refine lv_iload hx hb dX6_vote_37 (lv_at hl 4 rfl) ?_
          refine w_calli hw (w_runV (rest := []) C hw (mX6_isInput l D ad cI cL S_5 x4 _ hq _) kc_X6_isInput ml_X6_117 0 rO rfl rfl ⟨rfl, rfl, Nat.le_of_ble_eq_true rfl, Nat.le_of_ble_eq_true rfl⟩ rfl rfl (Nat.le_of_ble_eq_true rfl) hl.1 dX6_vote_39) ?_
          clear hw hq
          intro r_8 S_7 H locs hq hw
          refine lv_if_eq (tgt := 77) hx hb dX6_vote_42 (by decide) (fun hc => ?_) (fun hc => ?_)
          · replace hq := hq.1 hc
            exact kJX6_vote_77 C S_7 x1 x2 x3 x4 x5 x6 Q hq _ _ _ hw (lv_sub hl [0, 1, 2, 3, 4, 5, 6] rfl)
          · replace hq := hq.2 hc
            exact kJX6_vote_45 C S_7 x1 x2 x3 x4 x5 x6 Q hq _ _ _ hw (lv_sub hl [0, 1, 2, 3, 4, 5, 6] rfl)
