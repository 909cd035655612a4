set_option maxHeartbeats 4000000 in
set_option maxRecDepth 100000 in
theorem mX0_size (l : Launch) (D : va_G) (ad : Nat → Nat) (cI cL : ClassId) (S : MS) (Q : Int32 → MS → Prop) (hq : wX0_size S Q) : Mi l yX0_size cX0_size 1 (some .int) { frames := 0, cells := 0, slots := 0, locals := 0 } D (ctys cI cL) (cw ad cI cL) [.ref (ad 2)] S Q := by
  refine Mi.of (by decide +kernel) (Nat.le_of_ble_eq_true rfl) ?_
  intro p e s m args below meth c A ls C hw hl
  have hx := C.1
  have hb := C.2.1
  have hl : lv_has ls 1 [(0, .ref (ad 2))] := hl
  have hw : WW D (ctys cI cL) (cw ad cI cL S) A s s.heap [] := hw
  unfold wX0_size at hq
  refine lv_aload_n hx hb dX0_size_0 rfl (lv_at hl 0 rfl) ?_
  refine w_get C hw uw_X0 2 cO_X0 rfl 2 (by decide) fl_X0_18 rfl dX0_size_1 ?_
  exact w_iret C hw hq dX0_size_4
set_option maxHeartbeats 4000000 in
set_option maxRecDepth 100000 in
theorem mX0_add (l : Launch) (D : va_G) (ad : Nat → Nat) (cI cL : ClassId) (S : MS) (x1 : Int32) (x2 : Int32) (Q : Int32 → MS → Prop) (hq : wX0_add S x1 x2 Q) : Mi l yX0_add cX0_add 3 (some .int) { frames := 0, cells := 0, slots := 0, locals := 0 } D (ctys cI cL) (cw ad cI cL) [.ref (ad 2), .int x1, .int x2] S Q := by
  refine Mi.of (by decide +kernel) (Nat.le_of_ble_eq_true rfl) ?_
  intro p e s m args below meth c A ls C hw hl
  have hx := C.1
  have hb := C.2.1
  have hl : lv_has ls 3 [(0, .ref (ad 2)), (1, .int x1), (2, .int x2)] := hl
  have hw : WW D (ctys cI cL) (cw ad cI cL S) A s s.heap [] := hw
  unfold wX0_add at hq
  refine lv_aload_n hx hb dX0_add_0 rfl (lv_at hl 0 rfl) ?_
  refine w_get C hw uw_X0 2 cO_X0 rfl 2 (by decide) fl_X0_18 rfl dX0_add_1 ?_
  refine lv_iconst (v := 4) hx hb dX0_add_4 (by decide) ?_
  refine lv_icmp_lt (tgt := 11) hx hb dX0_add_5 (by decide) (fun hc => ?_) (fun hc => ?_)
  · replace hq := hq.1 hc
    refine lv_aload_n hx hb dX0_add_11 rfl (lv_at hl 0 rfl) ?_
    refine w_get C hw uw_X0 2 cO_X0 rfl 0 (by decide) fl_X0_9 rfl dX0_add_12 ?_
    refine lv_aload_n hx hb dX0_add_15 rfl (lv_at hl 0 rfl) ?_
    refine w_get C hw uw_X0 2 cO_X0 rfl 2 (by decide) fl_X0_18 rfl dX0_add_16 ?_
    refine lv_iload_n hx hb dX0_add_19 rfl (lv_at hl 1 rfl) ?_
    obtain ⟨hin, hq⟩ := hq
    obtain ⟨S_1, eS_1⟩ : ∃ z, z = uI S 6 (S.2.2 2).toNatClampNeg x1 := ⟨_, rfl⟩
    replace hq := hq S_1 eS_1
    refine w_ist (ws' := cw ad cI cL S_1) C hw 12 0 cI_6 rfl hin dX0_add_20 (by rw [eS_1]; exact cIs_6) (fun H locs hw => ?_)
    refine lv_aload_n hx hb dX0_add_21 rfl (lv_at hl 0 rfl) ?_
    refine w_get C hw uw_X0 2 cO_X0 rfl 1 (by decide) fl_X0_15 rfl dX0_add_22 ?_
    refine lv_aload_n hx hb dX0_add_25 rfl (lv_at hl 0 rfl) ?_
    refine w_get C hw uw_X0 2 cO_X0 rfl 2 (by decide) fl_X0_18 rfl dX0_add_26 ?_
    refine lv_iload_n hx hb dX0_add_29 rfl (lv_at hl 2 rfl) ?_
    obtain ⟨hin, hq⟩ := hq
    obtain ⟨S_2, eS_2⟩ : ∃ z, z = uI S_1 7 (S_1.2.2 2).toNatClampNeg x2 := ⟨_, rfl⟩
    replace hq := hq S_2 eS_2
    refine w_ist (ws' := cw ad cI cL S_2) C hw 13 0 cI_7 rfl hin dX0_add_30 (by rw [eS_2]; exact cIs_7) (fun H locs hw => ?_)
    refine lv_aload_n hx hb dX0_add_31 rfl (lv_at hl 0 rfl) ?_
    refine lv_dup hx hb dX0_add_32 rfl ?_
    refine w_get C hw uw_X0 2 cO_X0 rfl 2 (by decide) fl_X0_18 rfl dX0_add_33 ?_
    refine lv_iconst (v := 1) hx hb dX0_add_36 (by decide) ?_
    refine lv_iadd hx hb dX0_add_37 ?_
    obtain ⟨S_3, eS_3⟩ : ∃ z, z = uF S_2 2 ((S_2.2.2 2) + 1) := ⟨_, rfl⟩
    replace hq := hq S_3 eS_3
    refine w_put (ws' := cw ad cI cL S_3) C hw uw_X0 tyX0 tyX0_ok nmX0 2 cO_X0 rfl 2 (by decide) fl_X0_18 rfl (by decide +kernel) (Nat.le_of_ble_eq_true rfl) dX0_add_38 (by rw [eS_3]; exact cFs_2) (fun H locs hw => ?_)
    refine lv_aload_n hx hb dX0_add_41 rfl (lv_at hl 0 rfl) ?_
    refine w_get C hw uw_X0 2 cO_X0 rfl 2 (by decide) fl_X0_18 rfl dX0_add_42 ?_
    refine lv_iconst (v := 1) hx hb dX0_add_45 (by decide) ?_
    refine lv_isub hx hb dX0_add_46 ?_
    exact w_iret C hw hq dX0_add_47
  · replace hq := hq.2 hc
    refine lv_bipush (v := (-3)) hx hb dX0_add_8 (by decide) ?_
    exact w_iret C hw hq dX0_add_10
set_option maxHeartbeats 4000000 in
set_option maxRecDepth 100000 in
theorem mX0_shareOf (l : Launch) (D : va_G) (ad : Nat → Nat) (cI cL : ClassId) (S : MS) (x1 : Int32) (Q : Int32 → MS → Prop) (hq : wX0_shareOf S x1 Q) : Mi l yX0_shareOf cX0_shareOf 2 (some .int) { frames := 0, cells := 0, slots := 0, locals := 0 } D (ctys cI cL) (cw ad cI cL) [.ref (ad 2), .int x1] S Q := by
  refine Mi.of (by decide +kernel) (Nat.le_of_ble_eq_true rfl) ?_
  intro p e s m args below meth c A ls C hw hl
  have hx := C.1
  have hb := C.2.1
  have hl : lv_has ls 2 [(0, .ref (ad 2)), (1, .int x1)] := hl
  have hw : WW D (ctys cI cL) (cw ad cI cL S) A s s.heap [] := hw
  unfold wX0_shareOf at hq
  refine lv_aload_n hx hb dX0_shareOf_0 rfl (lv_at hl 0 rfl) ?_
  refine w_get C hw uw_X0 2 cO_X0 rfl 0 (by decide) fl_X0_9 rfl dX0_shareOf_1 ?_
  refine lv_iload_n hx hb dX0_shareOf_4 rfl (lv_at hl 1 rfl) ?_
  obtain ⟨hin, hq⟩ := hq
  refine w_ild C hw 12 0 cI_6 rfl hin dX0_shareOf_5 ?_
  exact w_iret C hw hq dX0_shareOf_6
set_option maxHeartbeats 4000000 in
set_option maxRecDepth 100000 in
theorem mX0_struckBy (l : Launch) (D : va_G) (ad : Nat → Nat) (cI cL : ClassId) (S : MS) (x1 : Int32) (Q : Int32 → MS → Prop) (hq : wX0_struckBy S x1 Q) : Mi l yX0_struckBy cX0_struckBy 2 (some .int) { frames := 0, cells := 0, slots := 0, locals := 0 } D (ctys cI cL) (cw ad cI cL) [.ref (ad 2), .int x1] S Q := by
  refine Mi.of (by decide +kernel) (Nat.le_of_ble_eq_true rfl) ?_
  intro p e s m args below meth c A ls C hw hl
  have hx := C.1
  have hb := C.2.1
  have hl : lv_has ls 2 [(0, .ref (ad 2)), (1, .int x1)] := hl
  have hw : WW D (ctys cI cL) (cw ad cI cL S) A s s.heap [] := hw
  unfold wX0_struckBy at hq
  refine lv_aload_n hx hb dX0_struckBy_0 rfl (lv_at hl 0 rfl) ?_
  refine w_get C hw uw_X0 2 cO_X0 rfl 1 (by decide) fl_X0_15 rfl dX0_struckBy_1 ?_
  refine lv_iload_n hx hb dX0_struckBy_4 rfl (lv_at hl 1 rfl) ?_
  obtain ⟨hin, hq⟩ := hq
  refine w_ild C hw 13 0 cI_7 rfl hin dX0_struckBy_5 ?_
  exact w_iret C hw hq dX0_struckBy_6
set_option maxHeartbeats 4000000 in
set_option maxRecDepth 100000 in
theorem kJX0_striking_29 {p : Program} {l : Launch} {e : Env} {s : State} {m : MethodId} {args : Array Value} {below : List Frame} {meth : Method} {c : Code} {D : va_G} {ad : Nat → Nat} {cI cL : ClassId} {A : Nat → Prop} (C : Cx p s m args meth c yX0_striking.cls cX0_striking 4 (some .int)) (S : MS) (x1 : Int32) (x2 : Int32) (x3 : Int32) (Hd : MS → Int32 → Int32 → Prop) (K : MS → Int32 → Prop) (Q : Int32 → MS → Prop) (hq : JX0_striking_29 S x1 x2 x3 Hd K Q) (H : Heap) (locs : List Loc) (ls : Array Slot) (hw : WW D (ctys cI cL) (cw ad cI cL S) A s H locs) (hl : lv_has ls 4 [(0, .ref (ad 2)), (1, .int x1), (2, .int x2), (3, .int x3)]) (hH : ∀ (S : MS) (z2 : Int32) (z3 : Int32) (H : Heap) (locs : List Loc) (ls : Array Slot), Hd S z2 z3 → WW D (ctys cI cL) (cw ad cI cL S) A s H locs → lv_has ls 4 [(0, .ref (ad 2)), (1, .int x1), (2, .int z2), (3, .int z3)] → W p l e { frames := 0, cells := 0, slots := 0, locals := 0 } s m args below meth c H locs 0 0 (Zi D (ctys cI cL) (cw ad cI cL) A below args s Q) (F0 m 4 ls [])) (hK : ∀ (S : MS) (z2 : Int32) (H : Heap) (locs : List Loc) (ls : Array Slot), K S z2 → WW D (ctys cI cL) (cw ad cI cL S) A s H locs → lv_has ls 4 [(2, .int z2)] → W p l e { frames := 0, cells := 0, slots := 0, locals := 0 } s m args below meth c H locs 0 0 (Zi D (ctys cI cL) (cw ad cI cL) A below args s Q) (F0 m 35 ls [])) : W p l e { frames := 0, cells := 0, slots := 0, locals := 0 } s m args below meth c H locs 0 0 (Zi D (ctys cI cL) (cw ad cI cL) A below args s Q) (F0 m 29 ls []) := by
  have hx := C.1
  have hb := C.2.1
  unfold JX0_striking_29 at hq
  refine lv_iinc (v := x3 + 1) (lv' := [(3, .int (x3 + 1)), (0, .ref (ad 2)), (1, .int x1), (2, .int x2)]) hx hb dX0_striking_29 hl (k := 3) rfl rfl (by decide) rfl (fun ls hl => ?_)
  refine lv_goto (tgt := 4) hx hb dX0_striking_32 (by decide) ?_
  exact hH S x2 (x3 + 1) _ _ _ hq hw (lv_sub hl [1, 2, 3, 0] rfl)
set_option maxHeartbeats 4000000 in
set_option maxRecDepth 100000 in
theorem kLX0_striking_4 {p : Program} {l : Launch} {e : Env} {s : State} {m : MethodId} {args : Array Value} {below : List Frame} {meth : Method} {c : Code} {D : va_G} {ad : Nat → Nat} {cI cL : ClassId} {A : Nat → Prop} (C : Cx p s m args meth c yX0_striking.cls cX0_striking 4 (some .int)) (x1 : Int32) (K : MS → Int32 → Prop) (Q : Int32 → MS → Prop) (hK : ∀ (S : MS) (z2 : Int32) (H : Heap) (locs : List Loc) (ls : Array Slot), K S z2 → WW D (ctys cI cL) (cw ad cI cL S) A s H locs → lv_has ls 4 [(2, .int z2)] → W p l e { frames := 0, cells := 0, slots := 0, locals := 0 } s m args below meth c H locs 0 0 (Zi D (ctys cI cL) (cw ad cI cL) A below args s Q) (F0 m 35 ls [])) : ∀ (n : Nat) (S : MS) (x2 : Int32) (x3 : Int32) (_ : LX0_striking_4 x1 K Q n S x2 x3) (H : Heap) (locs : List Loc) (ls : Array Slot), WW D (ctys cI cL) (cw ad cI cL S) A s H locs → lv_has ls 4 [(0, .ref (ad 2)), (1, .int x1), (2, .int x2), (3, .int x3)] → W p l e { frames := 0, cells := 0, slots := 0, locals := 0 } s m args below meth c H locs 0 0 (Zi D (ctys cI cL) (cw ad cI cL) A below args s Q) (F0 m 4 ls []) := by
  have hx := C.1
  have hb := C.2.1
  intro n
  induction n with
  | zero => intro S x2 x3 hq; exact absurd hq (by rw [LX0_striking_4]; exact id)
  | succ n ih =>
    intro S x2 x3 hq H locs ls hw hl
    rw [LX0_striking_4] at hq
    refine lv_iload_n hx hb dX0_striking_4 rfl (lv_at hl 3 rfl) ?_
    refine lv_aload_n hx hb dX0_striking_5 rfl (lv_at hl 0 rfl) ?_
    refine w_get C hw uw_X0 2 cO_X0 rfl 2 (by decide) fl_X0_18 rfl dX0_striking_6 ?_
    refine lv_icmp_ge (tgt := 35) hx hb dX0_striking_9 (by decide) (fun hc => ?_) (fun hc => ?_)
    · replace hq := hq.1 hc
      exact hK S x2 _ _ _ hq hw (lv_sub hl [2] rfl)
    · replace hq := hq.2 hc
      refine lv_aload_n hx hb dX0_striking_12 rfl (lv_at hl 0 rfl) ?_
      refine w_get C hw uw_X0 2 cO_X0 rfl 1 (by decide) fl_X0_15 rfl dX0_striking_13 ?_
      refine lv_iload_n hx hb dX0_striking_16 rfl (lv_at hl 3 rfl) ?_
      obtain ⟨hin, hq⟩ := hq
      refine w_ild C hw 13 0 cI_7 rfl hin dX0_striking_17 ?_
      refine lv_iload_n hx hb dX0_striking_18 rfl (lv_at hl 1 rfl) ?_
      refine lv_iand hx hb dX0_striking_19 ?_
      refine lv_if_eq (tgt := 29) hx hb dX0_striking_20 (by decide) (fun hc => ?_) (fun hc => ?_)
      · replace hq := hq.1 hc
        exact kJX0_striking_29 C S x1 x2 x3 _ K Q hq _ _ _ hw (lv_sub hl [0, 1, 2, 3] rfl) (fun S a2 a3 H locs ls hq hw hl => ih S a2 a3 hq H locs ls hw hl) hK
      · replace hq := hq.2 hc
        refine lv_iload_n hx hb dX0_striking_23 rfl (lv_at hl 2 rfl) ?_
        refine lv_iconst (v := 1) hx hb dX0_striking_24 (by decide) ?_
        refine lv_iload_n hx hb dX0_striking_25 rfl (lv_at hl 3 rfl) ?_
        refine lv_ishl hx hb dX0_striking_26 ?_
        refine lv_ior hx hb dX0_striking_27 ?_
        refine lv_topi (fun v_1 ev_1 => ?_)
        replace hq := hq v_1 ev_1
        refine lv_istore_n (lv' := [(2, .int v_1), (0, .ref (ad 2)), (1, .int x1), (3, .int x3)]) hx hb dX0_striking_28 rfl hl (by decide) rfl (fun ls hl => ?_)
        exact kJX0_striking_29 C S x1 v_1 x3 _ K Q hq _ _ _ hw (lv_sub hl [1, 2, 0, 3] rfl) (fun S a2 a3 H locs ls hq hw hl => ih S a2 a3 hq H locs ls hw hl) hK
set_option maxHeartbeats 4000000 in
set_option maxRecDepth 100000 in
theorem mX0_striking (l : Launch) (D : va_G) (ad : Nat → Nat) (cI cL : ClassId) (S : MS) (x1 : Int32) (Q : Int32 → MS → Prop) (hq : wX0_striking S x1 Q) : Mi l yX0_striking cX0_striking 4 (some .int) { frames := 0, cells := 0, slots := 0, locals := 0 } D (ctys cI cL) (cw ad cI cL) [.ref (ad 2), .int x1] S Q := by
  refine Mi.of (by decide +kernel) (Nat.le_of_ble_eq_true rfl) ?_
  intro p e s m args below meth c A ls C hw hl
  have hx := C.1
  have hb := C.2.1
  have hl : lv_has ls 4 [(0, .ref (ad 2)), (1, .int x1)] := hl
  have hw : WW D (ctys cI cL) (cw ad cI cL S) A s s.heap [] := hw
  unfold wX0_striking at hq
  refine lv_iconst (v := 0) hx hb dX0_striking_0 (by decide) ?_
  refine lv_istore_n (lv' := [(2, .int 0), (0, .ref (ad 2)), (1, .int x1)]) hx hb dX0_striking_1 rfl hl (by decide) rfl (fun ls hl => ?_)
  refine lv_iconst (v := 0) hx hb dX0_striking_2 (by decide) ?_
  refine lv_istore_n (lv' := [(3, .int 0), (2, .int 0), (0, .ref (ad 2)), (1, .int x1)]) hx hb dX0_striking_3 rfl hl (by decide) rfl (fun ls hl => ?_)
  obtain ⟨n0, hq⟩ := hq
  refine kLX0_striking_4 C x1 _ Q ?_ n0 S 0 0 hq _ _ _ hw (lv_sub hl [2, 3, 1, 0] rfl)
  clear hw hl hq
  intro S_1 y_2 H locs ls hq hw hl
  refine lv_iload_n hx hb dX0_striking_35 rfl (lv_at hl 0 rfl) ?_
  exact w_iret C hw hq dX0_striking_36
set_option maxHeartbeats 4000000 in
set_option maxRecDepth 100000 in
theorem mX4_partsBelow (l : Launch) (D : va_G) (ad : Nat → Nat) (cI cL : ClassId) (S : MS) (x1 : Int32) (Q : Int32 → MS → Prop) (hq : wX4_partsBelow S x1 Q) : Mi l yX4_partsBelow cX4_partsBelow 2 (some .int) { frames := 0, cells := 0, slots := 0, locals := 0 } D (ctys cI cL) (cw ad cI cL) [.ref (ad 3), .int x1] S Q := by
  refine Mi.of (by decide +kernel) (Nat.le_of_ble_eq_true rfl) ?_
  intro p e s m args below meth c A ls C hw hl
  have hx := C.1
  have hb := C.2.1
  have hl : lv_has ls 2 [(0, .ref (ad 3)), (1, .int x1)] := hl
  have hw : WW D (ctys cI cL) (cw ad cI cL S) A s s.heap [] := hw
  unfold wX4_partsBelow at hq
  refine lv_aload_n hx hb dX4_partsBelow_0 rfl (lv_at hl 0 rfl) ?_
  refine w_get C hw uw_X4 3 cO_X4 rfl 3 (by decide) fl_X4_21 rfl dX4_partsBelow_1 ?_
  refine lv_iload_n hx hb dX4_partsBelow_4 rfl (lv_at hl 1 rfl) ?_
  obtain ⟨hin, hq⟩ := hq
  refine w_ild C hw 17 0 cI_11 rfl hin dX4_partsBelow_5 ?_
  exact w_iret C hw hq dX4_partsBelow_6
set_option maxHeartbeats 4000000 in
set_option maxRecDepth 100000 in
theorem mX1_groupsOf (l : Launch) (D : va_G) (ad : Nat → Nat) (cI cL : ClassId) (S : MS) (x1 : Int32) (Q : Int32 → MS → Prop) (hq : wX1_groupsOf S x1 Q) : Mi l yX1_groupsOf cX1_groupsOf 2 (some .int) { frames := 1, cells := 0, slots := 0, locals := 23 } D (ctys cI cL) (cw ad cI cL) [.ref (ad 4), .int x1] S Q := by
  refine Mi.of (by decide +kernel) (Nat.le_of_ble_eq_true rfl) ?_
  intro p e s m args below meth c A ls C hw hl
  have hx := C.1
  have hb := C.2.1
  have hl : lv_has ls 2 [(0, .ref (ad 4)), (1, .int x1)] := hl
  have hw : WW D (ctys cI cL) (cw ad cI cL S) A s s.heap [] := hw
  unfold wX1_groupsOf at hq
  refine lv_aload_n hx hb dX1_groupsOf_0 rfl (lv_at hl 0 rfl) ?_
  refine w_get C hw uw_X1 4 cO_X1 rfl 1 (by decide) fl_X1_36 rfl dX1_groupsOf_1 ?_
  refine lv_aload_n hx hb dX1_groupsOf_4 rfl (lv_at hl 0 rfl) ?_
  refine w_get C hw uw_X1 4 cO_X1 rfl 2 (by decide) fl_X1_40 rfl dX1_groupsOf_5 ?_
  refine lv_iload_n hx hb dX1_groupsOf_8 rfl (lv_at hl 1 rfl) ?_
  refine w_calli hw (w_runV (rest := [.ref (ad 2)]) C hw (mX4_partsBelow l D ad cI cL S x1 _ hq _) kc_X4_partsBelow ml_X1_44 3 cO_X4 rfl rfl ⟨rfl, rfl, Nat.le_of_ble_eq_true rfl, Nat.le_of_ble_eq_true rfl⟩ rfl rfl (Nat.le_of_ble_eq_true rfl) hl.1 dX1_groupsOf_9) ?_
  clear hw hq
  intro r_2 S_1 H locs hq hw
  refine w_calli hw (w_runV (rest := []) C hw (mX0_striking l D ad cI cL S_1 r_2 _ hq _) kc_X0_striking ml_X1_50 2 cO_X0 rfl rfl ⟨rfl, rfl, Nat.le_of_ble_eq_true rfl, Nat.le_of_ble_eq_true rfl⟩ rfl rfl (Nat.le_of_ble_eq_true rfl) hl.1 dX1_groupsOf_12) ?_
  clear hw hq
  intro r_4 S_3 H locs hq hw
  exact w_iret C hw hq dX1_groupsOf_15
set_option maxHeartbeats 4000000 in
set_option maxRecDepth 100000 in
theorem mJ6_bitCount_0f7a4 (l : Launch) (D : va_G) (ad : Nat → Nat) (cI cL : ClassId) (S : MS) (x0 : Int32) (Q : Int32 → MS → Prop) (hq : wJ6_bitCount_0f7a4 S x0 Q) : Mi l yJ6_bitCount_0f7a4 cJ6_bitCount_0f7a4 1 (some .int) { frames := 0, cells := 0, slots := 0, locals := 0 } D (ctys cI cL) (cw ad cI cL) [.int x0] S Q := by
  refine Mi.of (by decide +kernel) (Nat.le_of_ble_eq_true rfl) ?_
  intro p e s m args below meth c A ls C hw hl
  have hx := C.1
  have hb := C.2.1
  have hl : lv_has ls 1 [(0, .int x0)] := hl
  have hw : WW D (ctys cI cL) (cw ad cI cL S) A s s.heap [] := hw
  unfold wJ6_bitCount_0f7a4 at hq
  refine lv_iload_n hx hb dJ6_bitCount_0f7a4_0 rfl (lv_at hl 0 rfl) ?_
  refine lv_iload_n hx hb dJ6_bitCount_0f7a4_1 rfl (lv_at hl 0 rfl) ?_
  refine lv_iconst (v := 1) hx hb dJ6_bitCount_0f7a4_2 (by decide) ?_
  refine lv_iushr (v := (jiushr x0 1)) hx hb dJ6_bitCount_0f7a4_3 rfl ?_
  refine lv_ldcw hx hb C.2.2.2.2.1 (C.w kk_J6_265 rfl) dJ6_bitCount_0f7a4_4 ?_
  refine lv_iand hx hb dJ6_bitCount_0f7a4_7 ?_
  refine lv_isub hx hb dJ6_bitCount_0f7a4_8 ?_
  refine lv_topi (fun v_1 ev_1 => ?_)
  replace hq := hq v_1 ev_1
  refine lv_istore_n (lv' := [(0, .int v_1)]) hx hb dJ6_bitCount_0f7a4_9 rfl hl (by decide) rfl (fun ls hl => ?_)
  refine lv_iload_n hx hb dJ6_bitCount_0f7a4_10 rfl (lv_at hl 0 rfl) ?_
  refine lv_ldcw hx hb C.2.2.2.2.1 (C.w kk_J6_266 rfl) dJ6_bitCount_0f7a4_11 ?_
  refine lv_iand hx hb dJ6_bitCount_0f7a4_14 ?_
  refine lv_iload_n hx hb dJ6_bitCount_0f7a4_15 rfl (lv_at hl 0 rfl) ?_
  refine lv_iconst (v := 2) hx hb dJ6_bitCount_0f7a4_16 (by decide) ?_
  refine lv_iushr (v := (jiushr v_1 2)) hx hb dJ6_bitCount_0f7a4_17 rfl ?_
  refine lv_ldcw hx hb C.2.2.2.2.1 (C.w kk_J6_266 rfl) dJ6_bitCount_0f7a4_18 ?_
  refine lv_iand hx hb dJ6_bitCount_0f7a4_21 ?_
  refine lv_iadd hx hb dJ6_bitCount_0f7a4_22 ?_
  refine lv_topi (fun v_2 ev_2 => ?_)
  replace hq := hq v_2 ev_2
  refine lv_istore_n (lv' := [(0, .int v_2)]) hx hb dJ6_bitCount_0f7a4_23 rfl hl (by decide) rfl (fun ls hl => ?_)
  refine lv_iload_n hx hb dJ6_bitCount_0f7a4_24 rfl (lv_at hl 0 rfl) ?_
  refine lv_iload_n hx hb dJ6_bitCount_0f7a4_25 rfl (lv_at hl 0 rfl) ?_
  refine lv_iconst (v := 4) hx hb dJ6_bitCount_0f7a4_26 (by decide) ?_
  refine lv_iushr (v := (jiushr v_2 4)) hx hb dJ6_bitCount_0f7a4_27 rfl ?_
  refine lv_iadd hx hb dJ6_bitCount_0f7a4_28 ?_
  refine lv_ldcw hx hb C.2.2.2.2.1 (C.w kk_J6_267 rfl) dJ6_bitCount_0f7a4_29 ?_
  refine lv_iand hx hb dJ6_bitCount_0f7a4_32 ?_
  refine lv_topi (fun v_3 ev_3 => ?_)
  replace hq := hq v_3 ev_3
  refine lv_istore_n (lv' := [(0, .int v_3)]) hx hb dJ6_bitCount_0f7a4_33 rfl hl (by decide) rfl (fun ls hl => ?_)
  refine lv_iload_n hx hb dJ6_bitCount_0f7a4_34 rfl (lv_at hl 0 rfl) ?_
  refine lv_iload_n hx hb dJ6_bitCount_0f7a4_35 rfl (lv_at hl 0 rfl) ?_
  refine lv_bipush (v := 8) hx hb dJ6_bitCount_0f7a4_36 (by decide) ?_
  refine lv_iushr (v := (jiushr v_3 8)) hx hb dJ6_bitCount_0f7a4_38 rfl ?_
  refine lv_iadd hx hb dJ6_bitCount_0f7a4_39 ?_
  refine lv_istore_n (lv' := [(0, .int (v_3 + (jiushr v_3 8)))]) hx hb dJ6_bitCount_0f7a4_40 rfl hl (by decide) rfl (fun ls hl => ?_)
  refine lv_iload_n hx hb dJ6_bitCount_0f7a4_41 rfl (lv_at hl 0 rfl) ?_
  refine lv_iload_n hx hb dJ6_bitCount_0f7a4_42 rfl (lv_at hl 0 rfl) ?_
  refine lv_bipush (v := 16) hx hb dJ6_bitCount_0f7a4_43 (by decide) ?_
  refine lv_iushr (v := (jiushr (v_3 + (jiushr v_3 8)) 16)) hx hb dJ6_bitCount_0f7a4_45 rfl ?_
  refine lv_iadd hx hb dJ6_bitCount_0f7a4_46 ?_
  refine lv_topi (fun v_4 ev_4 => ?_)
  replace hq := hq v_4 ev_4
  refine lv_istore_n (lv' := [(0, .int v_4)]) hx hb dJ6_bitCount_0f7a4_47 rfl hl (by decide) rfl (fun ls hl => ?_)
  refine lv_iload_n hx hb dJ6_bitCount_0f7a4_48 rfl (lv_at hl 0 rfl) ?_
  refine lv_bipush (v := 63) hx hb dJ6_bitCount_0f7a4_49 (by decide) ?_
  refine lv_iand hx hb dJ6_bitCount_0f7a4_51 ?_
  exact w_iret C hw hq dJ6_bitCount_0f7a4_52
set_option maxHeartbeats 4000000 in
set_option maxRecDepth 100000 in
theorem mX4_sizeBelow (l : Launch) (D : va_G) (ad : Nat → Nat) (cI cL : ClassId) (S : MS) (x1 : Int32) (Q : Int32 → MS → Prop) (hq : wX4_sizeBelow S x1 Q) : Mi l yX4_sizeBelow cX4_sizeBelow 2 (some .int) { frames := 1, cells := 0, slots := 0, locals := 20 } D (ctys cI cL) (cw ad cI cL) [.ref (ad 3), .int x1] S Q := by
  refine Mi.of (by decide +kernel) (Nat.le_of_ble_eq_true rfl) ?_
  intro p e s m args below meth c A ls C hw hl
  have hx := C.1
  have hb := C.2.1
  have hl : lv_has ls 2 [(0, .ref (ad 3)), (1, .int x1)] := hl
  have hw : WW D (ctys cI cL) (cw ad cI cL S) A s s.heap [] := hw
  unfold wX4_sizeBelow at hq
  refine lv_aload_n hx hb dX4_sizeBelow_0 rfl (lv_at hl 0 rfl) ?_
  refine w_get C hw uw_X4 3 cO_X4 rfl 3 (by decide) fl_X4_21 rfl dX4_sizeBelow_1 ?_
  refine lv_iload_n hx hb dX4_sizeBelow_4 rfl (lv_at hl 1 rfl) ?_
  obtain ⟨hin, hq⟩ := hq
  refine w_ild C hw 17 0 cI_11 rfl hin dX4_sizeBelow_5 ?_
  refine w_calli hw (w_runS (rest := []) C hw (mJ6_bitCount_0f7a4 l D ad cI cL S (S.1 11 x1.toNatClampNeg) _ hq _) kc_J6_bitCount_0f7a4 ml_X4_32 ⟨rfl, rfl, Nat.le_of_ble_eq_true rfl, Nat.le_of_ble_eq_true rfl⟩ rfl rfl (Nat.le_of_ble_eq_true rfl) hl.1 dX4_sizeBelow_6) ?_
  clear hw hq
  intro r_2 S_1 H locs hq hw
  exact w_iret C hw hq dX4_sizeBelow_9
set_option maxHeartbeats 4000000 in
set_option maxRecDepth 100000 in
theorem mX1_eventsOf (l : Launch) (D : va_G) (ad : Nat → Nat) (cI cL : ClassId) (S : MS) (x1 : Int32) (Q : Int32 → MS → Prop) (hq : wX1_eventsOf S x1 Q) : Mi l yX1_eventsOf cX1_eventsOf 2 (some .int) { frames := 2, cells := 0, slots := 0, locals := 44 } D (ctys cI cL) (cw ad cI cL) [.ref (ad 4), .int x1] S Q := by
  refine Mi.of (by decide +kernel) (Nat.le_of_ble_eq_true rfl) ?_
  intro p e s m args below meth c A ls C hw hl
  have hx := C.1
  have hb := C.2.1
  have hl : lv_has ls 2 [(0, .ref (ad 4)), (1, .int x1)] := hl
  have hw : WW D (ctys cI cL) (cw ad cI cL S) A s s.heap [] := hw
  unfold wX1_eventsOf at hq
  refine lv_aload_n hx hb dX1_eventsOf_0 rfl (lv_at hl 0 rfl) ?_
  refine w_get C hw uw_X1 4 cO_X1 rfl 2 (by decide) fl_X1_40 rfl dX1_eventsOf_1 ?_
  refine lv_iload_n hx hb dX1_eventsOf_4 rfl (lv_at hl 1 rfl) ?_
  refine w_calli hw (w_runV (rest := []) C hw (mX4_sizeBelow l D ad cI cL S x1 _ hq _) kc_X4_sizeBelow ml_X1_55 3 cO_X4 rfl rfl ⟨rfl, rfl, Nat.le_of_ble_eq_true rfl, Nat.le_of_ble_eq_true rfl⟩ rfl rfl (Nat.le_of_ble_eq_true rfl) hl.1 dX1_eventsOf_5) ?_
  clear hw hq
  intro r_2 S_1 H locs hq hw
  refine lv_aload_n hx hb dX1_eventsOf_8 rfl (lv_at hl 0 rfl) ?_
  refine lv_iload_n hx hb dX1_eventsOf_9 rfl (lv_at hl 1 rfl) ?_
  refine w_calli hw (w_runV (rest := [.int r_2]) C hw (mX1_groupsOf l D ad cI cL S_1 x1 _ hq _) kc_X1_groupsOf ml_X1_58 4 cO_X1 rfl rfl ⟨rfl, rfl, Nat.le_of_ble_eq_true rfl, Nat.le_of_ble_eq_true rfl⟩ rfl rfl (Nat.le_of_ble_eq_true rfl) hl.1 dX1_eventsOf_10) ?_
  clear hw hq
  intro r_4 S_3 H locs hq hw
  refine w_calli hw (w_runS (rest := [.int r_2]) C hw (mJ6_bitCount_0f7a4 l D ad cI cL S_3 r_4 _ hq _) kc_J6_bitCount_0f7a4 ml_X1_61 ⟨rfl, rfl, Nat.le_of_ble_eq_true rfl, Nat.le_of_ble_eq_true rfl⟩ rfl rfl (Nat.le_of_ble_eq_true rfl) hl.1 dX1_eventsOf_13) ?_
  clear hw hq
  intro r_6 S_5 H locs hq hw
  refine lv_iadd hx hb dX1_eventsOf_16 ?_
  exact w_iret C hw hq dX1_eventsOf_17
set_option maxHeartbeats 4000000 in
set_option maxRecDepth 100000 in
theorem mX1_hasTooManyEvents (l : Launch) (D : va_G) (ad : Nat → Nat) (cI cL : ClassId) (S : MS) (x1 : Int32) (Q : Int32 → MS → Prop) (hq : wX1_hasTooManyEvents S x1 Q) : Mi l yX1_hasTooManyEvents cX1_hasTooManyEvents 2 (some .boolean) { frames := 3, cells := 0, slots := 0, locals := 65 } D (ctys cI cL) (cw ad cI cL) [.ref (ad 4), .int x1] S Q := by
  refine Mi.of (by decide +kernel) (Nat.le_of_ble_eq_true rfl) ?_
  intro p e s m args below meth c A ls C hw hl
  have hx := C.1
  have hb := C.2.1
  have hl : lv_has ls 2 [(0, .ref (ad 4)), (1, .int x1)] := hl
  have hw : WW D (ctys cI cL) (cw ad cI cL S) A s s.heap [] := hw
  unfold wX1_hasTooManyEvents at hq
  refine lv_aload_n hx hb dX1_hasTooManyEvents_0 rfl (lv_at hl 0 rfl) ?_
  refine lv_iload_n hx hb dX1_hasTooManyEvents_1 rfl (lv_at hl 1 rfl) ?_
  refine w_calli hw (w_runV (rest := []) C hw (mX1_eventsOf l D ad cI cL S x1 _ hq _) kc_X1_eventsOf ml_X1_66 4 cO_X1 rfl rfl ⟨rfl, rfl, Nat.le_of_ble_eq_true rfl, Nat.le_of_ble_eq_true rfl⟩ rfl rfl (Nat.le_of_ble_eq_true rfl) hl.1 dX1_hasTooManyEvents_2) ?_
  clear hw hq
  intro r_2 S_1 H locs hq hw
  refine lv_bipush (v := 8) hx hb dX1_hasTooManyEvents_5 (by decide) ?_
  refine lv_icmp_le (tgt := 14) hx hb dX1_hasTooManyEvents_7 (by decide) (fun hc => ?_) (fun hc => ?_)
  · replace hq := hq.1 hc
    refine lv_iconst (v := 0) hx hb dX1_hasTooManyEvents_14 (by decide) ?_
    exact w_zret C hw rfl hq dX1_hasTooManyEvents_15
  · replace hq := hq.2 hc
    refine lv_iconst (v := 1) hx hb dX1_hasTooManyEvents_10 (by decide) ?_
    refine lv_goto (tgt := 15) hx hb dX1_hasTooManyEvents_11 (by decide) ?_
    exact w_zret C hw rfl hq dX1_hasTooManyEvents_15
set_option maxHeartbeats 4000000 in
set_option maxRecDepth 100000 in
theorem mX5_hasBit (l : Launch) (D : va_G) (ad : Nat → Nat) (cI cL : ClassId) (S : MS) (x0 : Int32) (x1 : Int32) (Q : Int32 → MS → Prop) (hq : wX5_hasBit S x0 x1 Q) : Mi l yX5_hasBit cX5_hasBit 2 (some .boolean) { frames := 0, cells := 0, slots := 0, locals := 0 } D (ctys cI cL) (cw ad cI cL) [.int x0, .int x1] S Q := by
  refine Mi.of (by decide +kernel) (Nat.le_of_ble_eq_true rfl) ?_
  intro p e s m args below meth c A ls C hw hl
  have hx := C.1
  have hb := C.2.1
  have hl : lv_has ls 2 [(0, .int x0), (1, .int x1)] := hl
  have hw : WW D (ctys cI cL) (cw ad cI cL S) A s s.heap [] := hw
  unfold wX5_hasBit at hq
  refine lv_iload_n hx hb dX5_hasBit_0 rfl (lv_at hl 0 rfl) ?_
  refine lv_iload_n hx hb dX5_hasBit_1 rfl (lv_at hl 1 rfl) ?_
  refine lv_iushr (v := (jiushr x0 x1)) hx hb dX5_hasBit_2 rfl ?_
  refine lv_iconst (v := 1) hx hb dX5_hasBit_3 (by decide) ?_
  refine lv_iand hx hb dX5_hasBit_4 ?_
  refine lv_if_eq (tgt := 12) hx hb dX5_hasBit_5 (by decide) (fun hc => ?_) (fun hc => ?_)
  · replace hq := hq.1 hc
    refine lv_iconst (v := 0) hx hb dX5_hasBit_12 (by decide) ?_
    exact w_zret C hw rfl hq dX5_hasBit_13
  · replace hq := hq.2 hc
    refine lv_iconst (v := 1) hx hb dX5_hasBit_8 (by decide) ?_
    refine lv_goto (tgt := 13) hx hb dX5_hasBit_9 (by decide) ?_
    exact w_zret C hw rfl hq dX5_hasBit_13
set_option maxHeartbeats 4000000 in
set_option maxRecDepth 100000 in
theorem kJX1_takeMembers_57 {p : Program} {l : Launch} {e : Env} {s : State} {m : MethodId} {args : Array Value} {below : List Frame} {meth : Method} {c : Code} {D : va_G} {ad : Nat → Nat} {cI cL : ClassId} {A : Nat → Prop} (C : Cx p s m args meth c yX1_takeMembers.cls cX1_takeMembers 3 none) (S : MS) (x1 : Int32) (x2 : Int32) (Hd : MS → Int32 → Prop) (K : MS → Prop) (Q : MS → Prop) (hq : JX1_takeMembers_57 S x1 x2 Hd K Q) (H : Heap) (locs : List Loc) (ls : Array Slot) (hw : WW D (ctys cI cL) (cw ad cI cL S) A s H locs) (hl : lv_has ls 3 [(0, .ref (ad 4)), (1, .int x1), (2, .int x2)]) (hH : ∀ (S : MS) (z2 : Int32) (H : Heap) (locs : List Loc) (ls : Array Slot), Hd S z2 → WW D (ctys cI cL) (cw ad cI cL S) A s H locs → lv_has ls 3 [(0, .ref (ad 4)), (1, .int x1), (2, .int z2)] → W p l e { frames := 1, cells := 0, slots := 0, locals := 21 } s m args below meth c H locs 0 0 (Zv D (ctys cI cL) (cw ad cI cL) A below args s Q) (F0 m 7 ls [])) (hK : ∀ (S : MS) (H : Heap) (locs : List Loc) (ls : Array Slot), K S  → WW D (ctys cI cL) (cw ad cI cL S) A s H locs → lv_has ls 3 [(0, .ref (ad 4))] → W p l e { frames := 1, cells := 0, slots := 0, locals := 21 } s m args below meth c H locs 0 0 (Zv D (ctys cI cL) (cw ad cI cL) A below args s Q) (F0 m 63 ls [])) : W p l e { frames := 1, cells := 0, slots := 0, locals := 21 } s m args below meth c H locs 0 0 (Zv D (ctys cI cL) (cw ad cI cL) A below args s Q) (F0 m 57 ls []) := by
  have hx := C.1
  have hb := C.2.1
  unfold JX1_takeMembers_57 at hq
  refine lv_iinc (v := x2 + 1) (lv' := [(2, .int (x2 + 1)), (0, .ref (ad 4)), (1, .int x1)]) hx hb dX1_takeMembers_57 hl (k := 2) rfl rfl (by decide) rfl (fun ls hl => ?_)
  refine lv_goto (tgt := 7) hx hb dX1_takeMembers_60 (by decide) ?_
  exact hH S (x2 + 1) _ _ _ hq hw (lv_sub hl [1, 2, 0] rfl)
set_option maxHeartbeats 4000000 in
set_option maxRecDepth 100000 in
theorem kLX1_takeMembers_7 {p : Program} {l : Launch} {e : Env} {s : State} {m : MethodId} {args : Array Value} {below : List Frame} {meth : Method} {c : Code} {D : va_G} {ad : Nat → Nat} {cI cL : ClassId} {A : Nat → Prop} (C : Cx p s m args meth c yX1_takeMembers.cls cX1_takeMembers 3 none) (x1 : Int32) (K : MS → Prop) (Q : MS → Prop) (hK : ∀ (S : MS) (H : Heap) (locs : List Loc) (ls : Array Slot), K S  → WW D (ctys cI cL) (cw ad cI cL S) A s H locs → lv_has ls 3 [(0, .ref (ad 4))] → W p l e { frames := 1, cells := 0, slots := 0, locals := 21 } s m args below meth c H locs 0 0 (Zv D (ctys cI cL) (cw ad cI cL) A below args s Q) (F0 m 63 ls [])) : ∀ (n : Nat) (S : MS) (x2 : Int32) (_ : LX1_takeMembers_7 x1 K Q n S x2) (H : Heap) (locs : List Loc) (ls : Array Slot), WW D (ctys cI cL) (cw ad cI cL S) A s H locs → lv_has ls 3 [(0, .ref (ad 4)), (1, .int x1), (2, .int x2)] → W p l e { frames := 1, cells := 0, slots := 0, locals := 21 } s m args below meth c H locs 0 0 (Zv D (ctys cI cL) (cw ad cI cL) A below args s Q) (F0 m 7 ls []) := by
  have hx := C.1
  have hb := C.2.1
  intro n
  induction n with
  | zero => intro S x2 hq; exact absurd hq (by rw [LX1_takeMembers_7]; exact id)
  | succ n ih =>
    intro S x2 hq H locs ls hw hl
    rw [LX1_takeMembers_7] at hq
    refine lv_iload_n hx hb dX1_takeMembers_7 rfl (lv_at hl 2 rfl) ?_
    refine lv_bipush (v := 12) hx hb dX1_takeMembers_8 (by decide) ?_
    refine lv_icmp_ge (tgt := 63) hx hb dX1_takeMembers_10 (by decide) (fun hc => ?_) (fun hc => ?_)
    · replace hq := hq.1 hc
      exact hK S  _ _ _ hq hw (lv_sub hl [0] rfl)
    · replace hq := hq.2 hc
      refine lv_aload_n hx hb dX1_takeMembers_13 rfl (lv_at hl 0 rfl) ?_
      refine w_get C hw uw_X1 4 cO_X1 rfl 7 (by decide) fl_X1_25 rfl dX1_takeMembers_14 ?_
      refine lv_bipush (v := 8) hx hb dX1_takeMembers_17 (by decide) ?_
      refine lv_icmp_ge (tgt := 63) hx hb dX1_takeMembers_19 (by decide) (fun hc => ?_) (fun hc => ?_)
      · replace hq := hq.1 hc
        exact hK S  _ _ _ hq hw (lv_sub hl [0] rfl)
      · replace hq := hq.2 hc
        refine lv_aload_n hx hb dX1_takeMembers_22 rfl (lv_at hl 0 rfl) ?_
        refine w_get C hw uw_X1 4 cO_X1 rfl 2 (by decide) fl_X1_40 rfl dX1_takeMembers_23 ?_
        refine lv_iload_n hx hb dX1_takeMembers_26 rfl (lv_at hl 1 rfl) ?_
        refine w_calli hw (w_runV (rest := []) C hw (mX4_partsBelow l D ad cI cL S x1 _ hq _) kc_X4_partsBelow ml_X1_44 3 cO_X4 rfl rfl ⟨rfl, rfl, Nat.le_of_ble_eq_true rfl, Nat.le_of_ble_eq_true rfl⟩ rfl rfl (Nat.le_of_ble_eq_true rfl) hl.1 dX1_takeMembers_27) ?_
        clear hw hq
        intro r_2 S_1 H locs hq hw
        refine lv_iload_n hx hb dX1_takeMembers_30 rfl (lv_at hl 2 rfl) ?_
        refine w_calli hw (w_runN (rest := []) C hw (mX5_hasBit l D ad cI cL S_1 r_2 x2 _ hq _) kc_X5_hasBit ml_X1_118 ⟨rfl, rfl, Nat.le_of_ble_eq_true rfl, Nat.le_of_ble_eq_true rfl⟩ rfl rfl (Nat.le_of_ble_eq_true rfl) hl.1 dX1_takeMembers_31) ?_
        clear hw hq
        intro r_4 S_3 H locs hq hw
        refine lv_if_eq (tgt := 57) hx hb dX1_takeMembers_34 (by decide) (fun hc => ?_) (fun hc => ?_)
        · replace hq := hq.1 hc
          exact kJX1_takeMembers_57 C S_3 x1 x2 _ K Q hq _ _ _ hw (lv_sub hl [0, 1, 2] rfl) (fun S a2 H locs ls hq hw hl => ih S a2 hq H locs ls hw hl) hK
        · replace hq := hq.2 hc
          refine lv_aload_n hx hb dX1_takeMembers_37 rfl (lv_at hl 0 rfl) ?_
          refine w_get C hw uw_X1 4 cO_X1 rfl 5 (by decide) fl_X1_18 rfl dX1_takeMembers_38 ?_
          refine lv_aload_n hx hb dX1_takeMembers_41 rfl (lv_at hl 0 rfl) ?_
          refine w_get C hw uw_X1 4 cO_X1 rfl 7 (by decide) fl_X1_25 rfl dX1_takeMembers_42 ?_
          refine lv_iload_n hx hb dX1_takeMembers_45 rfl (lv_at hl 2 rfl) ?_
          obtain ⟨hin, hq⟩ := hq
          obtain ⟨S_5, eS_5⟩ : ∃ z, z = uI S_3 12 (S_3.2.2 4).toNatClampNeg x2 := ⟨_, rfl⟩
          replace hq := hq S_5 eS_5
          refine w_ist (ws' := cw ad cI cL S_5) C hw 18 0 cI_12 rfl hin dX1_takeMembers_46 (by rw [eS_5]; exact cIs_12) (fun H locs hw => ?_)
          refine lv_aload_n hx hb dX1_takeMembers_47 rfl (lv_at hl 0 rfl) ?_
          refine lv_dup hx hb dX1_takeMembers_48 rfl ?_
          refine w_get C hw uw_X1 4 cO_X1 rfl 7 (by decide) fl_X1_25 rfl dX1_takeMembers_49 ?_
          refine lv_iconst (v := 1) hx hb dX1_takeMembers_52 (by decide) ?_
          refine lv_iadd hx hb dX1_takeMembers_53 ?_
          obtain ⟨S_6, eS_6⟩ : ∃ z, z = uF S_5 4 ((S_5.2.2 4) + 1) := ⟨_, rfl⟩
          replace hq := hq S_6 eS_6
          refine w_put (ws' := cw ad cI cL S_6) C hw uw_X1 tyX1 tyX1_ok nmX1 4 cO_X1 rfl 7 (by decide) fl_X1_25 rfl (by decide +kernel) (Nat.le_of_ble_eq_true rfl) dX1_takeMembers_54 (by rw [eS_6]; exact cFs_4) (fun H locs hw => ?_)
          exact kJX1_takeMembers_57 C S_6 x1 x2 _ K Q hq _ _ _ hw (lv_sub hl [0, 1, 2] rfl) (fun S a2 H locs ls hq hw hl => ih S a2 hq H locs ls hw hl) hK
set_option maxHeartbeats 4000000 in
set_option maxRecDepth 100000 in
theorem mX1_takeMembers (l : Launch) (D : va_G) (ad : Nat → Nat) (cI cL : ClassId) (S : MS) (x1 : Int32) (Q : MS → Prop) (hq : wX1_takeMembers S x1 Q) : Mv l yX1_takeMembers cX1_takeMembers 3 none { frames := 1, cells := 0, slots := 0, locals := 21 } D (ctys cI cL) (cw ad cI cL) [.ref (ad 4), .int x1] S Q := by
  refine Mv.of (by decide +kernel) (Nat.le_of_ble_eq_true rfl) ?_
  intro p e s m args below meth c A ls C hw hl
  have hx := C.1
  have hb := C.2.1
  have hl : lv_has ls 3 [(0, .ref (ad 4)), (1, .int x1)] := hl
  have hw : WW D (ctys cI cL) (cw ad cI cL S) A s s.heap [] := hw
  unfold wX1_takeMembers at hq
  refine lv_aload_n hx hb dX1_takeMembers_0 rfl (lv_at hl 0 rfl) ?_
  refine lv_iconst (v := 0) hx hb dX1_takeMembers_1 (by decide) ?_
  obtain ⟨S_1, eS_1⟩ : ∃ z, z = uF S 4 0 := ⟨_, rfl⟩
  replace hq := hq S_1 eS_1
  refine w_put (ws' := cw ad cI cL S_1) C hw uw_X1 tyX1 tyX1_ok nmX1 4 cO_X1 rfl 7 (by decide) fl_X1_25 rfl (by decide +kernel) (Nat.le_of_ble_eq_true rfl) dX1_takeMembers_2 (by rw [eS_1]; exact cFs_4) (fun H locs hw => ?_)
  refine lv_iconst (v := 0) hx hb dX1_takeMembers_5 (by decide) ?_
  refine lv_istore_n (lv' := [(2, .int 0), (0, .ref (ad 4)), (1, .int x1)]) hx hb dX1_takeMembers_6 rfl hl (by decide) rfl (fun ls hl => ?_)
  obtain ⟨n0, hq⟩ := hq
  refine kLX1_takeMembers_7 C x1 _ Q ?_ n0 S_1 0 hq _ _ _ hw (lv_sub hl [1, 2, 0] rfl)
  clear hw hl hq
  intro S_2 H locs ls hq hw hl
  refine lv_aload_n hx hb dX1_takeMembers_63 rfl (lv_at hl 0 rfl) ?_
  refine lv_aload_n hx hb dX1_takeMembers_64 rfl (lv_at hl 0 rfl) ?_
  refine w_get C hw uw_X1 4 cO_X1 rfl 7 (by decide) fl_X1_25 rfl dX1_takeMembers_65 ?_
  obtain ⟨S_3, eS_3⟩ : ∃ z, z = uF S_2 5 (S_2.2.2 4) := ⟨_, rfl⟩
  replace hq := hq S_3 eS_3
  refine w_put (ws' := cw ad cI cL S_3) C hw uw_X1 tyX1 tyX1_ok nmX1 4 cO_X1 rfl 8 (by decide) fl_X1_29 rfl (by decide +kernel) (Nat.le_of_ble_eq_true rfl) dX1_takeMembers_68 (by rw [eS_3]; exact cFs_5) (fun H locs hw => ?_)
  exact w_vret C hw hq dX1_takeMembers_71
set_option maxHeartbeats 4000000 in
set_option maxRecDepth 100000 in
theorem mX4_actsIn (l : Launch) (D : va_G) (ad : Nat → Nat) (cI cL : ClassId) (S : MS) (x1 : Int32) (x2 : Int32) (Q : Int32 → MS → Prop) (hq : wX4_actsIn S x1 x2 Q) : Mi l yX4_actsIn cX4_actsIn 3 (some .boolean) { frames := 0, cells := 0, slots := 0, locals := 0 } D (ctys cI cL) (cw ad cI cL) [.ref (ad 3), .int x1, .int x2] S Q := by
  refine Mi.of (by decide +kernel) (Nat.le_of_ble_eq_true rfl) ?_
  intro p e s m args below meth c A ls C hw hl
  have hx := C.1
  have hb := C.2.1
  have hl : lv_has ls 3 [(0, .ref (ad 3)), (1, .int x1), (2, .int x2)] := hl
  have hw : WW D (ctys cI cL) (cw ad cI cL S) A s s.heap [] := hw
  unfold wX4_actsIn at hq
  refine lv_aload_n hx hb dX4_actsIn_0 rfl (lv_at hl 0 rfl) ?_
  refine w_get C hw uw_X4 3 cO_X4 rfl 4 (by decide) fl_X4_24 rfl dX4_actsIn_1 ?_
  refine lv_iload_n hx hb dX4_actsIn_4 rfl (lv_at hl 1 rfl) ?_
  refine lv_iconst (v := 4) hx hb dX4_actsIn_5 (by decide) ?_
  refine lv_imul hx hb dX4_actsIn_6 ?_
  refine lv_iload_n hx hb dX4_actsIn_7 rfl (lv_at hl 2 rfl) ?_
  refine lv_bipush (v := 6) hx hb dX4_actsIn_8 (by decide) ?_
  refine lv_ishr hx hb dX4_actsIn_10 ?_
  refine lv_iadd hx hb dX4_actsIn_11 ?_
  obtain ⟨hin, hq⟩ := hq
  refine w_lld C hw 24 1 cL_1 rfl hin dX4_actsIn_12 ?_
  refine lv_iload_n hx hb dX4_actsIn_13 rfl (lv_at hl 2 rfl) ?_
  refine lv_bipush (v := 63) hx hb dX4_actsIn_14 (by decide) ?_
  refine lv_iand hx hb dX4_actsIn_16 ?_
  refine lv_lushr (v := (jlushr (S.2.1 1 ((x1 * 4) + (x2 >>> ((6 : Int32) &&& 31))).toNatClampNeg) (x2 &&& 63))) hx hb dX4_actsIn_17 rfl ?_
  refine lv_lconst (v := 1) hx hb dX4_actsIn_18 (by decide) ?_
  refine lv_land hx hb dX4_actsIn_19 ?_
  refine lv_lconst (v := 0) hx hb dX4_actsIn_20 (by decide) ?_
  refine W.lcmp hx hb dX4_actsIn_21 ?_
  refine lv_if_eq (tgt := 29) hx hb dX4_actsIn_22 (by decide) (fun hc => ?_) (fun hc => ?_)
  · replace hq := hq.1 hc
    refine lv_iconst (v := 0) hx hb dX4_actsIn_29 (by decide) ?_
    exact w_zret C hw rfl hq dX4_actsIn_30
  · replace hq := hq.2 hc
    refine lv_iconst (v := 1) hx hb dX4_actsIn_25 (by decide) ?_
    refine lv_goto (tgt := 30) hx hb dX4_actsIn_26 (by decide) ?_
    exact w_zret C hw rfl hq dX4_actsIn_30
set_option maxHeartbeats 4000000 in
set_option maxRecDepth 100000 in
theorem kJX5_packed_37 {p : Program} {l : Launch} {e : Env} {s : State} {m : MethodId} {args : Array Value} {below : List Frame} {meth : Method} {c : Code} {D : va_G} {ad : Nat → Nat} {cI cL : ClassId} {A : Nat → Prop} (C : Cx p s m args meth c yX5_packed.cls cX5_packed 5 (some .int)) (S : MS) (x0 : Int32) (x1 : Int32) (x2 : Int32) (x3 : Int32) (x4 : Int32) (Hd : MS → Int32 → Int32 → Int32 → Prop) (K : MS → Int32 → Prop) (Q : Int32 → MS → Prop) (hq : JX5_packed_37 S x0 x1 x2 x3 x4 Hd K Q) (H : Heap) (locs : List Loc) (ls : Array Slot) (hw : WW D (ctys cI cL) (cw ad cI cL S) A s H locs) (hl : lv_has ls 5 [(0, .int x0), (1, .int x1), (2, .int x2), (3, .int x3), (4, .int x4)]) (hH : ∀ (S : MS) (z2 : Int32) (z3 : Int32) (z4 : Int32) (H : Heap) (locs : List Loc) (ls : Array Slot), Hd S z2 z3 z4 → WW D (ctys cI cL) (cw ad cI cL S) A s H locs → lv_has ls 5 [(0, .int x0), (1, .int x1), (2, .int z2), (3, .int z3), (4, .int z4)] → W p l e { frames := 1, cells := 0, slots := 0, locals := 21 } s m args below meth c H locs 0 0 (Zi D (ctys cI cL) (cw ad cI cL) A below args s Q) (F0 m 7 ls [])) (hK : ∀ (S : MS) (z2 : Int32) (H : Heap) (locs : List Loc) (ls : Array Slot), K S z2 → WW D (ctys cI cL) (cw ad cI cL S) A s H locs → lv_has ls 5 [(2, .int z2)] → W p l e { frames := 1, cells := 0, slots := 0, locals := 21 } s m args below meth c H locs 0 0 (Zi D (ctys cI cL) (cw ad cI cL) A below args s Q) (F0 m 43 ls [])) : W p l e { frames := 1, cells := 0, slots := 0, locals := 21 } s m args below meth c H locs 0 0 (Zi D (ctys cI cL) (cw ad cI cL) A below args s Q) (F0 m 37 ls []) := by
  have hx := C.1
  have hb := C.2.1
  unfold JX5_packed_37 at hq
  refine lv_iinc (v := x4 + 1) (lv' := [(4, .int (x4 + 1)), (0, .int x0), (1, .int x1), (2, .int x2), (3, .int x3)]) hx hb dX5_packed_37 hl (k := 4) rfl rfl (by decide) rfl (fun ls hl => ?_)
  refine lv_goto (tgt := 7) hx hb dX5_packed_40 (by decide) ?_
  exact hH S x2 x3 (x4 + 1) _ _ _ hq hw (lv_sub hl [1, 2, 3, 4, 0] rfl)
set_option maxHeartbeats 4000000 in
set_option maxRecDepth 100000 in
theorem kLX5_packed_7 {p : Program} {l : Launch} {e : Env} {s : State} {m : MethodId} {args : Array Value} {below : List Frame} {meth : Method} {c : Code} {D : va_G} {ad : Nat → Nat} {cI cL : ClassId} {A : Nat → Prop} (C : Cx p s m args meth c yX5_packed.cls cX5_packed 5 (some .int)) (x0 : Int32) (x1 : Int32) (K : MS → Int32 → Prop) (Q : Int32 → MS → Prop) (hK : ∀ (S : MS) (z2 : Int32) (H : Heap) (locs : List Loc) (ls : Array Slot), K S z2 → WW D (ctys cI cL) (cw ad cI cL S) A s H locs → lv_has ls 5 [(2, .int z2)] → W p l e { frames := 1, cells := 0, slots := 0, locals := 21 } s m args below meth c H locs 0 0 (Zi D (ctys cI cL) (cw ad cI cL) A below args s Q) (F0 m 43 ls [])) : ∀ (n : Nat) (S : MS) (x2 : Int32) (x3 : Int32) (x4 : Int32) (_ : LX5_packed_7 x0 x1 K Q n S x2 x3 x4) (H : Heap) (locs : List Loc) (ls : Array Slot), WW D (ctys cI cL) (cw ad cI cL S) A s H locs → lv_has ls 5 [(0, .int x0), (1, .int x1), (2, .int x2), (3, .int x3), (4, .int x4)] → W p l e { frames := 1, cells := 0, slots := 0, locals := 21 } s m args below meth c H locs 0 0 (Zi D (ctys cI cL) (cw ad cI cL) A below args s Q) (F0 m 7 ls []) := by
  have hx := C.1
  have hb := C.2.1
  intro n
  induction n with
  | zero => intro S x2 x3 x4 hq; exact absurd hq (by rw [LX5_packed_7]; exact id)
  | succ n ih =>
    intro S x2 x3 x4 hq H locs ls hw hl
    rw [LX5_packed_7] at hq
    refine lv_iload hx hb dX5_packed_7 (lv_at hl 4 rfl) ?_
    refine lv_bipush (v := 12) hx hb dX5_packed_9 (by decide) ?_
    refine lv_icmp_ge (tgt := 43) hx hb dX5_packed_11 (by decide) (fun hc => ?_) (fun hc => ?_)
    · replace hq := hq.1 hc
      exact hK S x2 _ _ _ hq hw (lv_sub hl [2] rfl)
    · replace hq := hq.2 hc
      refine lv_iload_n hx hb dX5_packed_14 rfl (lv_at hl 1 rfl) ?_
      refine lv_iload hx hb dX5_packed_15 (lv_at hl 4 rfl) ?_
      refine w_calli hw (w_runS (rest := []) C hw (mX5_hasBit l D ad cI cL S x1 x4 _ hq _) kc_X5_hasBit ml_X5_180 ⟨rfl, rfl, Nat.le_of_ble_eq_true rfl, Nat.le_of_ble_eq_true rfl⟩ rfl rfl (Nat.le_of_ble_eq_true rfl) hl.1 dX5_packed_17) ?_
      clear hw hq
      intro r_2 S_1 H locs hq hw
      refine lv_if_eq (tgt := 37) hx hb dX5_packed_20 (by decide) (fun hc => ?_) (fun hc => ?_)
      · replace hq := hq.1 hc
        exact kJX5_packed_37 C S_1 x0 x1 x2 x3 x4 _ K Q hq _ _ _ hw (lv_sub hl [0, 1, 2, 3, 4] rfl) (fun S a2 a3 a4 H locs ls hq hw hl => ih S a2 a3 a4 hq H locs ls hw hl) hK
      · replace hq := hq.2 hc
        refine lv_iload_n hx hb dX5_packed_23 rfl (lv_at hl 2 rfl) ?_
        refine lv_iload_n hx hb dX5_packed_24 rfl (lv_at hl 0 rfl) ?_
        refine lv_iload hx hb dX5_packed_25 (lv_at hl 4 rfl) ?_
        refine lv_iushr (v := (jiushr x0 x4)) hx hb dX5_packed_27 rfl ?_
        refine lv_iconst (v := 1) hx hb dX5_packed_28 (by decide) ?_
        refine lv_iand hx hb dX5_packed_29 ?_
        refine lv_iload_n hx hb dX5_packed_30 rfl (lv_at hl 3 rfl) ?_
        refine lv_ishl hx hb dX5_packed_31 ?_
        refine lv_ior hx hb dX5_packed_32 ?_
        refine lv_topi (fun v_3 ev_3 => ?_)
        replace hq := hq v_3 ev_3
        refine lv_istore_n (lv' := [(2, .int v_3), (0, .int x0), (1, .int x1), (3, .int x3), (4, .int x4)]) hx hb dX5_packed_33 rfl hl (by decide) rfl (fun ls hl => ?_)
        refine lv_iinc (v := x3 + 1) (lv' := [(3, .int (x3 + 1)), (2, .int v_3), (0, .int x0), (1, .int x1), (4, .int x4)]) hx hb dX5_packed_34 hl (k := 3) rfl rfl (by decide) rfl (fun ls hl => ?_)
        exact kJX5_packed_37 C S_1 x0 x1 v_3 (x3 + 1) x4 _ K Q hq _ _ _ hw (lv_sub hl [2, 3, 1, 0, 4] rfl) (fun S a2 a3 a4 H locs ls hq hw hl => ih S a2 a3 a4 hq H locs ls hw hl) hK
set_option maxHeartbeats 4000000 in
set_option maxRecDepth 100000 in
theorem mX5_packed (l : Launch) (D : va_G) (ad : Nat → Nat) (cI cL : ClassId) (S : MS) (x0 : Int32) (x1 : Int32) (Q : Int32 → MS → Prop) (hq : wX5_packed S x0 x1 Q) : Mi l yX5_packed cX5_packed 5 (some .int) { frames := 1, cells := 0, slots := 0, locals := 21 } D (ctys cI cL) (cw ad cI cL) [.int x0, .int x1] S Q := by
  refine Mi.of (by decide +kernel) (Nat.le_of_ble_eq_true rfl) ?_
  intro p e s m args below meth c A ls C hw hl
  have hx := C.1
  have hb := C.2.1
  have hl : lv_has ls 5 [(0, .int x0), (1, .int x1)] := hl
  have hw : WW D (ctys cI cL) (cw ad cI cL S) A s s.heap [] := hw
  unfold wX5_packed at hq
  refine lv_iconst (v := 0) hx hb dX5_packed_0 (by decide) ?_
  refine lv_istore_n (lv' := [(2, .int 0), (0, .int x0), (1, .int x1)]) hx hb dX5_packed_1 rfl hl (by decide) rfl (fun ls hl => ?_)
  refine lv_iconst (v := 0) hx hb dX5_packed_2 (by decide) ?_
  refine lv_istore_n (lv' := [(3, .int 0), (2, .int 0), (0, .int x0), (1, .int x1)]) hx hb dX5_packed_3 rfl hl (by decide) rfl (fun ls hl => ?_)
  refine lv_iconst (v := 0) hx hb dX5_packed_4 (by decide) ?_
  refine lv_istore (lv' := [(4, .int 0), (3, .int 0), (2, .int 0), (0, .int x0), (1, .int x1)]) hx hb dX5_packed_5 hl (by decide) rfl (fun ls hl => ?_)
  obtain ⟨n0, hq⟩ := hq
  refine kLX5_packed_7 C x0 x1 _ Q ?_ n0 S 0 0 0 hq _ _ _ hw (lv_sub hl [3, 4, 2, 1, 0] rfl)
  clear hw hl hq
  intro S_1 y_2 H locs ls hq hw hl
  refine lv_iload_n hx hb dX5_packed_43 rfl (lv_at hl 0 rfl) ?_
  exact w_iret C hw hq dX5_packed_44
set_option maxHeartbeats 4000000 in
set_option maxRecDepth 100000 in
theorem kLX1_workIn_11 {p : Program} {l : Launch} {e : Env} {s : State} {m : MethodId} {args : Array Value} {below : List Frame} {meth : Method} {c : Code} {D : va_G} {ad : Nat → Nat} {cI cL : ClassId} {A : Nat → Prop} (C : Cx p s m args meth c yX1_workIn.cls cX1_workIn 6 none) (x1 : Int32) (x2 : Int64) (x4 : Int32) (K : MS → Prop) (Q : MS → Prop) (hK : ∀ (S : MS) (H : Heap) (locs : List Loc) (ls : Array Slot), K S  → WW D (ctys cI cL) (cw ad cI cL S) A s H locs → lv_has ls 6 [(0, .ref (ad 4))] → W p l e { frames := 0, cells := 0, slots := 0, locals := 0 } s m args below meth c H locs 0 0 (Zv D (ctys cI cL) (cw ad cI cL) A below args s Q) (F0 m 56 ls [])) : ∀ (n : Nat) (S : MS) (x5 : Int32) (_ : LX1_workIn_11 x1 x2 x4 K Q n S x5) (H : Heap) (locs : List Loc) (ls : Array Slot), WW D (ctys cI cL) (cw ad cI cL S) A s H locs → lv_has ls 6 [(0, .ref (ad 4)), (1, .int x1), (2, .long x2), (4, .int x4), (5, .int x5)] → W p l e { frames := 0, cells := 0, slots := 0, locals := 0 } s m args below meth c H locs 0 0 (Zv D (ctys cI cL) (cw ad cI cL) A below args s Q) (F0 m 11 ls []) := by
  have hx := C.1
  have hb := C.2.1
  intro n
  induction n with
  | zero => intro S x5 hq; exact absurd hq (by rw [LX1_workIn_11]; exact id)
  | succ n ih =>
    intro S x5 hq H locs ls hw hl
    rw [LX1_workIn_11] at hq
    refine lv_iload hx hb dX1_workIn_11 (lv_at hl 4 rfl) ?_
    refine lv_iload hx hb dX1_workIn_13 (lv_at hl 3 rfl) ?_
    refine lv_icmp_ge (tgt := 56) hx hb dX1_workIn_15 (by decide) (fun hc => ?_) (fun hc => ?_)
    · replace hq := hq.1 hc
      exact hK S  _ _ _ hq hw (lv_sub hl [0] rfl)
    · replace hq := hq.2 hc
      refine lv_aload_n hx hb dX1_workIn_18 rfl (lv_at hl 0 rfl) ?_
      refine w_get C hw uw_X1 4 cO_X1 rfl 3 (by decide) fl_X1_9 rfl dX1_workIn_19 ?_
      refine lv_iload hx hb dX1_workIn_22 (lv_at hl 4 rfl) ?_
      refine lv_ldc2 hx hb C.2.2.2.2.1 (C.w kk_X1_116 rfl) dX1_workIn_24 ?_
      refine lv_lload_n hx hb dX1_workIn_27 rfl (lv_at hl 2 rfl) ?_
      refine lv_lsub hx hb dX1_workIn_28 ?_
      refine lv_aload_n hx hb dX1_workIn_29 rfl (lv_at hl 0 rfl) ?_
      refine w_get C hw uw_X1 4 cO_X1 rfl 3 (by decide) fl_X1_9 rfl dX1_workIn_30 ?_
      refine lv_iload hx hb dX1_workIn_33 (lv_at hl 4 rfl) ?_
      obtain ⟨hin, hq⟩ := hq
      refine w_lld C hw 25 1 cL_2 rfl hin dX1_workIn_35 ?_
      refine lv_lmul hx hb dX1_workIn_36 ?_
      refine lv_lload_n hx hb dX1_workIn_37 rfl (lv_at hl 2 rfl) ?_
      refine lv_aload_n hx hb dX1_workIn_38 rfl (lv_at hl 0 rfl) ?_
      refine w_get C hw uw_X1 4 cO_X1 rfl 3 (by decide) fl_X1_9 rfl dX1_workIn_39 ?_
      refine lv_iload hx hb dX1_workIn_42 (lv_at hl 4 rfl) ?_
      refine lv_iload_n hx hb dX1_workIn_44 rfl (lv_at hl 1 rfl) ?_
      refine lv_ior hx hb dX1_workIn_45 ?_
      obtain ⟨hin, hq⟩ := hq
      refine w_lld C hw 25 1 cL_2 rfl hin dX1_workIn_46 ?_
      refine lv_lmul hx hb dX1_workIn_47 ?_
      refine lv_ladd hx hb dX1_workIn_48 ?_
      obtain ⟨hin, hq⟩ := hq
      obtain ⟨S_1, eS_1⟩ : ∃ z, z = uL S 2 x5.toNatClampNeg (((64 - x2) * (S.2.1 2 x5.toNatClampNeg)) + (x2 * (S.2.1 2 (x5 ||| x1).toNatClampNeg))) := ⟨_, rfl⟩
      replace hq := hq S_1 eS_1
      refine w_lst (ws' := cw ad cI cL S_1) C hw 25 1 cL_2 rfl hin dX1_workIn_49 (by rw [eS_1]; exact cLs_2) (fun H locs hw => ?_)
      refine lv_iinc (v := x5 + 1) (lv' := [(5, .int (x5 + 1)), (0, .ref (ad 4)), (1, .int x1), (2, .long x2), (4, .int x4)]) hx hb dX1_workIn_50 hl (k := 4) rfl rfl (by decide) rfl (fun ls hl => ?_)
      refine lv_goto (tgt := 11) hx hb dX1_workIn_53 (by decide) ?_
      exact ih S_1 (x5 + 1) hq _ _ _ hw (lv_sub hl [1, 2, 3, 4, 0] rfl)
set_option maxHeartbeats 4000000 in
set_option maxRecDepth 100000 in
theorem mX1_workIn (l : Launch) (D : va_G) (ad : Nat → Nat) (cI cL : ClassId) (S : MS) (x1 : Int32) (x2 : Int64) (Q : MS → Prop) (hq : wX1_workIn S x1 x2 Q) : Mv l yX1_workIn cX1_workIn 6 none { frames := 0, cells := 0, slots := 0, locals := 0 } D (ctys cI cL) (cw ad cI cL) [.ref (ad 4), .int x1, .long x2] S Q := by
  refine Mv.of (by decide +kernel) (Nat.le_of_ble_eq_true rfl) ?_
  intro p e s m args below meth c A ls C hw hl
  have hx := C.1
  have hb := C.2.1
  have hl : lv_has ls 6 [(0, .ref (ad 4)), (1, .int x1), (2, .long x2)] := hl
  have hw : WW D (ctys cI cL) (cw ad cI cL S) A s s.heap [] := hw
  unfold wX1_workIn at hq
  refine lv_iconst (v := 1) hx hb dX1_workIn_0 (by decide) ?_
  refine lv_aload_n hx hb dX1_workIn_1 rfl (lv_at hl 0 rfl) ?_
  refine w_get C hw uw_X1 4 cO_X1 rfl 7 (by decide) fl_X1_25 rfl dX1_workIn_2 ?_
  refine lv_ishl hx hb dX1_workIn_5 ?_
  refine lv_topi (fun v_1 ev_1 => ?_)
  replace hq := hq v_1 ev_1
  refine lv_istore (lv' := [(4, .int v_1), (0, .ref (ad 4)), (1, .int x1), (2, .long x2)]) hx hb dX1_workIn_6 hl (by decide) rfl (fun ls hl => ?_)
  refine lv_iconst (v := 0) hx hb dX1_workIn_8 (by decide) ?_
  refine lv_istore (lv' := [(5, .int 0), (4, .int v_1), (0, .ref (ad 4)), (1, .int x1), (2, .long x2)]) hx hb dX1_workIn_9 hl (by decide) rfl (fun ls hl => ?_)
  obtain ⟨n0, hq⟩ := hq
  refine kLX1_workIn_11 C x1 x2 v_1 _ Q ?_ n0 S 0 hq _ _ _ hw (lv_sub hl [2, 3, 4, 1, 0] rfl)
  clear hw hl hq
  intro S_2 H locs ls hq hw hl
  refine lv_aload_n hx hb dX1_workIn_56 rfl (lv_at hl 0 rfl) ?_
  refine lv_dup hx hb dX1_workIn_57 rfl ?_
  refine w_get C hw uw_X1 4 cO_X1 rfl 8 (by decide) fl_X1_29 rfl dX1_workIn_58 ?_
  refine lv_iconst (v := 1) hx hb dX1_workIn_61 (by decide) ?_
  refine lv_iadd hx hb dX1_workIn_62 ?_
  obtain ⟨S_3, eS_3⟩ : ∃ z, z = uF S_2 5 ((S_2.2.2 5) + 1) := ⟨_, rfl⟩
  replace hq := hq S_3 eS_3
  refine w_put (ws' := cw ad cI cL S_3) C hw uw_X1 tyX1 tyX1_ok nmX1 4 cO_X1 rfl 8 (by decide) fl_X1_29 rfl (by decide +kernel) (Nat.le_of_ble_eq_true rfl) dX1_workIn_63 (by rw [eS_3]; exact cFs_5) (fun H locs hw => ?_)
  exact w_vret C hw hq dX1_workIn_66
set_option maxHeartbeats 4000000 in
set_option maxRecDepth 100000 in
theorem kJX1_startFailing_45 {p : Program} {l : Launch} {e : Env} {s : State} {m : MethodId} {args : Array Value} {below : List Frame} {meth : Method} {c : Code} {D : va_G} {ad : Nat → Nat} {cI cL : ClassId} {A : Nat → Prop} (C : Cx p s m args meth c yX1_startFailing.cls cX1_startFailing 5 none) (S : MS) (x1 : Int32) (x2 : Int32) (x3 : Int32) (t0 : Int32) (t1 : Int64) (Hd : MS → Int32 → Prop) (K : MS → Prop) (Q : MS → Prop) (hq : JX1_startFailing_45 S x1 x2 x3 t0 t1 Hd K Q) (H : Heap) (locs : List Loc) (ls : Array Slot) (hw : WW D (ctys cI cL) (cw ad cI cL S) A s H locs) (hl : lv_has ls 5 [(0, .ref (ad 4)), (1, .int x1), (2, .int x2), (3, .int x3)]) (hH : ∀ (S : MS) (z3 : Int32) (H : Heap) (locs : List Loc) (ls : Array Slot), Hd S z3 → WW D (ctys cI cL) (cw ad cI cL S) A s H locs → lv_has ls 5 [(0, .ref (ad 4)), (1, .int x1), (2, .int x2), (3, .int z3)] → W p l e { frames := 2, cells := 0, slots := 0, locals := 45 } s m args below meth c H locs 0 0 (Zv D (ctys cI cL) (cw ad cI cL) A below args s Q) (F0 m 14 ls [])) (hK : ∀ (S : MS) (H : Heap) (locs : List Loc) (ls : Array Slot), K S  → WW D (ctys cI cL) (cw ad cI cL S) A s H locs → lv_has ls 5 [(0, .ref (ad 4)), (1, .int x1)] → W p l e { frames := 2, cells := 0, slots := 0, locals := 45 } s m args below meth c H locs 0 0 (Zv D (ctys cI cL) (cw ad cI cL) A below args s Q) (F0 m 52 ls [])) : W p l e { frames := 2, cells := 0, slots := 0, locals := 45 } s m args below meth c H locs 0 0 (Zv D (ctys cI cL) (cw ad cI cL) A below args s Q) (F0 m 45 ls [.long t1, .int t0, .ref (ad 25)]) := by
  have hx := C.1
  have hb := C.2.1
  unfold JX1_startFailing_45 at hq
  obtain ⟨hin, hq⟩ := hq
  obtain ⟨S_2, eS_2⟩ : ∃ z, z = uL S 2 t0.toNatClampNeg t1 := ⟨_, rfl⟩
  replace hq := hq S_2 eS_2
  refine w_lst (ws' := cw ad cI cL S_2) C hw 25 1 cL_2 rfl hin dX1_startFailing_45 (by rw [eS_2]; exact cLs_2) (fun H locs hw => ?_)
  refine lv_iinc (v := x3 + 1) (lv' := [(3, .int (x3 + 1)), (0, .ref (ad 4)), (1, .int x1), (2, .int x2)]) hx hb dX1_startFailing_46 hl (k := 3) rfl rfl (by decide) rfl (fun ls hl => ?_)
  refine lv_goto (tgt := 14) hx hb dX1_startFailing_49 (by decide) ?_
  exact hH S_2 (x3 + 1) _ _ _ hq hw (lv_sub hl [1, 2, 3, 0] rfl)
set_option maxHeartbeats 4000000 in
set_option maxRecDepth 100000 in
theorem kLX1_startFailing_14 {p : Program} {l : Launch} {e : Env} {s : State} {m : MethodId} {args : Array Value} {below : List Frame} {meth : Method} {c : Code} {D : va_G} {ad : Nat → Nat} {cI cL : ClassId} {A : Nat → Prop} (C : Cx p s m args meth c yX1_startFailing.cls cX1_startFailing 5 none) (x1 : Int32) (x2 : Int32) (K : MS → Prop) (Q : MS → Prop) (hK : ∀ (S : MS) (H : Heap) (locs : List Loc) (ls : Array Slot), K S  → WW D (ctys cI cL) (cw ad cI cL S) A s H locs → lv_has ls 5 [(0, .ref (ad 4)), (1, .int x1)] → W p l e { frames := 2, cells := 0, slots := 0, locals := 45 } s m args below meth c H locs 0 0 (Zv D (ctys cI cL) (cw ad cI cL) A below args s Q) (F0 m 52 ls [])) : ∀ (n : Nat) (S : MS) (x3 : Int32) (_ : LX1_startFailing_14 x1 x2 K Q n S x3) (H : Heap) (locs : List Loc) (ls : Array Slot), WW D (ctys cI cL) (cw ad cI cL S) A s H locs → lv_has ls 5 [(0, .ref (ad 4)), (1, .int x1), (2, .int x2), (3, .int x3)] → W p l e { frames := 2, cells := 0, slots := 0, locals := 45 } s m args below meth c H locs 0 0 (Zv D (ctys cI cL) (cw ad cI cL) A below args s Q) (F0 m 14 ls []) := by
  have hx := C.1
  have hb := C.2.1
  intro n
  induction n with
  | zero => intro S x3 hq; exact absurd hq (by rw [LX1_startFailing_14]; exact id)
  | succ n ih =>
    intro S x3 hq H locs ls hw hl
    rw [LX1_startFailing_14] at hq
    refine lv_iload_n hx hb dX1_startFailing_14 rfl (lv_at hl 3 rfl) ?_
    refine lv_iload_n hx hb dX1_startFailing_15 rfl (lv_at hl 2 rfl) ?_
    refine lv_icmp_ge (tgt := 52) hx hb dX1_startFailing_16 (by decide) (fun hc => ?_) (fun hc => ?_)
    · replace hq := hq.1 hc
      exact hK S  _ _ _ hq hw (lv_sub hl [0, 1] rfl)
    · replace hq := hq.2 hc
      refine lv_aload_n hx hb dX1_startFailing_19 rfl (lv_at hl 0 rfl) ?_
      refine w_get C hw uw_X1 4 cO_X1 rfl 3 (by decide) fl_X1_9 rfl dX1_startFailing_20 ?_
      refine lv_iload_n hx hb dX1_startFailing_23 rfl (lv_at hl 3 rfl) ?_
      refine lv_aload_n hx hb dX1_startFailing_24 rfl (lv_at hl 0 rfl) ?_
      refine w_get C hw uw_X1 4 cO_X1 rfl 2 (by decide) fl_X1_40 rfl dX1_startFailing_25 ?_
      refine lv_iload_n hx hb dX1_startFailing_28 rfl (lv_at hl 1 rfl) ?_
      refine lv_iload_n hx hb dX1_startFailing_29 rfl (lv_at hl 2 rfl) ?_
      refine lv_iconst (v := 1) hx hb dX1_startFailing_30 (by decide) ?_
      refine lv_isub hx hb dX1_startFailing_31 ?_
      refine lv_iload_n hx hb dX1_startFailing_32 rfl (lv_at hl 3 rfl) ?_
      refine lv_isub hx hb dX1_startFailing_33 ?_
      refine w_calli hw (w_runV (rest := [.int x3, .ref (ad 25)]) C hw (mX4_actsIn l D ad cI cL S x1 ((x2 - 1) - x3) _ hq _) kc_X4_actsIn ml_X1_73 3 cO_X4 rfl rfl ⟨rfl, rfl, Nat.le_of_ble_eq_true rfl, Nat.le_of_ble_eq_true rfl⟩ rfl rfl (Nat.le_of_ble_eq_true rfl) hl.1 dX1_startFailing_34) ?_
      clear hw hq
      intro r_2 S_1 H locs hq hw
      refine lv_if_eq (tgt := 44) hx hb dX1_startFailing_37 (by decide) (fun hc => ?_) (fun hc => ?_)
      · replace hq := hq.1 hc
        refine lv_lconst (v := 1) hx hb dX1_startFailing_44 (by decide) ?_
        exact kJX1_startFailing_45 C S_1 x1 x2 x3 x3 1 _ K Q hq _ _ _ hw (lv_sub hl [0, 1, 2, 3] rfl) (fun S a3 H locs ls hq hw hl => ih S a3 hq H locs ls hw hl) hK
      · replace hq := hq.2 hc
        refine lv_lconst (v := 0) hx hb dX1_startFailing_40 (by decide) ?_
        refine lv_goto (tgt := 45) hx hb dX1_startFailing_41 (by decide) ?_
        exact kJX1_startFailing_45 C S_1 x1 x2 x3 x3 0 _ K Q hq _ _ _ hw (lv_sub hl [0, 1, 2, 3] rfl) (fun S a3 H locs ls hq hw hl => ih S a3 hq H locs ls hw hl) hK
set_option maxHeartbeats 4000000 in
set_option maxRecDepth 100000 in
theorem kJX1_startFailing_106 {p : Program} {l : Launch} {e : Env} {s : State} {m : MethodId} {args : Array Value} {below : List Frame} {meth : Method} {c : Code} {D : va_G} {ad : Nat → Nat} {cI cL : ClassId} {A : Nat → Prop} (C : Cx p s m args meth c yX1_startFailing.cls cX1_startFailing 5 none) (S : MS) (x1 : Int32) (x3 : Int32) (Hd : MS → Int32 → Prop) (K : MS → Prop) (Q : MS → Prop) (hq : JX1_startFailing_106 S x1 x3 Hd K Q) (H : Heap) (locs : List Loc) (ls : Array Slot) (hw : WW D (ctys cI cL) (cw ad cI cL S) A s H locs) (hl : lv_has ls 5 [(0, .ref (ad 4)), (1, .int x1), (3, .int x3)]) (hH : ∀ (S : MS) (z3 : Int32) (H : Heap) (locs : List Loc) (ls : Array Slot), Hd S z3 → WW D (ctys cI cL) (cw ad cI cL S) A s H locs → lv_has ls 5 [(0, .ref (ad 4)), (1, .int x1), (3, .int z3)] → W p l e { frames := 2, cells := 0, slots := 0, locals := 45 } s m args below meth c H locs 0 0 (Zv D (ctys cI cL) (cw ad cI cL) A below args s Q) (F0 m 54 ls [])) (hK : ∀ (S : MS) (H : Heap) (locs : List Loc) (ls : Array Slot), K S  → WW D (ctys cI cL) (cw ad cI cL S) A s H locs → lv_has ls 5 [] → W p l e { frames := 2, cells := 0, slots := 0, locals := 45 } s m args below meth c H locs 0 0 (Zv D (ctys cI cL) (cw ad cI cL) A below args s Q) (F0 m 112 ls [])) : W p l e { frames := 2, cells := 0, slots := 0, locals := 45 } s m args below meth c H locs 0 0 (Zv D (ctys cI cL) (cw ad cI cL) A below args s Q) (F0 m 106 ls []) := by
  have hx := C.1
  have hb := C.2.1
  unfold JX1_startFailing_106 at hq
  refine lv_iinc (v := x3 + 1) (lv' := [(3, .int (x3 + 1)), (0, .ref (ad 4)), (1, .int x1)]) hx hb dX1_startFailing_106 hl (k := 2) rfl rfl (by decide) rfl (fun ls hl => ?_)
  refine lv_goto (tgt := 54) hx hb dX1_startFailing_109 (by decide) ?_
  exact hH S (x3 + 1) _ _ _ hq hw (lv_sub hl [1, 2, 0] rfl)
set_option maxHeartbeats 4000000 in
set_option maxRecDepth 100000 in
theorem kLX1_startFailing_54 {p : Program} {l : Launch} {e : Env} {s : State} {m : MethodId} {args : Array Value} {below : List Frame} {meth : Method} {c : Code} {D : va_G} {ad : Nat → Nat} {cI cL : ClassId} {A : Nat → Prop} (C : Cx p s m args meth c yX1_startFailing.cls cX1_startFailing 5 none) (x1 : Int32) (K : MS → Prop) (Q : MS → Prop) (hK : ∀ (S : MS) (H : Heap) (locs : List Loc) (ls : Array Slot), K S  → WW D (ctys cI cL) (cw ad cI cL S) A s H locs → lv_has ls 5 [] → W p l e { frames := 2, cells := 0, slots := 0, locals := 45 } s m args below meth c H locs 0 0 (Zv D (ctys cI cL) (cw ad cI cL) A below args s Q) (F0 m 112 ls [])) : ∀ (n : Nat) (S : MS) (x3 : Int32) (_ : LX1_startFailing_54 x1 K Q n S x3) (H : Heap) (locs : List Loc) (ls : Array Slot), WW D (ctys cI cL) (cw ad cI cL S) A s H locs → lv_has ls 5 [(0, .ref (ad 4)), (1, .int x1), (3, .int x3)] → W p l e { frames := 2, cells := 0, slots := 0, locals := 45 } s m args below meth c H locs 0 0 (Zv D (ctys cI cL) (cw ad cI cL) A below args s Q) (F0 m 54 ls []) := by
  have hx := C.1
  have hb := C.2.1
  intro n
  induction n with
  | zero => intro S x3 hq; exact absurd hq (by rw [LX1_startFailing_54]; exact id)
  | succ n ih =>
    intro S x3 hq H locs ls hw hl
    rw [LX1_startFailing_54] at hq
    refine lv_iload_n hx hb dX1_startFailing_54 rfl (lv_at hl 2 rfl) ?_
    refine lv_aload_n hx hb dX1_startFailing_55 rfl (lv_at hl 0 rfl) ?_
    refine w_get C hw uw_X1 4 cO_X1 rfl 1 (by decide) fl_X1_36 rfl dX1_startFailing_56 ?_
    refine w_calli hw (w_runV (rest := [.int x3]) C hw (mX0_size l D ad cI cL S _ hq _) kc_X0_size ml_X1_77 2 cO_X0 rfl rfl ⟨rfl, rfl, Nat.le_of_ble_eq_true rfl, Nat.le_of_ble_eq_true rfl⟩ rfl rfl (Nat.le_of_ble_eq_true rfl) hl.1 dX1_startFailing_59) ?_
    clear hw hq
    intro r_2 S_1 H locs hq hw
    refine lv_icmp_ge (tgt := 112) hx hb dX1_startFailing_62 (by decide) (fun hc => ?_) (fun hc => ?_)
    · replace hq := hq.1 hc
      exact hK S_1  _ _ _ hq hw (lv_sub hl [] rfl)
    · replace hq := hq.2 hc
      refine lv_aload_n hx hb dX1_startFailing_65 rfl (lv_at hl 0 rfl) ?_
      refine w_get C hw uw_X1 4 cO_X1 rfl 1 (by decide) fl_X1_36 rfl dX1_startFailing_66 ?_
      refine lv_iload_n hx hb dX1_startFailing_69 rfl (lv_at hl 2 rfl) ?_
      refine w_calli hw (w_runV (rest := []) C hw (mX0_struckBy l D ad cI cL S_1 x3 _ hq _) kc_X0_struckBy ml_X1_80 2 cO_X0 rfl rfl ⟨rfl, rfl, Nat.le_of_ble_eq_true rfl, Nat.le_of_ble_eq_true rfl⟩ rfl rfl (Nat.le_of_ble_eq_true rfl) hl.1 dX1_startFailing_70) ?_
      clear hw hq
      intro r_4 S_3 H locs hq hw
      refine lv_aload_n hx hb dX1_startFailing_73 rfl (lv_at hl 0 rfl) ?_
      refine w_get C hw uw_X1 4 cO_X1 rfl 2 (by decide) fl_X1_40 rfl dX1_startFailing_74 ?_
      refine lv_iload_n hx hb dX1_startFailing_77 rfl (lv_at hl 1 rfl) ?_
      refine w_calli hw (w_runV (rest := [.int r_4]) C hw (mX4_partsBelow l D ad cI cL S_3 x1 _ hq _) kc_X4_partsBelow ml_X1_44 3 cO_X4 rfl rfl ⟨rfl, rfl, Nat.le_of_ble_eq_true rfl, Nat.le_of_ble_eq_true rfl⟩ rfl rfl (Nat.le_of_ble_eq_true rfl) hl.1 dX1_startFailing_78) ?_
      clear hw hq
      intro r_6 S_5 H locs hq hw
      refine w_calli hw (w_runN (rest := []) C hw (mX5_packed l D ad cI cL S_5 r_4 r_6 _ hq _) kc_X5_packed ml_X1_83 ⟨rfl, rfl, Nat.le_of_ble_eq_true rfl, Nat.le_of_ble_eq_true rfl⟩ rfl rfl (Nat.le_of_ble_eq_true rfl) hl.1 dX1_startFailing_81) ?_
      clear hw hq
      intro r_8 S_7 H locs hq hw
      refine lv_istore (lv' := [(4, .int r_8), (0, .ref (ad 4)), (1, .int x1), (3, .int x3)]) hx hb dX1_startFailing_84 hl (by decide) rfl (fun ls hl => ?_)
      refine lv_iload hx hb dX1_startFailing_86 (lv_at hl 0 rfl) ?_
      refine lv_if_eq (tgt := 106) hx hb dX1_startFailing_88 (by decide) (fun hc => ?_) (fun hc => ?_)
      · replace hq := hq.1 hc
        exact kJX1_startFailing_106 C S_7 x1 x3 _ K Q hq _ _ _ hw (lv_sub hl [1, 2, 3] rfl) (fun S a3 H locs ls hq hw hl => ih S a3 hq H locs ls hw hl) hK
      · replace hq := hq.2 hc
        refine lv_aload_n hx hb dX1_startFailing_91 rfl (lv_at hl 1 rfl) ?_
        refine lv_iload hx hb dX1_startFailing_92 (lv_at hl 0 rfl) ?_
        refine lv_aload_n hx hb dX1_startFailing_94 rfl (lv_at hl 1 rfl) ?_
        refine w_get C hw uw_X1 4 cO_X1 rfl 1 (by decide) fl_X1_36 rfl dX1_startFailing_95 ?_
        refine lv_iload_n hx hb dX1_startFailing_98 rfl (lv_at hl 3 rfl) ?_
        refine w_calli hw (w_runV (rest := [.int r_8, .ref (ad 4)]) C hw (mX0_shareOf l D ad cI cL S_7 x3 _ hq _) kc_X0_shareOf ml_X1_87 2 cO_X0 rfl rfl ⟨rfl, rfl, Nat.le_of_ble_eq_true rfl, Nat.le_of_ble_eq_true rfl⟩ rfl rfl (Nat.le_of_ble_eq_true rfl) hl.1 dX1_startFailing_99) ?_
        clear hw hq
        intro r_10 S_9 H locs hq hw
        refine lv_i2l (v := r_10.toInt64) hx hb dX1_startFailing_102 rfl ?_
        refine w_callv hw (w_runV (rest := []) C hw (mX1_workIn l D ad cI cL S_9 r_8 r_10.toInt64 _ hq _) kc_X1_workIn ml_X1_90 4 cO_X1 rfl rfl ⟨rfl, rfl, Nat.le_of_ble_eq_true rfl, Nat.le_of_ble_eq_true rfl⟩ rfl rfl (Nat.le_of_ble_eq_true rfl) hl.1 dX1_startFailing_103) ?_
        clear hw hq
        intro S_11 H locs hq hw
        exact kJX1_startFailing_106 C S_11 x1 x3 _ K Q hq _ _ _ hw (lv_sub hl [1, 2, 3] rfl) (fun S a3 H locs ls hq hw hl => ih S a3 hq H locs ls hw hl) hK
set_option maxHeartbeats 4000000 in
set_option maxRecDepth 100000 in
theorem mX1_startFailing (l : Launch) (D : va_G) (ad : Nat → Nat) (cI cL : ClassId) (S : MS) (x1 : Int32) (Q : MS → Prop) (hq : wX1_startFailing S x1 Q) : Mv l yX1_startFailing cX1_startFailing 5 none { frames := 2, cells := 0, slots := 0, locals := 45 } D (ctys cI cL) (cw ad cI cL) [.ref (ad 4), .int x1] S Q := by
  refine Mv.of (by decide +kernel) (Nat.le_of_ble_eq_true rfl) ?_
  intro p e s m args below meth c A ls C hw hl
  have hx := C.1
  have hb := C.2.1
  have hl : lv_has ls 5 [(0, .ref (ad 4)), (1, .int x1)] := hl
  have hw : WW D (ctys cI cL) (cw ad cI cL S) A s s.heap [] := hw
  unfold wX1_startFailing at hq
  refine lv_aload_n hx hb dX1_startFailing_0 rfl (lv_at hl 0 rfl) ?_
  refine lv_iload_n hx hb dX1_startFailing_1 rfl (lv_at hl 1 rfl) ?_
  refine w_callv hw (w_runV (rest := []) C hw (mX1_takeMembers l D ad cI cL S x1 _ hq _) kc_X1_takeMembers ml_X1_69 4 cO_X1 rfl rfl ⟨rfl, rfl, Nat.le_of_ble_eq_true rfl, Nat.le_of_ble_eq_true rfl⟩ rfl rfl (Nat.le_of_ble_eq_true rfl) hl.1 dX1_startFailing_2) ?_
  clear hw hq
  intro S_1 H locs hq hw
  refine lv_iconst (v := 1) hx hb dX1_startFailing_5 (by decide) ?_
  refine lv_aload_n hx hb dX1_startFailing_6 rfl (lv_at hl 0 rfl) ?_
  refine w_get C hw uw_X1 4 cO_X1 rfl 7 (by decide) fl_X1_25 rfl dX1_startFailing_7 ?_
  refine lv_ishl hx hb dX1_startFailing_10 ?_
  refine lv_topi (fun v_3 ev_3 => ?_)
  replace hq := hq v_3 ev_3
  refine lv_istore_n (lv' := [(2, .int v_3), (0, .ref (ad 4)), (1, .int x1)]) hx hb dX1_startFailing_11 rfl hl (by decide) rfl (fun ls hl => ?_)
  refine lv_iconst (v := 0) hx hb dX1_startFailing_12 (by decide) ?_
  refine lv_istore_n (lv' := [(3, .int 0), (2, .int v_3), (0, .ref (ad 4)), (1, .int x1)]) hx hb dX1_startFailing_13 rfl hl (by decide) rfl (fun ls hl => ?_)
  obtain ⟨n0, hq⟩ := hq
  refine kLX1_startFailing_14 C x1 v_3 _ Q ?_ n0 S_1 0 hq _ _ _ hw (lv_sub hl [2, 3, 1, 0] rfl)
  clear hw hl hq
  intro S_4 H locs ls hq hw hl
  refine lv_iconst (v := 0) hx hb dX1_startFailing_52 (by decide) ?_
  refine lv_istore_n (lv' := [(3, .int 0), (0, .ref (ad 4)), (1, .int x1)]) hx hb dX1_startFailing_53 rfl hl (by decide) rfl (fun ls hl => ?_)
  obtain ⟨n0, hq⟩ := hq
  refine kLX1_startFailing_54 C x1 _ Q ?_ n0 S_4 0 hq _ _ _ hw (lv_sub hl [1, 2, 0] rfl)
  clear hw hl hq
  intro S_5 H locs ls hq hw hl
  exact w_vret C hw hq dX1_startFailing_112
set_option maxHeartbeats 4000000 in
set_option maxRecDepth 100000 in
theorem kJX2_testsUpTo_35 {p : Program} {l : Launch} {e : Env} {s : State} {m : MethodId} {args : Array Value} {below : List Frame} {meth : Method} {c : Code} {D : va_G} {ad : Nat → Nat} {cI cL : ClassId} {A : Nat → Prop} (C : Cx p s m args meth c yX2_testsUpTo.cls cX2_testsUpTo 5 (some .int)) (S : MS) (x1 : Int32) (x2 : Int32) (x3 : Int32) (x4 : Int32) (Hd : MS → Int32 → Int32 → Prop) (K : MS → Int32 → Prop) (Q : Int32 → MS → Prop) (hq : JX2_testsUpTo_35 S x1 x2 x3 x4 Hd K Q) (H : Heap) (locs : List Loc) (ls : Array Slot) (hw : WW D (ctys cI cL) (cw ad cI cL S) A s H locs) (hl : lv_has ls 5 [(0, .ref (ad 1)), (1, .int x1), (2, .int x2), (3, .int x3), (4, .int x4)]) (hH : ∀ (S : MS) (z3 : Int32) (z4 : Int32) (H : Heap) (locs : List Loc) (ls : Array Slot), Hd S z3 z4 → WW D (ctys cI cL) (cw ad cI cL S) A s H locs → lv_has ls 5 [(0, .ref (ad 1)), (1, .int x1), (2, .int x2), (3, .int z3), (4, .int z4)] → W p l e { frames := 0, cells := 0, slots := 0, locals := 0 } s m args below meth c H locs 0 0 (Zi D (ctys cI cL) (cw ad cI cL) A below args s Q) (F0 m 5 ls [])) (hK : ∀ (S : MS) (z3 : Int32) (H : Heap) (locs : List Loc) (ls : Array Slot), K S z3 → WW D (ctys cI cL) (cw ad cI cL S) A s H locs → lv_has ls 5 [(3, .int z3)] → W p l e { frames := 0, cells := 0, slots := 0, locals := 0 } s m args below meth c H locs 0 0 (Zi D (ctys cI cL) (cw ad cI cL) A below args s Q) (F0 m 41 ls [])) : W p l e { frames := 0, cells := 0, slots := 0, locals := 0 } s m args below meth c H locs 0 0 (Zi D (ctys cI cL) (cw ad cI cL) A below args s Q) (F0 m 35 ls []) := by
  have hx := C.1
  have hb := C.2.1
  unfold JX2_testsUpTo_35 at hq
  refine lv_iinc (v := x4 + 1) (lv' := [(4, .int (x4 + 1)), (0, .ref (ad 1)), (1, .int x1), (2, .int x2), (3, .int x3)]) hx hb dX2_testsUpTo_35 hl (k := 4) rfl rfl (by decide) rfl (fun ls hl => ?_)
  refine lv_goto (tgt := 5) hx hb dX2_testsUpTo_38 (by decide) ?_
  exact hH S x3 (x4 + 1) _ _ _ hq hw (lv_sub hl [1, 2, 3, 4, 0] rfl)
set_option maxHeartbeats 4000000 in
set_option maxRecDepth 100000 in
theorem kLX2_testsUpTo_5 {p : Program} {l : Launch} {e : Env} {s : State} {m : MethodId} {args : Array Value} {below : List Frame} {meth : Method} {c : Code} {D : va_G} {ad : Nat → Nat} {cI cL : ClassId} {A : Nat → Prop} (C : Cx p s m args meth c yX2_testsUpTo.cls cX2_testsUpTo 5 (some .int)) (x1 : Int32) (x2 : Int32) (K : MS → Int32 → Prop) (Q : Int32 → MS → Prop) (hK : ∀ (S : MS) (z3 : Int32) (H : Heap) (locs : List Loc) (ls : Array Slot), K S z3 → WW D (ctys cI cL) (cw ad cI cL S) A s H locs → lv_has ls 5 [(3, .int z3)] → W p l e { frames := 0, cells := 0, slots := 0, locals := 0 } s m args below meth c H locs 0 0 (Zi D (ctys cI cL) (cw ad cI cL) A below args s Q) (F0 m 41 ls [])) : ∀ (n : Nat) (S : MS) (x3 : Int32) (x4 : Int32) (_ : LX2_testsUpTo_5 x1 x2 K Q n S x3 x4) (H : Heap) (locs : List Loc) (ls : Array Slot), WW D (ctys cI cL) (cw ad cI cL S) A s H locs → lv_has ls 5 [(0, .ref (ad 1)), (1, .int x1), (2, .int x2), (3, .int x3), (4, .int x4)] → W p l e { frames := 0, cells := 0, slots := 0, locals := 0 } s m args below meth c H locs 0 0 (Zi D (ctys cI cL) (cw ad cI cL) A below args s Q) (F0 m 5 ls []) := by
  have hx := C.1
  have hb := C.2.1
  intro n
  induction n with
  | zero => intro S x3 x4 hq; exact absurd hq (by rw [LX2_testsUpTo_5]; exact id)
  | succ n ih =>
    intro S x3 x4 hq H locs ls hw hl
    rw [LX2_testsUpTo_5] at hq
    refine lv_iload hx hb dX2_testsUpTo_5 (lv_at hl 4 rfl) ?_
    refine lv_aload_n hx hb dX2_testsUpTo_7 rfl (lv_at hl 0 rfl) ?_
    refine w_get C hw uw_X2 1 cO_X2 rfl 4 (by decide) fl_X2_24 rfl dX2_testsUpTo_8 ?_
    refine lv_iload_n hx hb dX2_testsUpTo_11 rfl (lv_at hl 1 rfl) ?_
    obtain ⟨hin, hq⟩ := hq
    refine w_ild C hw 10 0 cI_4 rfl hin dX2_testsUpTo_12 ?_
    refine lv_icmp_ge (tgt := 41) hx hb dX2_testsUpTo_13 (by decide) (fun hc => ?_) (fun hc => ?_)
    · replace hq := hq.1 hc
      exact hK S x3 _ _ _ hq hw (lv_sub hl [3] rfl)
    · replace hq := hq.2 hc
      refine lv_aload_n hx hb dX2_testsUpTo_16 rfl (lv_at hl 0 rfl) ?_
      refine w_get C hw uw_X2 1 cO_X2 rfl 5 (by decide) fl_X2_27 rfl dX2_testsUpTo_17 ?_
      refine lv_iload_n hx hb dX2_testsUpTo_20 rfl (lv_at hl 1 rfl) ?_
      refine lv_bipush (v := 12) hx hb dX2_testsUpTo_21 (by decide) ?_
      refine lv_imul hx hb dX2_testsUpTo_23 ?_
      refine lv_iload hx hb dX2_testsUpTo_24 (lv_at hl 4 rfl) ?_
      refine lv_iadd hx hb dX2_testsUpTo_26 ?_
      obtain ⟨hin, hq⟩ := hq
      refine w_ild C hw 11 0 cI_5 rfl hin dX2_testsUpTo_27 ?_
      refine lv_iload_n hx hb dX2_testsUpTo_28 rfl (lv_at hl 2 rfl) ?_
      refine lv_icmp_gt (tgt := 35) hx hb dX2_testsUpTo_29 (by decide) (fun hc => ?_) (fun hc => ?_)
      · replace hq := hq.1 hc
        exact kJX2_testsUpTo_35 C S x1 x2 x3 x4 _ K Q hq _ _ _ hw (lv_sub hl [0, 1, 2, 3, 4] rfl) (fun S a3 a4 H locs ls hq hw hl => ih S a3 a4 hq H locs ls hw hl) hK
      · replace hq := hq.2 hc
        refine lv_iinc (v := x3 + 1) (lv' := [(3, .int (x3 + 1)), (0, .ref (ad 1)), (1, .int x1), (2, .int x2), (4, .int x4)]) hx hb dX2_testsUpTo_32 hl (k := 3) rfl rfl (by decide) rfl (fun ls hl => ?_)
        exact kJX2_testsUpTo_35 C S x1 x2 (x3 + 1) x4 _ K Q hq _ _ _ hw (lv_sub hl [1, 2, 3, 0, 4] rfl) (fun S a3 a4 H locs ls hq hw hl => ih S a3 a4 hq H locs ls hw hl) hK
set_option maxHeartbeats 4000000 in
set_option maxRecDepth 100000 in
theorem mX2_testsUpTo (l : Launch) (D : va_G) (ad : Nat → Nat) (cI cL : ClassId) (S : MS) (x1 : Int32) (x2 : Int32) (Q : Int32 → MS → Prop) (hq : wX2_testsUpTo S x1 x2 Q) : Mi l yX2_testsUpTo cX2_testsUpTo 5 (some .int) { frames := 0, cells := 0, slots := 0, locals := 0 } D (ctys cI cL) (cw ad cI cL) [.ref (ad 1), .int x1, .int x2] S Q := by
  refine Mi.of (by decide +kernel) (Nat.le_of_ble_eq_true rfl) ?_
  intro p e s m args below meth c A ls C hw hl
  have hx := C.1
  have hb := C.2.1
  have hl : lv_has ls 5 [(0, .ref (ad 1)), (1, .int x1), (2, .int x2)] := hl
  have hw : WW D (ctys cI cL) (cw ad cI cL S) A s s.heap [] := hw
  unfold wX2_testsUpTo at hq
  refine lv_iconst (v := 0) hx hb dX2_testsUpTo_0 (by decide) ?_
  refine lv_istore_n (lv' := [(3, .int 0), (0, .ref (ad 1)), (1, .int x1), (2, .int x2)]) hx hb dX2_testsUpTo_1 rfl hl (by decide) rfl (fun ls hl => ?_)
  refine lv_iconst (v := 0) hx hb dX2_testsUpTo_2 (by decide) ?_
  refine lv_istore (lv' := [(4, .int 0), (3, .int 0), (0, .ref (ad 1)), (1, .int x1), (2, .int x2)]) hx hb dX2_testsUpTo_3 hl (by decide) rfl (fun ls hl => ?_)
  obtain ⟨n0, hq⟩ := hq
  refine kLX2_testsUpTo_5 C x1 x2 _ Q ?_ n0 S 0 0 hq _ _ _ hw (lv_sub hl [2, 3, 4, 1, 0] rfl)
  clear hw hl hq
  intro S_1 y_2 H locs ls hq hw hl
  refine lv_iload_n hx hb dX2_testsUpTo_41 rfl (lv_at hl 0 rfl) ?_
  exact w_iret C hw hq dX2_testsUpTo_42
set_option maxHeartbeats 4000000 in
set_option maxRecDepth 100000 in
theorem mX2_shareAfter (l : Launch) (D : va_G) (ad : Nat → Nat) (cI cL : ClassId) (S : MS) (x1 : Int32) (x2 : Int32) (x3 : Int32) (Q : Int32 → MS → Prop) (hq : wX2_shareAfter S x1 x2 x3 Q) : Mi l yX2_shareAfter cX2_shareAfter 4 (some .int) { frames := 1, cells := 0, slots := 0, locals := 13 } D (ctys cI cL) (cw ad cI cL) [.ref (ad 1), .int x1, .int x2, .int x3] S Q := by
  refine Mi.of (by decide +kernel) (Nat.le_of_ble_eq_true rfl) ?_
  intro p e s m args below meth c A ls C hw hl
  have hx := C.1
  have hb := C.2.1
  have hl : lv_has ls 4 [(0, .ref (ad 1)), (1, .int x1), (2, .int x2), (3, .int x3)] := hl
  have hw : WW D (ctys cI cL) (cw ad cI cL S) A s s.heap [] := hw
  unfold wX2_shareAfter at hq
  refine lv_aload_n hx hb dX2_shareAfter_0 rfl (lv_at hl 0 rfl) ?_
  refine w_get C hw uw_X2 1 cO_X2 rfl 6 (by decide) fl_X2_30 rfl dX2_shareAfter_1 ?_
  refine lv_iload_n hx hb dX2_shareAfter_4 rfl (lv_at hl 1 rfl) ?_
  refine lv_bipush (v := 16) hx hb dX2_shareAfter_5 (by decide) ?_
  refine lv_imul hx hb dX2_shareAfter_7 ?_
  refine lv_iload_n hx hb dX2_shareAfter_8 rfl (lv_at hl 2 rfl) ?_
  refine lv_bipush (v := 6) hx hb dX2_shareAfter_9 (by decide) ?_
  refine lv_ishr hx hb dX2_shareAfter_11 ?_
  refine lv_iadd hx hb dX2_shareAfter_12 ?_
  obtain ⟨hin, hq⟩ := hq
  refine w_lld C hw 23 1 cL_0 rfl hin dX2_shareAfter_13 ?_
  refine lv_iload_n hx hb dX2_shareAfter_14 rfl (lv_at hl 2 rfl) ?_
  refine lv_bipush (v := 63) hx hb dX2_shareAfter_15 (by decide) ?_
  refine lv_iand hx hb dX2_shareAfter_17 ?_
  refine lv_lushr (v := (jlushr (S.2.1 0 ((x1 * 16) + (x2 >>> ((6 : Int32) &&& 31))).toNatClampNeg) (x2 &&& 63))) hx hb dX2_shareAfter_18 rfl ?_
  refine lv_lconst (v := 1) hx hb dX2_shareAfter_19 (by decide) ?_
  refine lv_land hx hb dX2_shareAfter_20 ?_
  refine lv_lconst (v := 0) hx hb dX2_shareAfter_21 (by decide) ?_
  refine W.lcmp hx hb dX2_shareAfter_22 ?_
  refine lv_if_eq (tgt := 29) hx hb dX2_shareAfter_23 (by decide) (fun hc => ?_) (fun hc => ?_)
  · replace hq := hq.1 hc
    refine lv_bipush (v := 64) hx hb dX2_shareAfter_29 (by decide) ?_
    refine lv_aload_n hx hb dX2_shareAfter_31 rfl (lv_at hl 0 rfl) ?_
    refine w_get C hw uw_X2 1 cO_X2 rfl 0 (by decide) fl_X2_9 rfl dX2_shareAfter_32 ?_
    refine lv_iload_n hx hb dX2_shareAfter_35 rfl (lv_at hl 1 rfl) ?_
    obtain ⟨hin, hq⟩ := hq
    refine w_ild C hw 6 0 cI_0 rfl hin dX2_shareAfter_36 ?_
    refine lv_aload_n hx hb dX2_shareAfter_37 rfl (lv_at hl 0 rfl) ?_
    refine w_get C hw uw_X2 1 cO_X2 rfl 1 (by decide) fl_X2_15 rfl dX2_shareAfter_38 ?_
    refine lv_iload_n hx hb dX2_shareAfter_41 rfl (lv_at hl 1 rfl) ?_
    obtain ⟨hin, hq⟩ := hq
    refine w_ild C hw 7 0 cI_1 rfl hin dX2_shareAfter_42 ?_
    refine lv_iload_n hx hb dX2_shareAfter_43 rfl (lv_at hl 3 rfl) ?_
    refine lv_imul hx hb dX2_shareAfter_44 ?_
    refine lv_iadd hx hb dX2_shareAfter_45 ?_
    refine va_mmin hx hb (C.2.2.2.1.trans hl.1.symm) C.2.2.2.2.1 (C.w ml_X2_59 rfl) (C.w kc_min.1 rfl) (C.w kc_min.2.1 rfl) (C.w kc_min.2.2 rfl) (Nat.le_of_ble_eq_true rfl) (Nat.le_of_ble_eq_true rfl) (Nat.zero_le _) (Nat.zero_le _) dX2_shareAfter_46 ?_
    exact w_iret C hw hq dX2_shareAfter_49
  · replace hq := hq.2 hc
    refine lv_bipush (v := 64) hx hb dX2_shareAfter_26 (by decide) ?_
    exact w_iret C hw hq dX2_shareAfter_28
set_option maxHeartbeats 4000000 in
set_option maxRecDepth 100000 in
theorem kJX2_shareOn_28 {p : Program} {l : Launch} {e : Env} {s : State} {m : MethodId} {args : Array Value} {below : List Frame} {meth : Method} {c : Code} {D : va_G} {ad : Nat → Nat} {cI cL : ClassId} {A : Nat → Prop} (C : Cx p s m args meth c yX2_shareOn.cls cX2_shareOn 5 (some .int)) (S : MS) (x1 : Int32) (x2 : Int32) (t0 : Int32) (Q : Int32 → MS → Prop) (hq : JX2_shareOn_28 S x1 x2 t0 Q) (H : Heap) (locs : List Loc) (ls : Array Slot) (hw : WW D (ctys cI cL) (cw ad cI cL S) A s H locs) (hl : lv_has ls 5 [(0, .ref (ad 1)), (1, .int x1), (2, .int x2)]) : W p l e { frames := 2, cells := 0, slots := 0, locals := 36 } s m args below meth c H locs 0 0 (Zi D (ctys cI cL) (cw ad cI cL) A below args s Q) (F0 m 28 ls [.int t0]) := by
  have hx := C.1
  have hb := C.2.1
  unfold JX2_shareOn_28 at hq
  refine lv_istore (lv' := [(4, .int t0), (0, .ref (ad 1)), (1, .int x1), (2, .int x2)]) hx hb dX2_shareOn_28 hl (by decide) rfl (fun ls hl => ?_)
  refine lv_aload_n hx hb dX2_shareOn_30 rfl (lv_at hl 1 rfl) ?_
  refine lv_iload_n hx hb dX2_shareOn_31 rfl (lv_at hl 2 rfl) ?_
  refine lv_iload_n hx hb dX2_shareOn_32 rfl (lv_at hl 3 rfl) ?_
  refine lv_iload_n hx hb dX2_shareOn_33 rfl (lv_at hl 3 rfl) ?_
  refine lv_iload hx hb dX2_shareOn_34 (lv_at hl 0 rfl) ?_
  refine lv_isub hx hb dX2_shareOn_36 ?_
  refine w_calli hw (w_runV (rest := []) C hw (mX2_shareAfter l D ad cI cL S x1 x2 (x2 - t0) _ hq _) kc_X2_shareAfter ml_X2_55 1 cO_X2 rfl rfl ⟨rfl, rfl, Nat.le_of_ble_eq_true rfl, Nat.le_of_ble_eq_true rfl⟩ rfl rfl (Nat.le_of_ble_eq_true rfl) hl.1 dX2_shareOn_37) ?_
  clear hw hq
  intro r_4 S_3 H locs hq hw
  exact w_iret C hw hq dX2_shareOn_40
set_option maxHeartbeats 4000000 in
set_option maxRecDepth 100000 in
theorem mX2_shareOn (l : Launch) (D : va_G) (ad : Nat → Nat) (cI cL : ClassId) (S : MS) (x1 : Int32) (x2 : Int32) (Q : Int32 → MS → Prop) (hq : wX2_shareOn S x1 x2 Q) : Mi l yX2_shareOn cX2_shareOn 5 (some .int) { frames := 2, cells := 0, slots := 0, locals := 36 } D (ctys cI cL) (cw ad cI cL) [.ref (ad 1), .int x1, .int x2] S Q := by
  refine Mi.of (by decide +kernel) (Nat.le_of_ble_eq_true rfl) ?_
  intro p e s m args below meth c A ls C hw hl
  have hx := C.1
  have hb := C.2.1
  have hl : lv_has ls 5 [(0, .ref (ad 1)), (1, .int x1), (2, .int x2)] := hl
  have hw : WW D (ctys cI cL) (cw ad cI cL S) A s s.heap [] := hw
  unfold wX2_shareOn at hq
  refine lv_aload_n hx hb dX2_shareOn_0 rfl (lv_at hl 0 rfl) ?_
  refine lv_iload_n hx hb dX2_shareOn_1 rfl (lv_at hl 1 rfl) ?_
  refine lv_iload_n hx hb dX2_shareOn_2 rfl (lv_at hl 2 rfl) ?_
  refine w_calli hw (w_runV (rest := []) C hw (mX2_testsUpTo l D ad cI cL S x1 x2 _ hq _) kc_X2_testsUpTo ml_X2_41 1 cO_X2 rfl rfl ⟨rfl, rfl, Nat.le_of_ble_eq_true rfl, Nat.le_of_ble_eq_true rfl⟩ rfl rfl (Nat.le_of_ble_eq_true rfl) hl.1 dX2_shareOn_3) ?_
  clear hw hq
  intro r_2 S_1 H locs hq hw
  refine lv_istore_n (lv' := [(3, .int r_2), (0, .ref (ad 1)), (1, .int x1), (2, .int x2)]) hx hb dX2_shareOn_6 rfl hl (by decide) rfl (fun ls hl => ?_)
  refine lv_iload_n hx hb dX2_shareOn_7 rfl (lv_at hl 0 rfl) ?_
  refine lv_if_ne (tgt := 15) hx hb dX2_shareOn_8 (by decide) (fun hc => ?_) (fun hc => ?_)
  · replace hq := hq.2 hc
    refine lv_aload_n hx hb dX2_shareOn_15 rfl (lv_at hl 1 rfl) ?_
    refine w_get C hw uw_X2 1 cO_X2 rfl 5 (by decide) fl_X2_27 rfl dX2_shareOn_16 ?_
    refine lv_iload_n hx hb dX2_shareOn_19 rfl (lv_at hl 2 rfl) ?_
    refine lv_bipush (v := 12) hx hb dX2_shareOn_20 (by decide) ?_
    refine lv_imul hx hb dX2_shareOn_22 ?_
    refine lv_iload_n hx hb dX2_shareOn_23 rfl (lv_at hl 0 rfl) ?_
    refine lv_iadd hx hb dX2_shareOn_24 ?_
    refine lv_iconst (v := 1) hx hb dX2_shareOn_25 (by decide) ?_
    refine lv_isub hx hb dX2_shareOn_26 ?_
    obtain ⟨hin, hq⟩ := hq
    refine w_ild C hw 11 0 cI_5 rfl hin dX2_shareOn_27 ?_
    exact kJX2_shareOn_28 C S_1 x1 x2 (S_1.1 5 (((x1 * 12) + r_2) - 1).toNatClampNeg) Q hq _ _ _ hw (lv_sub hl [1, 2, 3] rfl)
  · replace hq := hq.1 hc
    refine lv_iconst (v := 0) hx hb dX2_shareOn_11 (by decide) ?_
    refine lv_goto (tgt := 28) hx hb dX2_shareOn_12 (by decide) ?_
    exact kJX2_shareOn_28 C S_1 x1 x2 0 Q hq _ _ _ hw (lv_sub hl [1, 2, 3] rfl)
