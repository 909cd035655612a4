set_option maxHeartbeats 4000000 in
set_option maxRecDepth 100000 in
theorem kJX4_actingInputs_38 {p : Program} {l : Launch} {e : Env} {s : State} {m : MethodId} {args : Array Value} {below : List Frame} {meth : Method} {c : Code} {D : va_G} {ad : Nat → Nat} {cI cL : ClassId} {A : Nat → Prop} (C : Cx p s m args meth c yX4_actingInputs.cls cX4_actingInputs 5 (some .int)) (S : MS) (x1 : Int32) (x2 : Int32) (x3 : Int32) (x4 : Int32) (Hd : MS → Int32 → Int32 → Prop) (K : MS → Int32 → Prop) (Q : Int32 → MS → Prop) (hq : JX4_actingInputs_38 S x1 x2 x3 x4 Hd K Q) (H : Heap) (locs : List Loc) (ls : Array Slot) (hw : WW D (ctys cI cL) (cw ad cI cL S) A s H locs) (hl : lv_has ls 5 [(0, .ref (ad 3)), (1, .int x1), (2, .int x2), (3, .int x3), (4, .int x4)]) (hH : ∀ (S : MS) (z3 : Int32) (z4 : Int32) (H : Heap) (locs : List Loc) (ls : Array Slot), Hd S z3 z4 → WW D (ctys cI cL) (cw ad cI cL S) A s H locs → lv_has ls 5 [(0, .ref (ad 3)), (1, .int x1), (2, .int x2), (3, .int z3), (4, .int z4)] → W p l e { frames := 3, cells := 0, slots := 0, locals := 68 } s m args below meth c H locs 0 0 (Zi D (ctys cI cL) (cw ad cI cL) A below args s Q) (F0 m 5 ls [])) (hK : ∀ (S : MS) (z3 : Int32) (H : Heap) (locs : List Loc) (ls : Array Slot), K S z3 → WW D (ctys cI cL) (cw ad cI cL S) A s H locs → lv_has ls 5 [(3, .int z3)] → W p l e { frames := 3, cells := 0, slots := 0, locals := 68 } s m args below meth c H locs 0 0 (Zi D (ctys cI cL) (cw ad cI cL) A below args s Q) (F0 m 44 ls [])) : W p l e { frames := 3, cells := 0, slots := 0, locals := 68 } s m args below meth c H locs 0 0 (Zi D (ctys cI cL) (cw ad cI cL) A below args s Q) (F0 m 38 ls []) := by
  have hx := C.1
  have hb := C.2.1
  unfold JX4_actingInputs_38 at hq
  refine lv_iinc (v := x4 + 1) (lv' := [(4, .int (x4 + 1)), (0, .ref (ad 3)), (1, .int x1), (2, .int x2), (3, .int x3)]) hx hb dX4_actingInputs_38 hl (k := 4) rfl rfl (by decide) rfl (fun ls hl => ?_)
  refine lv_goto (tgt := 5) hx hb dX4_actingInputs_41 (by decide) ?_
  exact hH S x3 (x4 + 1) _ _ _ hq hw (lv_sub hl [1, 2, 3, 4, 0] rfl)
set_option maxHeartbeats 4000000 in
set_option maxRecDepth 100000 in
theorem kLX4_actingInputs_5 {p : Program} {l : Launch} {e : Env} {s : State} {m : MethodId} {args : Array Value} {below : List Frame} {meth : Method} {c : Code} {D : va_G} {ad : Nat → Nat} {cI cL : ClassId} {A : Nat → Prop} (C : Cx p s m args meth c yX4_actingInputs.cls cX4_actingInputs 5 (some .int)) (x1 : Int32) (x2 : Int32) (K : MS → Int32 → Prop) (Q : Int32 → MS → Prop) (hK : ∀ (S : MS) (z3 : Int32) (H : Heap) (locs : List Loc) (ls : Array Slot), K S z3 → WW D (ctys cI cL) (cw ad cI cL S) A s H locs → lv_has ls 5 [(3, .int z3)] → W p l e { frames := 3, cells := 0, slots := 0, locals := 68 } s m args below meth c H locs 0 0 (Zi D (ctys cI cL) (cw ad cI cL) A below args s Q) (F0 m 44 ls [])) : ∀ (n : Nat) (S : MS) (x3 : Int32) (x4 : Int32) (_ : LX4_actingInputs_5 x1 x2 K Q n S x3 x4) (H : Heap) (locs : List Loc) (ls : Array Slot), WW D (ctys cI cL) (cw ad cI cL S) A s H locs → lv_has ls 5 [(0, .ref (ad 3)), (1, .int x1), (2, .int x2), (3, .int x3), (4, .int x4)] → W p l e { frames := 3, cells := 0, slots := 0, locals := 68 } s m args below meth c H locs 0 0 (Zi D (ctys cI cL) (cw ad cI cL) A below args s Q) (F0 m 5 ls []) := by
  have hx := C.1
  have hb := C.2.1
  intro n
  induction n with
  | zero => intro S x3 x4 hq; exact absurd hq (by rw [LX4_actingInputs_5]; exact id)
  | succ n ih =>
    intro S x3 x4 hq H locs ls hw hl
    rw [LX4_actingInputs_5] at hq
    refine lv_iload hx hb dX4_actingInputs_5 (lv_at hl 4 rfl) ?_
    refine lv_aload_n hx hb dX4_actingInputs_7 rfl (lv_at hl 0 rfl) ?_
    refine w_get C hw uw_X4 3 cO_X4 rfl 1 (by decide) fl_X4_15 rfl dX4_actingInputs_8 ?_
    refine lv_iload_n hx hb dX4_actingInputs_11 rfl (lv_at hl 1 rfl) ?_
    obtain ⟨hin, hq⟩ := hq
    refine w_ild C hw 15 0 cI_9 rfl hin dX4_actingInputs_12 ?_
    refine lv_icmp_ge (tgt := 44) hx hb dX4_actingInputs_13 (by decide) (fun hc => ?_) (fun hc => ?_)
    · replace hq := hq.1 hc
      exact hK S x3 _ _ _ hq hw (lv_sub hl [3] rfl)
    · replace hq := hq.2 hc
      refine lv_aload_n hx hb dX4_actingInputs_16 rfl (lv_at hl 0 rfl) ?_
      refine lv_aload_n hx hb dX4_actingInputs_17 rfl (lv_at hl 0 rfl) ?_
      refine w_get C hw uw_X4 3 cO_X4 rfl 2 (by decide) fl_X4_18 rfl dX4_actingInputs_18 ?_
      refine lv_iload_n hx hb dX4_actingInputs_21 rfl (lv_at hl 1 rfl) ?_
      refine lv_iconst (v := 4) hx hb dX4_actingInputs_22 (by decide) ?_
      refine lv_imul hx hb dX4_actingInputs_23 ?_
      refine lv_iload hx hb dX4_actingInputs_24 (lv_at hl 4 rfl) ?_
      refine lv_iadd hx hb dX4_actingInputs_26 ?_
      obtain ⟨hin, hq⟩ := hq
      refine w_ild C hw 16 0 cI_10 rfl hin dX4_actingInputs_27 ?_
      refine lv_iload_n hx hb dX4_actingInputs_28 rfl (lv_at hl 2 rfl) ?_
      refine w_calli hw (w_runV (rest := []) C hw (mX4_inputActs l D ad cI cL S (S.1 10 ((x1 * 4) + x4).toNatClampNeg) x2 _ hq _) kc_X4_inputActs ml_X4_55 3 cO_X4 rfl rfl ⟨rfl, rfl, Nat.le_of_ble_eq_true rfl, Nat.le_of_ble_eq_true rfl⟩ rfl rfl (Nat.le_of_ble_eq_true rfl) hl.1 dX4_actingInputs_29) ?_
      clear hw hq
      intro r_2 S_1 H locs hq hw
      refine lv_if_eq (tgt := 38) hx hb dX4_actingInputs_32 (by decide) (fun hc => ?_) (fun hc => ?_)
      · replace hq := hq.1 hc
        exact kJX4_actingInputs_38 C S_1 x1 x2 x3 x4 _ K Q hq _ _ _ hw (lv_sub hl [0, 1, 2, 3, 4] rfl) (fun S a3 a4 H locs ls hq hw hl => ih S a3 a4 hq H locs ls hw hl) hK
      · replace hq := hq.2 hc
        refine lv_iinc (v := x3 + 1) (lv' := [(3, .int (x3 + 1)), (0, .ref (ad 3)), (1, .int x1), (2, .int x2), (4, .int x4)]) hx hb dX4_actingInputs_35 hl (k := 3) rfl rfl (by decide) rfl (fun ls hl => ?_)
        exact kJX4_actingInputs_38 C S_1 x1 x2 (x3 + 1) x4 _ K Q hq _ _ _ hw (lv_sub hl [1, 2, 3, 0, 4] rfl) (fun S a3 a4 H locs ls hq hw hl => ih S a3 a4 hq H locs ls hw hl) hK
set_option maxHeartbeats 4000000 in
set_option maxRecDepth 100000 in
theorem mX4_actingInputs (l : Launch) (D : va_G) (ad : Nat → Nat) (cI cL : ClassId) (S : MS) (x1 : Int32) (x2 : Int32) (Q : Int32 → MS → Prop) (hq : wX4_actingInputs S x1 x2 Q) : Mi l yX4_actingInputs cX4_actingInputs 5 (some .int) { frames := 3, cells := 0, slots := 0, locals := 68 } D (ctys cI cL) (cw ad cI cL) [.ref (ad 3), .int x1, .int x2] S Q := by
  refine Mi.of (by decide +kernel) (Nat.le_of_ble_eq_true rfl) ?_
  intro p e s m args below meth c A ls C hw hl
  have hx := C.1
  have hb := C.2.1
  have hl : lv_has ls 5 [(0, .ref (ad 3)), (1, .int x1), (2, .int x2)] := hl
  have hw : WW D (ctys cI cL) (cw ad cI cL S) A s s.heap [] := hw
  unfold wX4_actingInputs at hq
  refine lv_iconst (v := 0) hx hb dX4_actingInputs_0 (by decide) ?_
  refine lv_istore_n (lv' := [(3, .int 0), (0, .ref (ad 3)), (1, .int x1), (2, .int x2)]) hx hb dX4_actingInputs_1 rfl hl (by decide) rfl (fun ls hl => ?_)
  refine lv_iconst (v := 0) hx hb dX4_actingInputs_2 (by decide) ?_
  refine lv_istore (lv' := [(4, .int 0), (3, .int 0), (0, .ref (ad 3)), (1, .int x1), (2, .int x2)]) hx hb dX4_actingInputs_3 hl (by decide) rfl (fun ls hl => ?_)
  obtain ⟨n0, hq⟩ := hq
  refine kLX4_actingInputs_5 C x1 x2 _ Q ?_ n0 S 0 0 hq _ _ _ hw (lv_sub hl [2, 3, 4, 1, 0] rfl)
  clear hw hl hq
  intro S_1 y_2 H locs ls hq hw hl
  refine lv_iload_n hx hb dX4_actingInputs_44 rfl (lv_at hl 0 rfl) ?_
  exact w_iret C hw hq dX4_actingInputs_45
set_option maxHeartbeats 4000000 in
set_option maxRecDepth 100000 in
theorem kJX4_workOutActingSets_61 {p : Program} {l : Launch} {e : Env} {s : State} {m : MethodId} {args : Array Value} {below : List Frame} {meth : Method} {c : Code} {D : va_G} {ad : Nat → Nat} {cI cL : ClassId} {A : Nat → Prop} (C : Cx p s m args meth c yX4_workOutActingSets.cls cX4_workOutActingSets 4 none) (S : MS) (x1 : Int32) (x2 : Int32) (x3 : Int32) (Hd : MS → Int32 → Prop) (K : MS → Prop) (Q : MS → Prop) (hq : JX4_workOutActingSets_61 S x1 x2 x3 Hd K Q) (H : Heap) (locs : List Loc) (ls : Array Slot) (hw : WW D (ctys cI cL) (cw ad cI cL S) A s H locs) (hl : lv_has ls 4 [(0, .ref (ad 3)), (1, .int x1), (2, .int x2), (3, .int x3)]) (hH : ∀ (S : MS) (z3 : Int32) (H : Heap) (locs : List Loc) (ls : Array Slot), Hd S z3 → WW D (ctys cI cL) (cw ad cI cL S) A s H locs → lv_has ls 4 [(0, .ref (ad 3)), (1, .int x1), (2, .int x2), (3, .int z3)] → W p l e { frames := 4, cells := 0, slots := 0, locals := 92 } s m args below meth c H locs 0 0 (Zv D (ctys cI cL) (cw ad cI cL) A below args s Q) (F0 m 10 ls [])) (hK : ∀ (S : MS) (H : Heap) (locs : List Loc) (ls : Array Slot), K S  → WW D (ctys cI cL) (cw ad cI cL S) A s H locs → lv_has ls 4 [] → W p l e { frames := 4, cells := 0, slots := 0, locals := 92 } s m args below meth c H locs 0 0 (Zv D (ctys cI cL) (cw ad cI cL) A below args s Q) (F0 m 67 ls [])) : W p l e { frames := 4, cells := 0, slots := 0, locals := 92 } s m args below meth c H locs 0 0 (Zv D (ctys cI cL) (cw ad cI cL) A below args s Q) (F0 m 61 ls []) := by
  have hx := C.1
  have hb := C.2.1
  unfold JX4_workOutActingSets_61 at hq
  refine lv_iinc (v := x3 + 1) (lv' := [(3, .int (x3 + 1)), (0, .ref (ad 3)), (1, .int x1), (2, .int x2)]) hx hb dX4_workOutActingSets_61 hl (k := 3) rfl rfl (by decide) rfl (fun ls hl => ?_)
  refine lv_goto (tgt := 10) hx hb dX4_workOutActingSets_64 (by decide) ?_
  exact hH S (x3 + 1) _ _ _ hq hw (lv_sub hl [1, 2, 3, 0] rfl)
set_option maxHeartbeats 4000000 in
set_option maxRecDepth 100000 in
theorem kLX4_workOutActingSets_10 {p : Program} {l : Launch} {e : Env} {s : State} {m : MethodId} {args : Array Value} {below : List Frame} {meth : Method} {c : Code} {D : va_G} {ad : Nat → Nat} {cI cL : ClassId} {A : Nat → Prop} (C : Cx p s m args meth c yX4_workOutActingSets.cls cX4_workOutActingSets 4 none) (x1 : Int32) (x2 : Int32) (K : MS → Prop) (Q : MS → Prop) (hK : ∀ (S : MS) (H : Heap) (locs : List Loc) (ls : Array Slot), K S  → WW D (ctys cI cL) (cw ad cI cL S) A s H locs → lv_has ls 4 [] → W p l e { frames := 4, cells := 0, slots := 0, locals := 92 } s m args below meth c H locs 0 0 (Zv D (ctys cI cL) (cw ad cI cL) A below args s Q) (F0 m 67 ls [])) : ∀ (n : Nat) (S : MS) (x3 : Int32) (_ : LX4_workOutActingSets_10 x1 x2 K Q n S x3) (H : Heap) (locs : List Loc) (ls : Array Slot), WW D (ctys cI cL) (cw ad cI cL S) A s H locs → lv_has ls 4 [(0, .ref (ad 3)), (1, .int x1), (2, .int x2), (3, .int x3)] → W p l e { frames := 4, cells := 0, slots := 0, locals := 92 } s m args below meth c H locs 0 0 (Zv D (ctys cI cL) (cw ad cI cL) A below args s Q) (F0 m 10 ls []) := by
  have hx := C.1
  have hb := C.2.1
  intro n
  induction n with
  | zero => intro S x3 hq; exact absurd hq (by rw [LX4_workOutActingSets_10]; exact id)
  | succ n ih =>
    intro S x3 hq H locs ls hw hl
    rw [LX4_workOutActingSets_10] at hq
    refine lv_iload_n hx hb dX4_workOutActingSets_10 rfl (lv_at hl 3 rfl) ?_
    refine lv_iload_n hx hb dX4_workOutActingSets_11 rfl (lv_at hl 2 rfl) ?_
    refine lv_icmp_ge (tgt := 67) hx hb dX4_workOutActingSets_12 (by decide) (fun hc => ?_) (fun hc => ?_)
    · replace hq := hq.1 hc
      exact hK S  _ _ _ hq hw (lv_sub hl [] rfl)
    · replace hq := hq.2 hc
      refine lv_aload_n hx hb dX4_workOutActingSets_15 rfl (lv_at hl 0 rfl) ?_
      refine lv_iload_n hx hb dX4_workOutActingSets_16 rfl (lv_at hl 1 rfl) ?_
      refine lv_iload_n hx hb dX4_workOutActingSets_17 rfl (lv_at hl 3 rfl) ?_
      refine lv_aload_n hx hb dX4_workOutActingSets_18 rfl (lv_at hl 0 rfl) ?_
      refine w_get C hw uw_X4 3 cO_X4 rfl 3 (by decide) fl_X4_21 rfl dX4_workOutActingSets_19 ?_
      refine lv_iload_n hx hb dX4_workOutActingSets_22 rfl (lv_at hl 1 rfl) ?_
      obtain ⟨hin, hq⟩ := hq
      refine w_ild C hw 17 0 cI_11 rfl hin dX4_workOutActingSets_23 ?_
      refine w_calli hw (w_runN (rest := [.int x1, .ref (ad 3)]) C hw (mX5_spread l D ad cI cL S x3 (S.1 11 x1.toNatClampNeg) _ hq _) kc_X5_spread ml_X4_48 ⟨rfl, rfl, Nat.le_of_ble_eq_true rfl, Nat.le_of_ble_eq_true rfl⟩ rfl rfl (Nat.le_of_ble_eq_true rfl) hl.1 dX4_workOutActingSets_24) ?_
      clear hw hq
      intro r_2 S_1 H locs hq hw
      refine w_calli hw (w_runV (rest := []) C hw (mX4_actingInputs l D ad cI cL S_1 x1 r_2 _ hq _) kc_X4_actingInputs ml_X4_52 3 cO_X4 rfl rfl ⟨rfl, rfl, Nat.le_of_ble_eq_true rfl, Nat.le_of_ble_eq_true rfl⟩ rfl rfl (Nat.le_of_ble_eq_true rfl) hl.1 dX4_workOutActingSets_27) ?_
      clear hw hq
      intro r_4 S_3 H locs hq hw
      refine lv_aload_n hx hb dX4_workOutActingSets_30 rfl (lv_at hl 0 rfl) ?_
      refine w_get C hw uw_X4 3 cO_X4 rfl 0 (by decide) fl_X4_9 rfl dX4_workOutActingSets_31 ?_
      refine lv_iload_n hx hb dX4_workOutActingSets_34 rfl (lv_at hl 1 rfl) ?_
      obtain ⟨hin, hq⟩ := hq
      refine w_ild C hw 14 0 cI_8 rfl hin dX4_workOutActingSets_35 ?_
      refine lv_icmp_lt (tgt := 61) hx hb dX4_workOutActingSets_36 (by decide) (fun hc => ?_) (fun hc => ?_)
      · replace hq := hq.1 hc
        exact kJX4_workOutActingSets_61 C S_3 x1 x2 x3 _ K Q hq _ _ _ hw (lv_sub hl [0, 1, 2, 3] rfl) (fun S a3 H locs ls hq hw hl => ih S a3 hq H locs ls hw hl) hK
      · replace hq := hq.2 hc
        refine lv_aload_n hx hb dX4_workOutActingSets_39 rfl (lv_at hl 0 rfl) ?_
        refine w_get C hw uw_X4 3 cO_X4 rfl 4 (by decide) fl_X4_24 rfl dX4_workOutActingSets_40 ?_
        refine lv_iload_n hx hb dX4_workOutActingSets_43 rfl (lv_at hl 1 rfl) ?_
        refine lv_iconst (v := 4) hx hb dX4_workOutActingSets_44 (by decide) ?_
        refine lv_imul hx hb dX4_workOutActingSets_45 ?_
        refine lv_iload_n hx hb dX4_workOutActingSets_46 rfl (lv_at hl 3 rfl) ?_
        refine lv_bipush (v := 6) hx hb dX4_workOutActingSets_47 (by decide) ?_
        refine lv_ishr hx hb dX4_workOutActingSets_49 ?_
        refine lv_iadd hx hb dX4_workOutActingSets_50 ?_
        refine lv_dup2_11 hx hb dX4_workOutActingSets_51 rfl rfl ?_
        obtain ⟨hin, hq⟩ := hq
        refine w_lld C hw 24 1 cL_1 rfl hin dX4_workOutActingSets_52 ?_
        refine lv_lconst (v := 1) hx hb dX4_workOutActingSets_53 (by decide) ?_
        refine lv_iload_n hx hb dX4_workOutActingSets_54 rfl (lv_at hl 3 rfl) ?_
        refine lv_bipush (v := 63) hx hb dX4_workOutActingSets_55 (by decide) ?_
        refine lv_iand hx hb dX4_workOutActingSets_57 ?_
        refine lv_lshl (v := (jlshl 1 (x3 &&& 63))) hx hb dX4_workOutActingSets_58 rfl ?_
        refine lv_lor hx hb dX4_workOutActingSets_59 ?_
        obtain ⟨hin, hq⟩ := hq
        obtain ⟨S_5, eS_5⟩ : ∃ z, z = uL S_3 1 ((x1 * 4) + (x3 >>> ((6 : Int32) &&& 31))).toNatClampNeg ((S_3.2.1 1 ((x1 * 4) + (x3 >>> ((6 : Int32) &&& 31))).toNatClampNeg) ||| (jlshl 1 (x3 &&& 63))) := ⟨_, rfl⟩
        replace hq := hq S_5 eS_5
        refine w_lst (ws' := cw ad cI cL S_5) C hw 24 1 cL_1 rfl hin dX4_workOutActingSets_60 (by rw [eS_5]; exact cLs_1) (fun H locs hw => ?_)
        exact kJX4_workOutActingSets_61 C S_5 x1 x2 x3 _ K Q hq _ _ _ hw (lv_sub hl [0, 1, 2, 3] rfl) (fun S a3 H locs ls hq hw hl => ih S a3 hq H locs ls hw hl) hK
set_option maxHeartbeats 4000000 in
set_option maxRecDepth 100000 in
theorem mX4_workOutActingSets (l : Launch) (D : va_G) (ad : Nat → Nat) (cI cL : ClassId) (S : MS) (x1 : Int32) (Q : MS → Prop) (hq : wX4_workOutActingSets S x1 Q) : Mv l yX4_workOutActingSets cX4_workOutActingSets 4 none { frames := 4, cells := 0, slots := 0, locals := 92 } D (ctys cI cL) (cw ad cI cL) [.ref (ad 3), .int x1] S Q := by
  refine Mv.of (by decide +kernel) (Nat.le_of_ble_eq_true rfl) ?_
  intro p e s m args below meth c A ls C hw hl
  have hx := C.1
  have hb := C.2.1
  have hl : lv_has ls 4 [(0, .ref (ad 3)), (1, .int x1)] := hl
  have hw : WW D (ctys cI cL) (cw ad cI cL S) A s s.heap [] := hw
  unfold wX4_workOutActingSets at hq
  refine lv_iconst (v := 1) hx hb dX4_workOutActingSets_0 (by decide) ?_
  refine lv_aload_n hx hb dX4_workOutActingSets_1 rfl (lv_at hl 0 rfl) ?_
  refine lv_iload_n hx hb dX4_workOutActingSets_2 rfl (lv_at hl 1 rfl) ?_
  refine w_calli hw (w_runV (rest := [.int 1]) C hw (mX4_sizeBelow l D ad cI cL S x1 _ hq _) kc_X4_sizeBelow ml_X4_41 3 cO_X4 rfl rfl ⟨rfl, rfl, Nat.le_of_ble_eq_true rfl, Nat.le_of_ble_eq_true rfl⟩ rfl rfl (Nat.le_of_ble_eq_true rfl) hl.1 dX4_workOutActingSets_3) ?_
  clear hw hq
  intro r_2 S_1 H locs hq hw
  refine lv_ishl hx hb dX4_workOutActingSets_6 ?_
  refine lv_istore_n (lv' := [(2, .int ((1 : Int32) <<< (r_2 &&& 31))), (0, .ref (ad 3)), (1, .int x1)]) hx hb dX4_workOutActingSets_7 rfl hl (by decide) rfl (fun ls hl => ?_)
  refine lv_iconst (v := 0) hx hb dX4_workOutActingSets_8 (by decide) ?_
  refine lv_istore_n (lv' := [(3, .int 0), (2, .int ((1 : Int32) <<< (r_2 &&& 31))), (0, .ref (ad 3)), (1, .int x1)]) hx hb dX4_workOutActingSets_9 rfl hl (by decide) rfl (fun ls hl => ?_)
  obtain ⟨n0, hq⟩ := hq
  refine kLX4_workOutActingSets_10 C x1 ((1 : Int32) <<< (r_2 &&& 31)) _ Q ?_ n0 S_1 0 hq _ _ _ hw (lv_sub hl [2, 3, 1, 0] rfl)
  clear hw hl hq
  intro S_3 H locs ls hq hw hl
  exact w_vret C hw hq dX4_workOutActingSets_67
set_option maxHeartbeats 4000000 in
set_option maxRecDepth 100000 in
theorem kLX4_add_37 {p : Program} {l : Launch} {e : Env} {s : State} {m : MethodId} {args : Array Value} {below : List Frame} {meth : Method} {c : Code} {D : va_G} {ad : Nat → Nat} {cI cL : ClassId} {A : Nat → Prop} (C : Cx p s m args meth c yX4_add.cls cX4_add 6 (some .int)) (x2 : Int32) (x4 : Int32) (K : MS → Prop) (Q : Int32 → MS → Prop) (hK : ∀ (S : MS) (H : Heap) (locs : List Loc) (ls : Array Slot), K S  → WW D (ctys cI cL) (cw ad cI cL S) A s H locs → lv_has ls 6 [(0, .ref (ad 3)), (4, .int x4)] → W p l e { frames := 5, cells := 0, slots := 0, locals := 115 } s m args below meth c H locs 0 0 (Zi D (ctys cI cL) (cw ad cI cL) A below args s Q) (F0 m 83 ls [])) : ∀ (n : Nat) (S : MS) (x5 : Int32) (_ : LX4_add_37 x2 x4 K Q n S x5) (H : Heap) (locs : List Loc) (ls : Array Slot), WW D (ctys cI cL) (cw ad cI cL S) A s H locs → lv_has ls 6 [(0, .ref (ad 3)), (2, .int x2), (3, .ref (ad 22)), (4, .int x4), (5, .int x5)] → W p l e { frames := 5, cells := 0, slots := 0, locals := 115 } s m args below meth c H locs 0 0 (Zi D (ctys cI cL) (cw ad cI cL) A below args s Q) (F0 m 37 ls []) := by
  have hx := C.1
  have hb := C.2.1
  intro n
  induction n with
  | zero => intro S x5 hq; exact absurd hq (by rw [LX4_add_37]; exact id)
  | succ n ih =>
    intro S x5 hq H locs ls hw hl
    rw [LX4_add_37] at hq
    refine lv_iload hx hb dX4_add_37 (lv_at hl 4 rfl) ?_
    refine lv_iload_n hx hb dX4_add_39 rfl (lv_at hl 1 rfl) ?_
    refine lv_icmp_ge (tgt := 83) hx hb dX4_add_40 (by decide) (fun hc => ?_) (fun hc => ?_)
    · replace hq := hq.1 hc
      exact hK S  _ _ _ hq hw (lv_sub hl [0, 3] rfl)
    · replace hq := hq.2 hc
      refine lv_aload_n hx hb dX4_add_43 rfl (lv_at hl 0 rfl) ?_
      refine w_get C hw uw_X4 3 cO_X4 rfl 2 (by decide) fl_X4_18 rfl dX4_add_44 ?_
      refine lv_iload hx hb dX4_add_47 (lv_at hl 3 rfl) ?_
      refine lv_iconst (v := 4) hx hb dX4_add_49 (by decide) ?_
      refine lv_imul hx hb dX4_add_50 ?_
      refine lv_iload hx hb dX4_add_51 (lv_at hl 4 rfl) ?_
      refine lv_iadd hx hb dX4_add_53 ?_
      refine lv_aload_n hx hb dX4_add_54 rfl (lv_at hl 2 rfl) ?_
      refine lv_iload hx hb dX4_add_55 (lv_at hl 4 rfl) ?_
      obtain ⟨hin, hq⟩ := hq
      refine w_ild C hw 22 0 cI_16 rfl hin dX4_add_57 ?_
      obtain ⟨hin, hq⟩ := hq
      obtain ⟨S_1, eS_1⟩ : ∃ z, z = uI S 10 ((x4 * 4) + x5).toNatClampNeg (S.1 16 x5.toNatClampNeg) := ⟨_, rfl⟩
      replace hq := hq S_1 eS_1
      refine w_ist (ws' := cw ad cI cL S_1) C hw 16 0 cI_10 rfl hin dX4_add_58 (by rw [eS_1]; exact cIs_10) (fun H locs hw => ?_)
      refine lv_aload_n hx hb dX4_add_59 rfl (lv_at hl 0 rfl) ?_
      refine w_get C hw uw_X4 3 cO_X4 rfl 3 (by decide) fl_X4_21 rfl dX4_add_60 ?_
      refine lv_iload hx hb dX4_add_63 (lv_at hl 3 rfl) ?_
      refine lv_dup2_11 hx hb dX4_add_65 rfl rfl ?_
      obtain ⟨hin, hq⟩ := hq
      refine w_ild C hw 17 0 cI_11 rfl hin dX4_add_66 ?_
      refine lv_aload_n hx hb dX4_add_67 rfl (lv_at hl 0 rfl) ?_
      refine lv_aload_n hx hb dX4_add_68 rfl (lv_at hl 2 rfl) ?_
      refine lv_iload hx hb dX4_add_69 (lv_at hl 4 rfl) ?_
      obtain ⟨hin, hq⟩ := hq
      refine w_ild C hw 22 0 cI_16 rfl hin dX4_add_71 ?_
      refine w_calli hw (w_runV (rest := [.int (S_1.1 11 x4.toNatClampNeg), .int x4, .ref (ad 17)]) C hw (mX4_partsOfInput l D ad cI cL S_1 (S_1.1 16 x5.toNatClampNeg) _ hq _) kc_X4_partsOfInput ml_X4_38 3 cO_X4 rfl rfl ⟨rfl, rfl, Nat.le_of_ble_eq_true rfl, Nat.le_of_ble_eq_true rfl⟩ rfl rfl (Nat.le_of_ble_eq_true rfl) hl.1 dX4_add_72) ?_
      clear hw hq
      intro r_3 S_2 H locs hq hw
      refine lv_ior hx hb dX4_add_75 ?_
      obtain ⟨hin, hq⟩ := hq
      obtain ⟨S_4, eS_4⟩ : ∃ z, z = uI S_2 11 x4.toNatClampNeg ((S_1.1 11 x4.toNatClampNeg) ||| r_3) := ⟨_, rfl⟩
      replace hq := hq S_4 eS_4
      refine w_ist (ws' := cw ad cI cL S_4) C hw 17 0 cI_11 rfl hin dX4_add_76 (by rw [eS_4]; exact cIs_11) (fun H locs hw => ?_)
      refine lv_iinc (v := x5 + 1) (lv' := [(5, .int (x5 + 1)), (0, .ref (ad 3)), (2, .int x2), (3, .ref (ad 22)), (4, .int x4)]) hx hb dX4_add_77 hl (k := 4) rfl rfl (by decide) rfl (fun ls hl => ?_)
      refine lv_goto (tgt := 37) hx hb dX4_add_80 (by decide) ?_
      exact ih S_4 (x5 + 1) hq _ _ _ hw (lv_sub hl [1, 2, 3, 4, 0] rfl)
set_option maxHeartbeats 4000000 in
set_option maxRecDepth 100000 in
theorem kJX4_add_100 {p : Program} {l : Launch} {e : Env} {s : State} {m : MethodId} {args : Array Value} {below : List Frame} {meth : Method} {c : Code} {D : va_G} {ad : Nat → Nat} {cI cL : ClassId} {A : Nat → Prop} (C : Cx p s m args meth c yX4_add.cls cX4_add 6 (some .int)) (S : MS) (x4 : Int32) (Q : Int32 → MS → Prop) (hq : JX4_add_100 S x4 Q) (H : Heap) (locs : List Loc) (ls : Array Slot) (hw : WW D (ctys cI cL) (cw ad cI cL S) A s H locs) (hl : lv_has ls 6 [(0, .ref (ad 3)), (4, .int x4)]) : W p l e { frames := 5, cells := 0, slots := 0, locals := 115 } s m args below meth c H locs 0 0 (Zi D (ctys cI cL) (cw ad cI cL) A below args s Q) (F0 m 100 ls []) := by
  have hx := C.1
  have hb := C.2.1
  unfold JX4_add_100 at hq
  refine lv_aload_n hx hb dX4_add_100 rfl (lv_at hl 0 rfl) ?_
  refine lv_dup hx hb dX4_add_101 rfl ?_
  refine w_get C hw uw_X4 3 cO_X4 rfl 5 (by decide) fl_X4_28 rfl dX4_add_102 ?_
  refine lv_iconst (v := 1) hx hb dX4_add_105 (by decide) ?_
  refine lv_iadd hx hb dX4_add_106 ?_
  obtain ⟨S_2, eS_2⟩ : ∃ z, z = uF S 3 ((S.2.2 3) + 1) := ⟨_, rfl⟩
  replace hq := hq S_2 eS_2
  refine w_put (ws' := cw ad cI cL S_2) C hw uw_X4 tyX4 tyX4_ok nmX4 3 cO_X4 rfl 5 (by decide) fl_X4_28 rfl (by decide +kernel) (Nat.le_of_ble_eq_true rfl) dX4_add_107 (by rw [eS_2]; exact cFs_3) (fun H locs hw => ?_)
  refine lv_iload hx hb dX4_add_110 (lv_at hl 1 rfl) ?_
  exact w_iret C hw hq dX4_add_112
set_option maxHeartbeats 4000000 in
set_option maxRecDepth 100000 in
theorem mX4_add (l : Launch) (D : va_G) (ad : Nat → Nat) (cI cL : ClassId) (S : MS) (x1 : Int32) (x2 : Int32) (Q : Int32 → MS → Prop) (hq : wX4_add S x1 x2 Q) : Mi l yX4_add cX4_add 6 (some .int) { frames := 5, cells := 0, slots := 0, locals := 115 } D (ctys cI cL) (cw ad cI cL) [.ref (ad 3), .int x1, .int x2, .ref (ad 22)] S Q := by
  refine Mi.of (by decide +kernel) (Nat.le_of_ble_eq_true rfl) ?_
  intro p e s m args below meth c A ls C hw hl
  have hx := C.1
  have hb := C.2.1
  have hl : lv_has ls 6 [(0, .ref (ad 3)), (1, .int x1), (2, .int x2), (3, .ref (ad 22))] := hl
  have hw : WW D (ctys cI cL) (cw ad cI cL S) A s s.heap [] := hw
  unfold wX4_add at hq
  refine lv_aload_n hx hb dX4_add_0 rfl (lv_at hl 0 rfl) ?_
  refine w_get C hw uw_X4 3 cO_X4 rfl 5 (by decide) fl_X4_28 rfl dX4_add_1 ?_
  refine lv_bipush (v := 12) hx hb dX4_add_4 (by decide) ?_
  refine lv_icmp_lt (tgt := 12) hx hb dX4_add_6 (by decide) (fun hc => ?_) (fun hc => ?_)
  · replace hq := hq.1 hc
    refine lv_aload_n hx hb dX4_add_12 rfl (lv_at hl 0 rfl) ?_
    refine w_get C hw uw_X4 3 cO_X4 rfl 5 (by decide) fl_X4_28 rfl dX4_add_13 ?_
    refine lv_istore (lv' := [(4, .int (S.2.2 3)), (0, .ref (ad 3)), (1, .int x1), (2, .int x2), (3, .ref (ad 22))]) hx hb dX4_add_16 hl (by decide) rfl (fun ls hl => ?_)
    refine lv_aload_n hx hb dX4_add_18 rfl (lv_at hl 1 rfl) ?_
    refine w_get C hw uw_X4 3 cO_X4 rfl 0 (by decide) fl_X4_9 rfl dX4_add_19 ?_
    refine lv_iload hx hb dX4_add_22 (lv_at hl 0 rfl) ?_
    refine lv_iload_n hx hb dX4_add_24 rfl (lv_at hl 2 rfl) ?_
    obtain ⟨hin, hq⟩ := hq
    obtain ⟨S_1, eS_1⟩ : ∃ z, z = uI S 8 (S.2.2 3).toNatClampNeg x1 := ⟨_, rfl⟩
    replace hq := hq S_1 eS_1
    refine w_ist (ws' := cw ad cI cL S_1) C hw 14 0 cI_8 rfl hin dX4_add_25 (by rw [eS_1]; exact cIs_8) (fun H locs hw => ?_)
    refine lv_aload_n hx hb dX4_add_26 rfl (lv_at hl 1 rfl) ?_
    refine w_get C hw uw_X4 3 cO_X4 rfl 1 (by decide) fl_X4_15 rfl dX4_add_27 ?_
    refine lv_iload hx hb dX4_add_30 (lv_at hl 0 rfl) ?_
    refine lv_iload_n hx hb dX4_add_32 rfl (lv_at hl 3 rfl) ?_
    obtain ⟨hin, hq⟩ := hq
    obtain ⟨S_2, eS_2⟩ : ∃ z, z = uI S_1 9 (S.2.2 3).toNatClampNeg x2 := ⟨_, rfl⟩
    replace hq := hq S_2 eS_2
    refine w_ist (ws' := cw ad cI cL S_2) C hw 15 0 cI_9 rfl hin dX4_add_33 (by rw [eS_2]; exact cIs_9) (fun H locs hw => ?_)
    refine lv_iconst (v := 0) hx hb dX4_add_34 (by decide) ?_
    refine lv_istore (lv' := [(5, .int 0), (4, .int (S.2.2 3)), (0, .ref (ad 3)), (1, .int x1), (2, .int x2), (3, .ref (ad 22))]) hx hb dX4_add_35 hl (by decide) rfl (fun ls hl => ?_)
    obtain ⟨n0, hq⟩ := hq
    refine kLX4_add_37 C x2 (S.2.2 3) _ Q ?_ n0 S_2 0 hq _ _ _ hw (lv_sub hl [2, 4, 5, 1, 0] rfl)
    clear hw hl hq
    intro S_3 H locs ls hq hw hl
    refine lv_aload_n hx hb dX4_add_83 rfl (lv_at hl 0 rfl) ?_
    refine lv_iload hx hb dX4_add_84 (lv_at hl 1 rfl) ?_
    refine w_calli hw (w_runV (rest := []) C hw (mX4_sizeBelow l D ad cI cL S_3 (S.2.2 3) _ hq _) kc_X4_sizeBelow ml_X4_41 3 cO_X4 rfl rfl ⟨rfl, rfl, Nat.le_of_ble_eq_true rfl, Nat.le_of_ble_eq_true rfl⟩ rfl rfl (Nat.le_of_ble_eq_true rfl) hl.1 dX4_add_86) ?_
    clear hw hq
    intro r_5 S_4 H locs hq hw
    refine lv_bipush (v := 8) hx hb dX4_add_89 (by decide) ?_
    refine lv_icmp_gt (tgt := 100) hx hb dX4_add_91 (by decide) (fun hc => ?_) (fun hc => ?_)
    · replace hq := hq.1 hc
      exact kJX4_add_100 C S_4 (S.2.2 3) Q hq _ _ _ hw (lv_sub hl [0, 1] rfl)
    · replace hq := hq.2 hc
      refine lv_aload_n hx hb dX4_add_94 rfl (lv_at hl 0 rfl) ?_
      refine lv_iload hx hb dX4_add_95 (lv_at hl 1 rfl) ?_
      refine w_callv hw (w_runV (rest := []) C hw (mX4_workOutActingSets l D ad cI cL S_4 (S.2.2 3) _ hq _) kc_X4_workOutActingSets ml_X4_44 3 cO_X4 rfl rfl ⟨rfl, rfl, Nat.le_of_ble_eq_true rfl, Nat.le_of_ble_eq_true rfl⟩ rfl rfl (Nat.le_of_ble_eq_true rfl) hl.1 dX4_add_97) ?_
      clear hw hq
      intro S_6 H locs hq hw
      exact kJX4_add_100 C S_6 (S.2.2 3) Q hq _ _ _ hw (lv_sub hl [0, 1] rfl)
  · replace hq := hq.2 hc
    refine lv_bipush (v := (-3)) hx hb dX4_add_9 (by decide) ?_
    exact w_iret C hw hq dX4_add_11
set_option maxHeartbeats 4000000 in
set_option maxRecDepth 100000 in
theorem mX5_isShare (l : Launch) (D : va_G) (ad : Nat → Nat) (cI cL : ClassId) (S : MS) (x0 : Int32) (Q : Int32 → MS → Prop) (hq : wX5_isShare S x0 Q) : Mi l yX5_isShare cX5_isShare 1 (some .boolean) { frames := 0, cells := 0, slots := 0, locals := 0 } D (ctys cI cL) (cw ad cI cL) [.int x0] S Q := by
  refine Mi.of (by decide +kernel) (Nat.le_of_ble_eq_true rfl) ?_
  intro p e s m args below meth c A ls C hw hl
  have hx := C.1
  have hb := C.2.1
  have hl : lv_has ls 1 [(0, .int x0)] := hl
  have hw : WW D (ctys cI cL) (cw ad cI cL S) A s s.heap [] := hw
  unfold wX5_isShare at hq
  refine lv_iload_n hx hb dX5_isShare_0 rfl (lv_at hl 0 rfl) ?_
  refine lv_if_lt (tgt := 14) hx hb dX5_isShare_1 (by decide) (fun hc => ?_) (fun hc => ?_)
  · replace hq := hq.1 hc
    refine lv_iconst (v := 0) hx hb dX5_isShare_14 (by decide) ?_
    exact w_zret C hw rfl hq dX5_isShare_15
  · replace hq := hq.2 hc
    refine lv_iload_n hx hb dX5_isShare_4 rfl (lv_at hl 0 rfl) ?_
    refine lv_bipush (v := 64) hx hb dX5_isShare_5 (by decide) ?_
    refine lv_icmp_gt (tgt := 14) hx hb dX5_isShare_7 (by decide) (fun hc => ?_) (fun hc => ?_)
    · replace hq := hq.1 hc
      refine lv_iconst (v := 0) hx hb dX5_isShare_14 (by decide) ?_
      exact w_zret C hw rfl hq dX5_isShare_15
    · replace hq := hq.2 hc
      refine lv_iconst (v := 1) hx hb dX5_isShare_10 (by decide) ?_
      refine lv_goto (tgt := 15) hx hb dX5_isShare_11 (by decide) ?_
      exact w_zret C hw rfl hq dX5_isShare_15
set_option maxHeartbeats 4000000 in
set_option maxRecDepth 100000 in
theorem mX5_part (l : Launch) (D : va_G) (ad : Nat → Nat) (cI cL : ClassId) (S : MS) (x1 : Int32) (x2 : Int32) (x3 : Int32) (Q : Int32 → MS → Prop) (hq : wX5_part S x1 x2 x3 Q) : Mi l yX5_part cX5_part 4 (some .int) { frames := 1, cells := 0, slots := 0, locals := 23 } D (ctys cI cL) (cw ad cI cL) [.ref (ad 0), .int x1, .int x2, .int x3] S Q := by
  refine Mi.of (by decide +kernel) (Nat.le_of_ble_eq_true rfl) ?_
  intro p e s m args below meth c A ls C hw hl
  have hx := C.1
  have hb := C.2.1
  have hl : lv_has ls 4 [(0, .ref (ad 0)), (1, .int x1), (2, .int x2), (3, .int x3)] := hl
  have hw : WW D (ctys cI cL) (cw ad cI cL S) A s s.heap [] := hw
  unfold wX5_part at hq
  refine lv_iload_n hx hb dX5_part_0 rfl (lv_at hl 1 rfl) ?_
  refine w_calli hw (w_runS (rest := []) C hw (mX5_isShare l D ad cI cL S x1 _ hq _) kc_X5_isShare ml_X5_52 ⟨rfl, rfl, Nat.le_of_ble_eq_true rfl, Nat.le_of_ble_eq_true rfl⟩ rfl rfl (Nat.le_of_ble_eq_true rfl) hl.1 dX5_part_1) ?_
  clear hw hq
  intro r_2 S_1 H locs hq hw
  refine lv_if_eq (tgt := 21) hx hb dX5_part_4 (by decide) (fun hc => ?_) (fun hc => ?_)
  · replace hq := hq.1 hc
    refine lv_iconst (v := (-1)) hx hb dX5_part_21 (by decide) ?_
    exact w_iret C hw hq dX5_part_22
  · replace hq := hq.2 hc
    refine lv_iload_n hx hb dX5_part_7 rfl (lv_at hl 2 rfl) ?_
    refine w_calli hw (w_runS (rest := []) C hw (mX5_isShare l D ad cI cL S_1 x2 _ hq _) kc_X5_isShare ml_X5_52 ⟨rfl, rfl, Nat.le_of_ble_eq_true rfl, Nat.le_of_ble_eq_true rfl⟩ rfl rfl (Nat.le_of_ble_eq_true rfl) hl.1 dX5_part_8) ?_
    clear hw hq
    intro r_4 S_3 H locs hq hw
    refine lv_if_eq (tgt := 21) hx hb dX5_part_11 (by decide) (fun hc => ?_) (fun hc => ?_)
    · replace hq := hq.1 hc
      refine lv_iconst (v := (-1)) hx hb dX5_part_21 (by decide) ?_
      exact w_iret C hw hq dX5_part_22
    · replace hq := hq.2 hc
      refine lv_iload_n hx hb dX5_part_14 rfl (lv_at hl 3 rfl) ?_
      refine w_calli hw (w_runS (rest := []) C hw (mX5_isShare l D ad cI cL S_3 x3 _ hq _) kc_X5_isShare ml_X5_52 ⟨rfl, rfl, Nat.le_of_ble_eq_true rfl, Nat.le_of_ble_eq_true rfl⟩ rfl rfl (Nat.le_of_ble_eq_true rfl) hl.1 dX5_part_15) ?_
      clear hw hq
      intro r_6 S_5 H locs hq hw
      refine lv_if_ne (tgt := 23) hx hb dX5_part_18 (by decide) (fun hc => ?_) (fun hc => ?_)
      · replace hq := hq.2 hc
        refine lv_aload_n hx hb dX5_part_23 rfl (lv_at hl 0 rfl) ?_
        refine w_get C hw uw_X5 0 cO_X5 rfl 0 (by decide) fl_X5_10 rfl dX5_part_24 ?_
        refine lv_iload_n hx hb dX5_part_27 rfl (lv_at hl 1 rfl) ?_
        refine lv_iload_n hx hb dX5_part_28 rfl (lv_at hl 2 rfl) ?_
        refine lv_iload_n hx hb dX5_part_29 rfl (lv_at hl 3 rfl) ?_
        refine w_calli hw (w_runV (rest := []) C hw (mX2_add l D ad cI cL S_5 x1 x2 x3 _ hq _) kc_X2_add ml_X5_56 1 cO_X2 rfl rfl ⟨rfl, rfl, Nat.le_of_ble_eq_true rfl, Nat.le_of_ble_eq_true rfl⟩ rfl rfl (Nat.le_of_ble_eq_true rfl) hl.1 dX5_part_30) ?_
        clear hw hq
        intro r_8 S_7 H locs hq hw
        exact w_iret C hw hq dX5_part_33
      · replace hq := hq.1 hc
        refine lv_iconst (v := (-1)) hx hb dX5_part_21 (by decide) ?_
        exact w_iret C hw hq dX5_part_22
set_option maxHeartbeats 4000000 in
set_option maxRecDepth 100000 in
theorem mX5_isDay (l : Launch) (D : va_G) (ad : Nat → Nat) (cI cL : ClassId) (S : MS) (x0 : Int32) (Q : Int32 → MS → Prop) (hq : wX5_isDay S x0 Q) : Mi l yX5_isDay cX5_isDay 1 (some .boolean) { frames := 0, cells := 0, slots := 0, locals := 0 } D (ctys cI cL) (cw ad cI cL) [.int x0] S Q := by
  refine Mi.of (by decide +kernel) (Nat.le_of_ble_eq_true rfl) ?_
  intro p e s m args below meth c A ls C hw hl
  have hx := C.1
  have hb := C.2.1
  have hl : lv_has ls 1 [(0, .int x0)] := hl
  have hw : WW D (ctys cI cL) (cw ad cI cL S) A s s.heap [] := hw
  unfold wX5_isDay at hq
  refine lv_iload_n hx hb dX5_isDay_0 rfl (lv_at hl 0 rfl) ?_
  refine lv_if_lt (tgt := 15) hx hb dX5_isDay_1 (by decide) (fun hc => ?_) (fun hc => ?_)
  · replace hq := hq.1 hc
    refine lv_iconst (v := 0) hx hb dX5_isDay_15 (by decide) ?_
    exact w_zret C hw rfl hq dX5_isDay_16
  · replace hq := hq.2 hc
    refine lv_iload_n hx hb dX5_isDay_4 rfl (lv_at hl 0 rfl) ?_
    refine lv_sipush (v := 999) hx hb dX5_isDay_5 (by decide) ?_
    refine lv_icmp_gt (tgt := 15) hx hb dX5_isDay_8 (by decide) (fun hc => ?_) (fun hc => ?_)
    · replace hq := hq.1 hc
      refine lv_iconst (v := 0) hx hb dX5_isDay_15 (by decide) ?_
      exact w_zret C hw rfl hq dX5_isDay_16
    · replace hq := hq.2 hc
      refine lv_iconst (v := 1) hx hb dX5_isDay_11 (by decide) ?_
      refine lv_goto (tgt := 16) hx hb dX5_isDay_12 (by decide) ?_
      exact w_zret C hw rfl hq dX5_isDay_16
set_option maxHeartbeats 4000000 in
set_option maxRecDepth 100000 in
theorem mX5_test (l : Launch) (D : va_G) (ad : Nat → Nat) (cI cL : ClassId) (S : MS) (x1 : Int32) (x2 : Int32) (Q : Int32 → MS → Prop) (hq : wX5_test S x1 x2 Q) : Mi l yX5_test cX5_test 3 (some .int) { frames := 1, cells := 0, slots := 0, locals := 23 } D (ctys cI cL) (cw ad cI cL) [.ref (ad 0), .int x1, .int x2] S Q := by
  refine Mi.of (by decide +kernel) (Nat.le_of_ble_eq_true rfl) ?_
  intro p e s m args below meth c A ls C hw hl
  have hx := C.1
  have hb := C.2.1
  have hl : lv_has ls 3 [(0, .ref (ad 0)), (1, .int x1), (2, .int x2)] := hl
  have hw : WW D (ctys cI cL) (cw ad cI cL S) A s s.heap [] := hw
  unfold wX5_test at hq
  refine lv_aload_n hx hb dX5_test_0 rfl (lv_at hl 0 rfl) ?_
  refine w_get C hw uw_X5 0 cO_X5 rfl 0 (by decide) fl_X5_10 rfl dX5_test_1 ?_
  refine lv_iload_n hx hb dX5_test_4 rfl (lv_at hl 1 rfl) ?_
  refine w_calli hw (w_runV (rest := []) C hw (mX2_has l D ad cI cL S x1 _ hq _) kc_X2_has ml_X5_60 1 cO_X2 rfl rfl ⟨rfl, rfl, Nat.le_of_ble_eq_true rfl, Nat.le_of_ble_eq_true rfl⟩ rfl rfl (Nat.le_of_ble_eq_true rfl) hl.1 dX5_test_5) ?_
  clear hw hq
  intro r_2 S_1 H locs hq hw
  refine lv_if_eq (tgt := 18) hx hb dX5_test_8 (by decide) (fun hc => ?_) (fun hc => ?_)
  · replace hq := hq.1 hc
    refine lv_iconst (v := (-1)) hx hb dX5_test_18 (by decide) ?_
    exact w_iret C hw hq dX5_test_19
  · replace hq := hq.2 hc
    refine lv_iload_n hx hb dX5_test_11 rfl (lv_at hl 2 rfl) ?_
    refine w_calli hw (w_runS (rest := []) C hw (mX5_isDay l D ad cI cL S_1 x2 _ hq _) kc_X5_isDay ml_X5_63 ⟨rfl, rfl, Nat.le_of_ble_eq_true rfl, Nat.le_of_ble_eq_true rfl⟩ rfl rfl (Nat.le_of_ble_eq_true rfl) hl.1 dX5_test_12) ?_
    clear hw hq
    intro r_4 S_3 H locs hq hw
    refine lv_if_ne (tgt := 20) hx hb dX5_test_15 (by decide) (fun hc => ?_) (fun hc => ?_)
    · replace hq := hq.2 hc
      refine lv_aload_n hx hb dX5_test_20 rfl (lv_at hl 0 rfl) ?_
      refine w_get C hw uw_X5 0 cO_X5 rfl 0 (by decide) fl_X5_10 rfl dX5_test_21 ?_
      refine lv_iload_n hx hb dX5_test_24 rfl (lv_at hl 1 rfl) ?_
      refine lv_iload_n hx hb dX5_test_25 rfl (lv_at hl 2 rfl) ?_
      refine w_calli hw (w_runV (rest := []) C hw (mX2_addTest l D ad cI cL S_3 x1 x2 _ hq _) kc_X2_addTest ml_X5_66 1 cO_X2 rfl rfl ⟨rfl, rfl, Nat.le_of_ble_eq_true rfl, Nat.le_of_ble_eq_true rfl⟩ rfl rfl (Nat.le_of_ble_eq_true rfl) hl.1 dX5_test_26) ?_
      clear hw hq
      intro r_6 S_5 H locs hq hw
      exact w_iret C hw hq dX5_test_29
    · replace hq := hq.1 hc
      refine lv_iconst (v := (-1)) hx hb dX5_test_18 (by decide) ?_
      exact w_iret C hw hq dX5_test_19
set_option maxHeartbeats 4000000 in
set_option maxRecDepth 100000 in
theorem mX5_noTests (l : Launch) (D : va_G) (ad : Nat → Nat) (cI cL : ClassId) (S : MS) (x1 : Int32) (x2 : Int32) (Q : Int32 → MS → Prop) (hq : wX5_noTests S x1 x2 Q) : Mi l yX5_noTests cX5_noTests 3 (some .int) { frames := 2, cells := 0, slots := 0, locals := 48 } D (ctys cI cL) (cw ad cI cL) [.ref (ad 0), .int x1, .int x2] S Q := by
  refine Mi.of (by decide +kernel) (Nat.le_of_ble_eq_true rfl) ?_
  intro p e s m args below meth c A ls C hw hl
  have hx := C.1
  have hb := C.2.1
  have hl : lv_has ls 3 [(0, .ref (ad 0)), (1, .int x1), (2, .int x2)] := hl
  have hw : WW D (ctys cI cL) (cw ad cI cL S) A s s.heap [] := hw
  unfold wX5_noTests at hq
  refine lv_aload_n hx hb dX5_noTests_0 rfl (lv_at hl 0 rfl) ?_
  refine w_get C hw uw_X5 0 cO_X5 rfl 0 (by decide) fl_X5_10 rfl dX5_noTests_1 ?_
  refine lv_iload_n hx hb dX5_noTests_4 rfl (lv_at hl 1 rfl) ?_
  refine w_calli hw (w_runV (rest := []) C hw (mX2_has l D ad cI cL S x1 _ hq _) kc_X2_has ml_X5_60 1 cO_X2 rfl rfl ⟨rfl, rfl, Nat.le_of_ble_eq_true rfl, Nat.le_of_ble_eq_true rfl⟩ rfl rfl (Nat.le_of_ble_eq_true rfl) hl.1 dX5_noTests_5) ?_
  clear hw hq
  intro r_2 S_1 H locs hq hw
  refine lv_if_eq (tgt := 18) hx hb dX5_noTests_8 (by decide) (fun hc => ?_) (fun hc => ?_)
  · replace hq := hq.1 hc
    refine lv_iconst (v := (-1)) hx hb dX5_noTests_18 (by decide) ?_
    exact w_iret C hw hq dX5_noTests_19
  · replace hq := hq.2 hc
    refine lv_iload_n hx hb dX5_noTests_11 rfl (lv_at hl 2 rfl) ?_
    refine w_calli hw (w_runS (rest := []) C hw (mX5_isDay l D ad cI cL S_1 x2 _ hq _) kc_X5_isDay ml_X5_63 ⟨rfl, rfl, Nat.le_of_ble_eq_true rfl, Nat.le_of_ble_eq_true rfl⟩ rfl rfl (Nat.le_of_ble_eq_true rfl) hl.1 dX5_noTests_12) ?_
    clear hw hq
    intro r_4 S_3 H locs hq hw
    refine lv_if_ne (tgt := 20) hx hb dX5_noTests_15 (by decide) (fun hc => ?_) (fun hc => ?_)
    · replace hq := hq.2 hc
      refine lv_aload_n hx hb dX5_noTests_20 rfl (lv_at hl 0 rfl) ?_
      refine w_get C hw uw_X5 0 cO_X5 rfl 0 (by decide) fl_X5_10 rfl dX5_noTests_21 ?_
      refine lv_iload_n hx hb dX5_noTests_24 rfl (lv_at hl 1 rfl) ?_
      refine lv_iload_n hx hb dX5_noTests_25 rfl (lv_at hl 2 rfl) ?_
      refine w_calli hw (w_runV (rest := []) C hw (mX2_dropTests l D ad cI cL S_3 x1 x2 _ hq _) kc_X2_dropTests ml_X5_70 1 cO_X2 rfl rfl ⟨rfl, rfl, Nat.le_of_ble_eq_true rfl, Nat.le_of_ble_eq_true rfl⟩ rfl rfl (Nat.le_of_ble_eq_true rfl) hl.1 dX5_noTests_26) ?_
      clear hw hq
      intro r_6 S_5 H locs hq hw
      exact w_iret C hw hq dX5_noTests_29
    · replace hq := hq.1 hc
      refine lv_iconst (v := (-1)) hx hb dX5_noTests_18 (by decide) ?_
      exact w_iret C hw hq dX5_noTests_19
set_option maxHeartbeats 4000000 in
set_option maxRecDepth 100000 in
theorem mX5_areDays (l : Launch) (D : va_G) (ad : Nat → Nat) (cI cL : ClassId) (S : MS) (x0 : Int32) (x1 : Int32) (Q : Int32 → MS → Prop) (hq : wX5_areDays S x0 x1 Q) : Mi l yX5_areDays cX5_areDays 2 (some .boolean) { frames := 1, cells := 0, slots := 0, locals := 20 } D (ctys cI cL) (cw ad cI cL) [.int x0, .int x1] S Q := by
  refine Mi.of (by decide +kernel) (Nat.le_of_ble_eq_true rfl) ?_
  intro p e s m args below meth c A ls C hw hl
  have hx := C.1
  have hb := C.2.1
  have hl : lv_has ls 2 [(0, .int x0), (1, .int x1)] := hl
  have hw : WW D (ctys cI cL) (cw ad cI cL S) A s s.heap [] := hw
  unfold wX5_areDays at hq
  refine lv_iload_n hx hb dX5_areDays_0 rfl (lv_at hl 0 rfl) ?_
  refine w_calli hw (w_runS (rest := []) C hw (mX5_isDay l D ad cI cL S x0 _ hq _) kc_X5_isDay ml_X5_63 ⟨rfl, rfl, Nat.le_of_ble_eq_true rfl, Nat.le_of_ble_eq_true rfl⟩ rfl rfl (Nat.le_of_ble_eq_true rfl) hl.1 dX5_areDays_1) ?_
  clear hw hq
  intro r_2 S_1 H locs hq hw
  refine lv_if_eq (tgt := 23) hx hb dX5_areDays_4 (by decide) (fun hc => ?_) (fun hc => ?_)
  · replace hq := hq.1 hc
    refine lv_iconst (v := 0) hx hb dX5_areDays_23 (by decide) ?_
    exact w_zret C hw rfl hq dX5_areDays_24
  · replace hq := hq.2 hc
    refine lv_iload_n hx hb dX5_areDays_7 rfl (lv_at hl 1 rfl) ?_
    refine w_calli hw (w_runS (rest := []) C hw (mX5_isDay l D ad cI cL S_1 x1 _ hq _) kc_X5_isDay ml_X5_63 ⟨rfl, rfl, Nat.le_of_ble_eq_true rfl, Nat.le_of_ble_eq_true rfl⟩ rfl rfl (Nat.le_of_ble_eq_true rfl) hl.1 dX5_areDays_8) ?_
    clear hw hq
    intro r_4 S_3 H locs hq hw
    refine lv_if_eq (tgt := 23) hx hb dX5_areDays_11 (by decide) (fun hc => ?_) (fun hc => ?_)
    · replace hq := hq.1 hc
      refine lv_iconst (v := 0) hx hb dX5_areDays_23 (by decide) ?_
      exact w_zret C hw rfl hq dX5_areDays_24
    · replace hq := hq.2 hc
      refine lv_iload_n hx hb dX5_areDays_14 rfl (lv_at hl 0 rfl) ?_
      refine lv_iload_n hx hb dX5_areDays_15 rfl (lv_at hl 1 rfl) ?_
      refine lv_icmp_gt (tgt := 23) hx hb dX5_areDays_16 (by decide) (fun hc => ?_) (fun hc => ?_)
      · replace hq := hq.1 hc
        refine lv_iconst (v := 0) hx hb dX5_areDays_23 (by decide) ?_
        exact w_zret C hw rfl hq dX5_areDays_24
      · replace hq := hq.2 hc
        refine lv_iconst (v := 1) hx hb dX5_areDays_19 (by decide) ?_
        refine lv_goto (tgt := 24) hx hb dX5_areDays_20 (by decide) ?_
        exact w_zret C hw rfl hq dX5_areDays_24
set_option maxHeartbeats 4000000 in
set_option maxRecDepth 100000 in
theorem mX5_bypass (l : Launch) (D : va_G) (ad : Nat → Nat) (cI cL : ClassId) (S : MS) (x1 : Int32) (x2 : Int32) (x3 : Int32) (Q : Int32 → MS → Prop) (hq : wX5_bypass S x1 x2 x3 Q) : Mi l yX5_bypass cX5_bypass 4 (some .int) { frames := 3, cells := 0, slots := 0, locals := 61 } D (ctys cI cL) (cw ad cI cL) [.ref (ad 0), .int x1, .int x2, .int x3] S Q := by
  refine Mi.of (by decide +kernel) (Nat.le_of_ble_eq_true rfl) ?_
  intro p e s m args below meth c A ls C hw hl
  have hx := C.1
  have hb := C.2.1
  have hl : lv_has ls 4 [(0, .ref (ad 0)), (1, .int x1), (2, .int x2), (3, .int x3)] := hl
  have hw : WW D (ctys cI cL) (cw ad cI cL S) A s s.heap [] := hw
  unfold wX5_bypass at hq
  refine lv_aload_n hx hb dX5_bypass_0 rfl (lv_at hl 0 rfl) ?_
  refine w_get C hw uw_X5 0 cO_X5 rfl 0 (by decide) fl_X5_10 rfl dX5_bypass_1 ?_
  refine lv_iload_n hx hb dX5_bypass_4 rfl (lv_at hl 1 rfl) ?_
  refine w_calli hw (w_runV (rest := []) C hw (mX2_has l D ad cI cL S x1 _ hq _) kc_X2_has ml_X5_60 1 cO_X2 rfl rfl ⟨rfl, rfl, Nat.le_of_ble_eq_true rfl, Nat.le_of_ble_eq_true rfl⟩ rfl rfl (Nat.le_of_ble_eq_true rfl) hl.1 dX5_bypass_5) ?_
  clear hw hq
  intro r_2 S_1 H locs hq hw
  refine lv_if_eq (tgt := 19) hx hb dX5_bypass_8 (by decide) (fun hc => ?_) (fun hc => ?_)
  · replace hq := hq.1 hc
    refine lv_iconst (v := (-1)) hx hb dX5_bypass_19 (by decide) ?_
    exact w_iret C hw hq dX5_bypass_20
  · replace hq := hq.2 hc
    refine lv_iload_n hx hb dX5_bypass_11 rfl (lv_at hl 2 rfl) ?_
    refine lv_iload_n hx hb dX5_bypass_12 rfl (lv_at hl 3 rfl) ?_
    refine w_calli hw (w_runS (rest := []) C hw (mX5_areDays l D ad cI cL S_1 x2 x3 _ hq _) kc_X5_areDays ml_X5_73 ⟨rfl, rfl, Nat.le_of_ble_eq_true rfl, Nat.le_of_ble_eq_true rfl⟩ rfl rfl (Nat.le_of_ble_eq_true rfl) hl.1 dX5_bypass_13) ?_
    clear hw hq
    intro r_4 S_3 H locs hq hw
    refine lv_if_ne (tgt := 21) hx hb dX5_bypass_16 (by decide) (fun hc => ?_) (fun hc => ?_)
    · replace hq := hq.2 hc
      refine lv_aload_n hx hb dX5_bypass_21 rfl (lv_at hl 0 rfl) ?_
      refine w_get C hw uw_X5 0 cO_X5 rfl 0 (by decide) fl_X5_10 rfl dX5_bypass_22 ?_
      refine lv_iload_n hx hb dX5_bypass_25 rfl (lv_at hl 1 rfl) ?_
      refine lv_iload_n hx hb dX5_bypass_26 rfl (lv_at hl 2 rfl) ?_
      refine lv_iload_n hx hb dX5_bypass_27 rfl (lv_at hl 3 rfl) ?_
      refine w_calli hw (w_runV (rest := []) C hw (mX2_addBypass l D ad cI cL S_3 x1 x2 x3 _ hq _) kc_X2_addBypass ml_X5_77 1 cO_X2 rfl rfl ⟨rfl, rfl, Nat.le_of_ble_eq_true rfl, Nat.le_of_ble_eq_true rfl⟩ rfl rfl (Nat.le_of_ble_eq_true rfl) hl.1 dX5_bypass_28) ?_
      clear hw hq
      intro r_6 S_5 H locs hq hw
      exact w_iret C hw hq dX5_bypass_31
    · replace hq := hq.1 hc
      refine lv_iconst (v := (-1)) hx hb dX5_bypass_19 (by decide) ?_
      exact w_iret C hw hq dX5_bypass_20
set_option maxHeartbeats 4000000 in
set_option maxRecDepth 100000 in
theorem mX5_bypassed (l : Launch) (D : va_G) (ad : Nat → Nat) (cI cL : ClassId) (S : MS) (x1 : Int32) (x2 : Int32) (x3 : Int32) (Q : Int32 → MS → Prop) (hq : wX5_bypassed S x1 x2 x3 Q) : Mi l yX5_bypassed cX5_bypassed 4 (some .int) { frames := 3, cells := 0, slots := 0, locals := 62 } D (ctys cI cL) (cw ad cI cL) [.ref (ad 0), .int x1, .int x2, .int x3] S Q := by
  refine Mi.of (by decide +kernel) (Nat.le_of_ble_eq_true rfl) ?_
  intro p e s m args below meth c A ls C hw hl
  have hx := C.1
  have hb := C.2.1
  have hl : lv_has ls 4 [(0, .ref (ad 0)), (1, .int x1), (2, .int x2), (3, .int x3)] := hl
  have hw : WW D (ctys cI cL) (cw ad cI cL S) A s s.heap [] := hw
  unfold wX5_bypassed at hq
  refine lv_aload_n hx hb dX5_bypassed_0 rfl (lv_at hl 0 rfl) ?_
  refine w_get C hw uw_X5 0 cO_X5 rfl 0 (by decide) fl_X5_10 rfl dX5_bypassed_1 ?_
  refine lv_iload_n hx hb dX5_bypassed_4 rfl (lv_at hl 1 rfl) ?_
  refine w_calli hw (w_runV (rest := []) C hw (mX2_has l D ad cI cL S x1 _ hq _) kc_X2_has ml_X5_60 1 cO_X2 rfl rfl ⟨rfl, rfl, Nat.le_of_ble_eq_true rfl, Nat.le_of_ble_eq_true rfl⟩ rfl rfl (Nat.le_of_ble_eq_true rfl) hl.1 dX5_bypassed_5) ?_
  clear hw hq
  intro r_2 S_1 H locs hq hw
  refine lv_if_eq (tgt := 19) hx hb dX5_bypassed_8 (by decide) (fun hc => ?_) (fun hc => ?_)
  · replace hq := hq.1 hc
    refine lv_iconst (v := (-1)) hx hb dX5_bypassed_19 (by decide) ?_
    exact w_iret C hw hq dX5_bypassed_20
  · replace hq := hq.2 hc
    refine lv_iload_n hx hb dX5_bypassed_11 rfl (lv_at hl 2 rfl) ?_
    refine lv_iload_n hx hb dX5_bypassed_12 rfl (lv_at hl 3 rfl) ?_
    refine w_calli hw (w_runS (rest := []) C hw (mX5_areDays l D ad cI cL S_1 x2 x3 _ hq _) kc_X5_areDays ml_X5_73 ⟨rfl, rfl, Nat.le_of_ble_eq_true rfl, Nat.le_of_ble_eq_true rfl⟩ rfl rfl (Nat.le_of_ble_eq_true rfl) hl.1 dX5_bypassed_13) ?_
    clear hw hq
    intro r_4 S_3 H locs hq hw
    refine lv_if_ne (tgt := 21) hx hb dX5_bypassed_16 (by decide) (fun hc => ?_) (fun hc => ?_)
    · replace hq := hq.2 hc
      refine lv_aload_n hx hb dX5_bypassed_21 rfl (lv_at hl 0 rfl) ?_
      refine w_get C hw uw_X5 0 cO_X5 rfl 0 (by decide) fl_X5_10 rfl dX5_bypassed_22 ?_
      refine lv_iload_n hx hb dX5_bypassed_25 rfl (lv_at hl 1 rfl) ?_
      refine lv_iload_n hx hb dX5_bypassed_26 rfl (lv_at hl 2 rfl) ?_
      refine lv_iload_n hx hb dX5_bypassed_27 rfl (lv_at hl 3 rfl) ?_
      refine w_calli hw (w_runV (rest := []) C hw (mX2_bypassedDays l D ad cI cL S_3 x1 x2 x3 _ hq _) kc_X2_bypassedDays ml_X5_80 1 cO_X2 rfl rfl ⟨rfl, rfl, Nat.le_of_ble_eq_true rfl, Nat.le_of_ble_eq_true rfl⟩ rfl rfl (Nat.le_of_ble_eq_true rfl) hl.1 dX5_bypassed_28) ?_
      clear hw hq
      intro r_6 S_5 H locs hq hw
      exact w_iret C hw hq dX5_bypassed_31
    · replace hq := hq.1 hc
      refine lv_iconst (v := (-1)) hx hb dX5_bypassed_19 (by decide) ?_
      exact w_iret C hw hq dX5_bypassed_20
set_option maxHeartbeats 4000000 in
set_option maxRecDepth 100000 in
theorem mX5_group (l : Launch) (D : va_G) (ad : Nat → Nat) (cI cL : ClassId) (S : MS) (x1 : Int32) (x2 : Int32) (Q : Int32 → MS → Prop) (hq : wX5_group S x1 x2 Q) : Mi l yX5_group cX5_group 3 (some .int) { frames := 1, cells := 0, slots := 0, locals := 22 } D (ctys cI cL) (cw ad cI cL) [.ref (ad 0), .int x1, .int x2] S Q := by
  refine Mi.of (by decide +kernel) (Nat.le_of_ble_eq_true rfl) ?_
  intro p e s m args below meth c A ls C hw hl
  have hx := C.1
  have hb := C.2.1
  have hl : lv_has ls 3 [(0, .ref (ad 0)), (1, .int x1), (2, .int x2)] := hl
  have hw : WW D (ctys cI cL) (cw ad cI cL S) A s s.heap [] := hw
  unfold wX5_group at hq
  refine lv_iload_n hx hb dX5_group_0 rfl (lv_at hl 1 rfl) ?_
  refine w_calli hw (w_runS (rest := []) C hw (mX5_isShare l D ad cI cL S x1 _ hq _) kc_X5_isShare ml_X5_52 ⟨rfl, rfl, Nat.le_of_ble_eq_true rfl, Nat.le_of_ble_eq_true rfl⟩ rfl rfl (Nat.le_of_ble_eq_true rfl) hl.1 dX5_group_1) ?_
  clear hw hq
  intro r_2 S_1 H locs hq hw
  refine lv_if_eq (tgt := 26) hx hb dX5_group_4 (by decide) (fun hc => ?_) (fun hc => ?_)
  · replace hq := hq.1 hc
    refine lv_iconst (v := (-1)) hx hb dX5_group_26 (by decide) ?_
    exact w_iret C hw hq dX5_group_27
  · replace hq := hq.2 hc
    refine lv_aload_n hx hb dX5_group_7 rfl (lv_at hl 0 rfl) ?_
    refine w_get C hw uw_X5 0 cO_X5 rfl 0 (by decide) fl_X5_10 rfl dX5_group_8 ?_
    refine lv_iload_n hx hb dX5_group_11 rfl (lv_at hl 2 rfl) ?_
    refine w_calli hw (w_runV (rest := []) C hw (mX2_hasAll l D ad cI cL S_1 x2 _ hq _) kc_X2_hasAll ml_X5_83 1 cO_X2 rfl rfl ⟨rfl, rfl, Nat.le_of_ble_eq_true rfl, Nat.le_of_ble_eq_true rfl⟩ rfl rfl (Nat.le_of_ble_eq_true rfl) hl.1 dX5_group_12) ?_
    clear hw hq
    intro r_4 S_3 H locs hq hw
    refine lv_if_eq (tgt := 26) hx hb dX5_group_15 (by decide) (fun hc => ?_) (fun hc => ?_)
    · replace hq := hq.1 hc
      refine lv_iconst (v := (-1)) hx hb dX5_group_26 (by decide) ?_
      exact w_iret C hw hq dX5_group_27
    · replace hq := hq.2 hc
      refine lv_iload_n hx hb dX5_group_18 rfl (lv_at hl 2 rfl) ?_
      refine w_calli hw (w_runS (rest := []) C hw (mJ6_bitCount_0f7a4 l D ad cI cL S_3 x2 _ hq _) kc_J6_bitCount_0f7a4 ml_X5_86 ⟨rfl, rfl, Nat.le_of_ble_eq_true rfl, Nat.le_of_ble_eq_true rfl⟩ rfl rfl (Nat.le_of_ble_eq_true rfl) hl.1 dX5_group_19) ?_
      clear hw hq
      intro r_6 S_5 H locs hq hw
      refine lv_iconst (v := 2) hx hb dX5_group_22 (by decide) ?_
      refine lv_icmp_ge (tgt := 28) hx hb dX5_group_23 (by decide) (fun hc => ?_) (fun hc => ?_)
      · replace hq := hq.1 hc
        refine lv_aload_n hx hb dX5_group_28 rfl (lv_at hl 0 rfl) ?_
        refine w_get C hw uw_X5 0 cO_X5 rfl 1 (by decide) fl_X5_19 rfl dX5_group_29 ?_
        refine lv_iload_n hx hb dX5_group_32 rfl (lv_at hl 1 rfl) ?_
        refine lv_iload_n hx hb dX5_group_33 rfl (lv_at hl 2 rfl) ?_
        refine w_calli hw (w_runV (rest := []) C hw (mX0_add l D ad cI cL S_5 x1 x2 _ hq _) kc_X0_add ml_X5_92 2 cO_X0 rfl rfl ⟨rfl, rfl, Nat.le_of_ble_eq_true rfl, Nat.le_of_ble_eq_true rfl⟩ rfl rfl (Nat.le_of_ble_eq_true rfl) hl.1 dX5_group_34) ?_
        clear hw hq
        intro r_8 S_7 H locs hq hw
        exact w_iret C hw hq dX5_group_37
      · replace hq := hq.2 hc
        refine lv_iconst (v := (-1)) hx hb dX5_group_26 (by decide) ?_
        exact w_iret C hw hq dX5_group_27
set_option maxHeartbeats 4000000 in
set_option maxRecDepth 100000 in
theorem mX5_isInput (l : Launch) (D : va_G) (ad : Nat → Nat) (cI cL : ClassId) (S : MS) (x1 : Int32) (Q : Int32 → MS → Prop) (hq : wX5_isInput S x1 Q) : Mi l yX5_isInput cX5_isInput 2 (some .boolean) { frames := 1, cells := 0, slots := 0, locals := 21 } D (ctys cI cL) (cw ad cI cL) [.ref (ad 0), .int x1] S Q := by
  refine Mi.of (by decide +kernel) (Nat.le_of_ble_eq_true rfl) ?_
  intro p e s m args below meth c A ls C hw hl
  have hx := C.1
  have hb := C.2.1
  have hl : lv_has ls 2 [(0, .ref (ad 0)), (1, .int x1)] := hl
  have hw : WW D (ctys cI cL) (cw ad cI cL S) A s s.heap [] := hw
  unfold wX5_isInput at hq
  refine lv_iload_n hx hb dX5_isInput_0 rfl (lv_at hl 1 rfl) ?_
  refine lv_bipush (v := 12) hx hb dX5_isInput_1 (by decide) ?_
  refine lv_icmp_ge (tgt := 17) hx hb dX5_isInput_3 (by decide) (fun hc => ?_) (fun hc => ?_)
  · replace hq := hq.1 hc
    refine lv_aload_n hx hb dX5_isInput_17 rfl (lv_at hl 0 rfl) ?_
    refine w_get C hw uw_X5 0 cO_X5 rfl 2 (by decide) fl_X5_26 rfl dX5_isInput_18 ?_
    refine lv_iload_n hx hb dX5_isInput_21 rfl (lv_at hl 1 rfl) ?_
    refine lv_bipush (v := 12) hx hb dX5_isInput_22 (by decide) ?_
    refine lv_isub hx hb dX5_isInput_24 ?_
    refine w_calli hw (w_runV (rest := []) C hw (mX4_has l D ad cI cL S (x1 - 12) _ hq _) kc_X4_has ml_X5_103 3 cO_X4 rfl rfl ⟨rfl, rfl, Nat.le_of_ble_eq_true rfl, Nat.le_of_ble_eq_true rfl⟩ rfl rfl (Nat.le_of_ble_eq_true rfl) hl.1 dX5_isInput_25) ?_
    clear hw hq
    intro r_2 S_1 H locs hq hw
    exact w_zret C hw hq.1 hq.2 dX5_isInput_28
  · replace hq := hq.2 hc
    refine lv_aload_n hx hb dX5_isInput_6 rfl (lv_at hl 0 rfl) ?_
    refine w_get C hw uw_X5 0 cO_X5 rfl 0 (by decide) fl_X5_10 rfl dX5_isInput_7 ?_
    refine lv_iload_n hx hb dX5_isInput_10 rfl (lv_at hl 1 rfl) ?_
    refine w_calli hw (w_runV (rest := []) C hw (mX2_has l D ad cI cL S x1 _ hq _) kc_X2_has ml_X5_60 1 cO_X2 rfl rfl ⟨rfl, rfl, Nat.le_of_ble_eq_true rfl, Nat.le_of_ble_eq_true rfl⟩ rfl rfl (Nat.le_of_ble_eq_true rfl) hl.1 dX5_isInput_11) ?_
    clear hw hq
    intro r_4 S_3 H locs hq hw
    refine lv_goto (tgt := 28) hx hb dX5_isInput_14 (by decide) ?_
    exact w_zret C hw hq.1 hq.2 dX5_isInput_28
set_option maxHeartbeats 4000000 in
set_option maxRecDepth 100000 in
theorem kLX5_vote_56 {p : Program} {l : Launch} {e : Env} {s : State} {m : MethodId} {args : Array Value} {below : List Frame} {meth : Method} {c : Code} {D : va_G} {ad : Nat → Nat} {cI cL : ClassId} {A : Nat → Prop} (C : Cx p s m args meth c yX5_vote.cls cX5_vote 8 (some .int)) (x1 : Int32) (x2 : Int32) (K : MS → Prop) (Q : Int32 → MS → Prop) (hK : ∀ (S : MS) (H : Heap) (locs : List Loc) (ls : Array Slot), K S  → WW D (ctys cI cL) (cw ad cI cL S) A s H locs → lv_has ls 8 [(0, .ref (ad 0)), (1, .int x1), (2, .int x2)] → W p l e { frames := 6, cells := 0, slots := 0, locals := 140 } s m args below meth c H locs 0 0 (Zi D (ctys cI cL) (cw ad cI cL) A below args s Q) (F0 m 84 ls [])) : ∀ (n : Nat) (S : MS) (x7 : Int32) (_ : LX5_vote_56 x1 x2 K Q n S x7) (H : Heap) (locs : List Loc) (ls : Array Slot), WW D (ctys cI cL) (cw ad cI cL S) A s H locs → lv_has ls 8 [(0, .ref (ad 0)), (1, .int x1), (2, .int x2), (7, .int x7)] → W p l e { frames := 6, cells := 0, slots := 0, locals := 140 } s m args below meth c H locs 0 0 (Zi D (ctys cI cL) (cw ad cI cL) A below args s Q) (F0 m 56 ls []) := by
  have hx := C.1
  have hb := C.2.1
  intro n
  induction n with
  | zero => intro S x7 hq; exact absurd hq (by rw [LX5_vote_56]; exact id)
  | succ n ih =>
    intro S x7 hq H locs ls hw hl
    rw [LX5_vote_56] at hq
    refine lv_iload hx hb dX5_vote_56 (lv_at hl 3 rfl) ?_
    refine lv_iload_n hx hb dX5_vote_58 rfl (lv_at hl 2 rfl) ?_
    refine lv_icmp_ge (tgt := 84) hx hb dX5_vote_59 (by decide) (fun hc => ?_) (fun hc => ?_)
    · replace hq := hq.1 hc
      exact hK S  _ _ _ hq hw (lv_sub hl [0, 1, 2] rfl)
    · replace hq := hq.2 hc
      refine lv_aload_n hx hb dX5_vote_62 rfl (lv_at hl 0 rfl) ?_
      refine lv_aload_n hx hb dX5_vote_63 rfl (lv_at hl 0 rfl) ?_
      refine w_get C hw uw_X5 0 cO_X5 rfl 5 (by decide) fl_X5_48 rfl dX5_vote_64 ?_
      refine lv_iload hx hb dX5_vote_67 (lv_at hl 3 rfl) ?_
      obtain ⟨hin, hq⟩ := hq
      refine w_ild C hw 22 0 cI_16 rfl hin dX5_vote_69 ?_
      refine w_calli hw (w_runV (rest := []) C hw (mX5_isInput l D ad cI cL S (S.1 16 x7.toNatClampNeg) _ hq _) kc_X5_isInput ml_X5_94 0 cO_X5 rfl rfl ⟨rfl, rfl, Nat.le_of_ble_eq_true rfl, Nat.le_of_ble_eq_true rfl⟩ rfl rfl (Nat.le_of_ble_eq_true rfl) hl.1 dX5_vote_70) ?_
      clear hw hq
      intro r_2 S_1 H locs hq hw
      refine lv_if_ne (tgt := 78) hx hb dX5_vote_73 (by decide) (fun hc => ?_) (fun hc => ?_)
      · replace hq := hq.2 hc
        refine lv_iinc (v := x7 + 1) (lv' := [(7, .int (x7 + 1)), (0, .ref (ad 0)), (1, .int x1), (2, .int x2)]) hx hb dX5_vote_78 hl (k := 3) rfl rfl (by decide) rfl (fun ls hl => ?_)
        refine lv_goto (tgt := 56) hx hb dX5_vote_81 (by decide) ?_
        exact ih S_1 (x7 + 1) hq _ _ _ hw (lv_sub hl [1, 2, 3, 0] rfl)
      · replace hq := hq.1 hc
        refine lv_iconst (v := (-1)) hx hb dX5_vote_76 (by decide) ?_
        exact w_iret C hw hq dX5_vote_77
set_option maxHeartbeats 4000000 in
set_option maxRecDepth 100000 in
theorem mX5_vote (l : Launch) (D : va_G) (ad : Nat → Nat) (cI cL : ClassId) (S : MS) (x1 : Int32) (x2 : Int32) (x3 : Int32) (x4 : Int32) (x5 : Int32) (x6 : Int32) (Q : Int32 → MS → Prop) (hq : wX5_vote S x1 x2 x3 x4 x5 x6 Q) : Mi l yX5_vote cX5_vote 8 (some .int) { frames := 6, cells := 0, slots := 0, locals := 140 } D (ctys cI cL) (cw ad cI cL) [.ref (ad 0), .int x1, .int x2, .int x3, .int x4, .int x5, .int x6] S Q := by
  refine Mi.of (by decide +kernel) (Nat.le_of_ble_eq_true rfl) ?_
  intro p e s m args below meth c A ls C hw hl
  have hx := C.1
  have hb := C.2.1
  have hl : lv_has ls 8 [(0, .ref (ad 0)), (1, .int x1), (2, .int x2), (3, .int x3), (4, .int x4), (5, .int x5), (6, .int x6)] := hl
  have hw : WW D (ctys cI cL) (cw ad cI cL S) A s s.heap [] := hw
  unfold wX5_vote at hq
  refine lv_iload_n hx hb dX5_vote_0 rfl (lv_at hl 2 rfl) ?_
  refine lv_iconst (v := 1) hx hb dX5_vote_1 (by decide) ?_
  refine lv_icmp_lt (tgt := 20) hx hb dX5_vote_2 (by decide) (fun hc => ?_) (fun hc => ?_)
  · replace hq := hq.1 hc
    refine lv_iconst (v := (-1)) hx hb dX5_vote_20 (by decide) ?_
    exact w_iret C hw hq dX5_vote_21
  · replace hq := hq.2 hc
    refine lv_iload_n hx hb dX5_vote_5 rfl (lv_at hl 2 rfl) ?_
    refine lv_iconst (v := 4) hx hb dX5_vote_6 (by decide) ?_
    refine lv_icmp_gt (tgt := 20) hx hb dX5_vote_7 (by decide) (fun hc => ?_) (fun hc => ?_)
    · replace hq := hq.1 hc
      refine lv_iconst (v := (-1)) hx hb dX5_vote_20 (by decide) ?_
      exact w_iret C hw hq dX5_vote_21
    · replace hq := hq.2 hc
      refine lv_iload_n hx hb dX5_vote_10 rfl (lv_at hl 1 rfl) ?_
      refine lv_iconst (v := 1) hx hb dX5_vote_11 (by decide) ?_
      refine lv_icmp_lt (tgt := 20) hx hb dX5_vote_12 (by decide) (fun hc => ?_) (fun hc => ?_)
      · replace hq := hq.1 hc
        refine lv_iconst (v := (-1)) hx hb dX5_vote_20 (by decide) ?_
        exact w_iret C hw hq dX5_vote_21
      · replace hq := hq.2 hc
        refine lv_iload_n hx hb dX5_vote_15 rfl (lv_at hl 1 rfl) ?_
        refine lv_iload_n hx hb dX5_vote_16 rfl (lv_at hl 2 rfl) ?_
        refine lv_icmp_le (tgt := 22) hx hb dX5_vote_17 (by decide) (fun hc => ?_) (fun hc => ?_)
        · replace hq := hq.1 hc
          refine lv_aload_n hx hb dX5_vote_22 rfl (lv_at hl 0 rfl) ?_
          refine w_get C hw uw_X5 0 cO_X5 rfl 5 (by decide) fl_X5_48 rfl dX5_vote_23 ?_
          refine lv_iconst (v := 0) hx hb dX5_vote_26 (by decide) ?_
          refine lv_iload_n hx hb dX5_vote_27 rfl (lv_at hl 3 rfl) ?_
          obtain ⟨hin, hq⟩ := hq
          obtain ⟨S_1, eS_1⟩ : ∃ z, z = uI S 16 (0 : Int32).toNatClampNeg x3 := ⟨_, rfl⟩
          replace hq := hq S_1 eS_1
          refine w_ist (ws' := cw ad cI cL S_1) C hw 22 0 cI_16 rfl hin dX5_vote_28 (by rw [eS_1]; exact cIs_16) (fun H locs hw => ?_)
          refine lv_aload_n hx hb dX5_vote_29 rfl (lv_at hl 0 rfl) ?_
          refine w_get C hw uw_X5 0 cO_X5 rfl 5 (by decide) fl_X5_48 rfl dX5_vote_30 ?_
          refine lv_iconst (v := 1) hx hb dX5_vote_33 (by decide) ?_
          refine lv_iload hx hb dX5_vote_34 (lv_at hl 4 rfl) ?_
          obtain ⟨hin, hq⟩ := hq
          obtain ⟨S_2, eS_2⟩ : ∃ z, z = uI S_1 16 (1 : Int32).toNatClampNeg x4 := ⟨_, rfl⟩
          replace hq := hq S_2 eS_2
          refine w_ist (ws' := cw ad cI cL S_2) C hw 22 0 cI_16 rfl hin dX5_vote_36 (by rw [eS_2]; exact cIs_16) (fun H locs hw => ?_)
          refine lv_aload_n hx hb dX5_vote_37 rfl (lv_at hl 0 rfl) ?_
          refine w_get C hw uw_X5 0 cO_X5 rfl 5 (by decide) fl_X5_48 rfl dX5_vote_38 ?_
          refine lv_iconst (v := 2) hx hb dX5_vote_41 (by decide) ?_
          refine lv_iload hx hb dX5_vote_42 (lv_at hl 5 rfl) ?_
          obtain ⟨hin, hq⟩ := hq
          obtain ⟨S_3, eS_3⟩ : ∃ z, z = uI S_2 16 (2 : Int32).toNatClampNeg x5 := ⟨_, rfl⟩
          replace hq := hq S_3 eS_3
          refine w_ist (ws' := cw ad cI cL S_3) C hw 22 0 cI_16 rfl hin dX5_vote_44 (by rw [eS_3]; exact cIs_16) (fun H locs hw => ?_)
          refine lv_aload_n hx hb dX5_vote_45 rfl (lv_at hl 0 rfl) ?_
          refine w_get C hw uw_X5 0 cO_X5 rfl 5 (by decide) fl_X5_48 rfl dX5_vote_46 ?_
          refine lv_iconst (v := 3) hx hb dX5_vote_49 (by decide) ?_
          refine lv_iload hx hb dX5_vote_50 (lv_at hl 6 rfl) ?_
          obtain ⟨hin, hq⟩ := hq
          obtain ⟨S_4, eS_4⟩ : ∃ z, z = uI S_3 16 (3 : Int32).toNatClampNeg x6 := ⟨_, rfl⟩
          replace hq := hq S_4 eS_4
          refine w_ist (ws' := cw ad cI cL S_4) C hw 22 0 cI_16 rfl hin dX5_vote_52 (by rw [eS_4]; exact cIs_16) (fun H locs hw => ?_)
          refine lv_iconst (v := 0) hx hb dX5_vote_53 (by decide) ?_
          refine lv_istore (lv' := [(7, .int 0), (0, .ref (ad 0)), (1, .int x1), (2, .int x2), (3, .int x3), (4, .int x4), (5, .int x5), (6, .int x6)]) hx hb dX5_vote_54 hl (by decide) rfl (fun ls hl => ?_)
          obtain ⟨n0, hq⟩ := hq
          refine kLX5_vote_56 C x1 x2 _ Q ?_ n0 S_4 0 hq _ _ _ hw (lv_sub hl [1, 2, 3, 0] rfl)
          clear hw hl hq
          intro S_5 H locs ls hq hw hl
          refine lv_aload_n hx hb dX5_vote_84 rfl (lv_at hl 0 rfl) ?_
          refine w_get C hw uw_X5 0 cO_X5 rfl 2 (by decide) fl_X5_26 rfl dX5_vote_85 ?_
          refine lv_iload_n hx hb dX5_vote_88 rfl (lv_at hl 1 rfl) ?_
          refine lv_iload_n hx hb dX5_vote_89 rfl (lv_at hl 2 rfl) ?_
          refine lv_aload_n hx hb dX5_vote_90 rfl (lv_at hl 0 rfl) ?_
          refine w_get C hw uw_X5 0 cO_X5 rfl 5 (by decide) fl_X5_48 rfl dX5_vote_91 ?_
          refine w_calli hw (w_runV (rest := []) C hw (mX4_add l D ad cI cL S_5 x1 x2 _ hq _) kc_X4_add ml_X5_97 3 cO_X4 rfl rfl ⟨rfl, rfl, Nat.le_of_ble_eq_true rfl, Nat.le_of_ble_eq_true rfl⟩ rfl rfl (Nat.le_of_ble_eq_true rfl) hl.1 dX5_vote_94) ?_
          clear hw hq
          intro r_7 S_6 H locs hq hw
          exact w_iret C hw hq dX5_vote_97
        · replace hq := hq.2 hc
          refine lv_iconst (v := (-1)) hx hb dX5_vote_20 (by decide) ?_
          exact w_iret C hw hq dX5_vote_21
set_option maxHeartbeats 4000000 in
set_option maxRecDepth 100000 in
theorem mX5_share (l : Launch) (D : va_G) (ad : Nat → Nat) (cI cL : ClassId) (S : MS) (x1 : Int32) (x2 : Int32) (Q : Int32 → MS → Prop) (hq : wX5_share S x1 x2 Q) : Mi l yX5_share cX5_share 3 (some .int) { frames := 3, cells := 0, slots := 0, locals := 60 } D (ctys cI cL) (cw ad cI cL) [.ref (ad 0), .int x1, .int x2] S Q := by
  refine Mi.of (by decide +kernel) (Nat.le_of_ble_eq_true rfl) ?_
  intro p e s m args below meth c A ls C hw hl
  have hx := C.1
  have hb := C.2.1
  have hl : lv_has ls 3 [(0, .ref (ad 0)), (1, .int x1), (2, .int x2)] := hl
  have hw : WW D (ctys cI cL) (cw ad cI cL S) A s s.heap [] := hw
  unfold wX5_share at hq
  refine lv_aload_n hx hb dX5_share_0 rfl (lv_at hl 0 rfl) ?_
  refine w_get C hw uw_X5 0 cO_X5 rfl 0 (by decide) fl_X5_10 rfl dX5_share_1 ?_
  refine lv_iload_n hx hb dX5_share_4 rfl (lv_at hl 1 rfl) ?_
  refine w_calli hw (w_runV (rest := []) C hw (mX2_has l D ad cI cL S x1 _ hq _) kc_X2_has ml_X5_60 1 cO_X2 rfl rfl ⟨rfl, rfl, Nat.le_of_ble_eq_true rfl, Nat.le_of_ble_eq_true rfl⟩ rfl rfl (Nat.le_of_ble_eq_true rfl) hl.1 dX5_share_5) ?_
  clear hw hq
  intro r_2 S_1 H locs hq hw
  refine lv_if_eq (tgt := 18) hx hb dX5_share_8 (by decide) (fun hc => ?_) (fun hc => ?_)
  · replace hq := hq.1 hc
    refine lv_iconst (v := (-1)) hx hb dX5_share_18 (by decide) ?_
    exact w_iret C hw hq dX5_share_19
  · replace hq := hq.2 hc
    refine lv_iload_n hx hb dX5_share_11 rfl (lv_at hl 2 rfl) ?_
    refine w_calli hw (w_runS (rest := []) C hw (mX5_isDay l D ad cI cL S_1 x2 _ hq _) kc_X5_isDay ml_X5_63 ⟨rfl, rfl, Nat.le_of_ble_eq_true rfl, Nat.le_of_ble_eq_true rfl⟩ rfl rfl (Nat.le_of_ble_eq_true rfl) hl.1 dX5_share_12) ?_
    clear hw hq
    intro r_4 S_3 H locs hq hw
    refine lv_if_ne (tgt := 20) hx hb dX5_share_15 (by decide) (fun hc => ?_) (fun hc => ?_)
    · replace hq := hq.2 hc
      refine lv_aload_n hx hb dX5_share_20 rfl (lv_at hl 0 rfl) ?_
      refine w_get C hw uw_X5 0 cO_X5 rfl 0 (by decide) fl_X5_10 rfl dX5_share_21 ?_
      refine lv_iload_n hx hb dX5_share_24 rfl (lv_at hl 1 rfl) ?_
      refine lv_iload_n hx hb dX5_share_25 rfl (lv_at hl 2 rfl) ?_
      refine w_calli hw (w_runV (rest := []) C hw (mX2_shareOn l D ad cI cL S_3 x1 x2 _ hq _) kc_X2_shareOn ml_X5_100 1 cO_X2 rfl rfl ⟨rfl, rfl, Nat.le_of_ble_eq_true rfl, Nat.le_of_ble_eq_true rfl⟩ rfl rfl (Nat.le_of_ble_eq_true rfl) hl.1 dX5_share_26) ?_
      clear hw hq
      intro r_6 S_5 H locs hq hw
      exact w_iret C hw hq dX5_share_29
    · replace hq := hq.1 hc
      refine lv_iconst (v := (-1)) hx hb dX5_share_18 (by decide) ?_
      exact w_iret C hw hq dX5_share_19
set_option maxHeartbeats 4000000 in
set_option maxRecDepth 100000 in
theorem mX5_below (l : Launch) (D : va_G) (ad : Nat → Nat) (cI cL : ClassId) (S : MS) (x1 : Int32) (x2 : Int32) (Q : Int32 → MS → Prop) (hq : wX5_below S x1 x2 Q) : Mi l yX5_below cX5_below 3 (some .int) { frames := 3, cells := 0, slots := 0, locals := 65 } D (ctys cI cL) (cw ad cI cL) [.ref (ad 0), .int x1, .int x2] S Q := by
  refine Mi.of (by decide +kernel) (Nat.le_of_ble_eq_true rfl) ?_
  intro p e s m args below meth c A ls C hw hl
  have hx := C.1
  have hb := C.2.1
  have hl : lv_has ls 3 [(0, .ref (ad 0)), (1, .int x1), (2, .int x2)] := hl
  have hw : WW D (ctys cI cL) (cw ad cI cL S) A s s.heap [] := hw
  unfold wX5_below at hq
  refine lv_aload_n hx hb dX5_below_0 rfl (lv_at hl 0 rfl) ?_
  refine w_get C hw uw_X5 0 cO_X5 rfl 2 (by decide) fl_X5_26 rfl dX5_below_1 ?_
  refine lv_iload_n hx hb dX5_below_4 rfl (lv_at hl 1 rfl) ?_
  refine w_calli hw (w_runV (rest := []) C hw (mX4_has l D ad cI cL S x1 _ hq _) kc_X4_has ml_X5_103 3 cO_X4 rfl rfl ⟨rfl, rfl, Nat.le_of_ble_eq_true rfl, Nat.le_of_ble_eq_true rfl⟩ rfl rfl (Nat.le_of_ble_eq_true rfl) hl.1 dX5_below_5) ?_
  clear hw hq
  intro r_2 S_1 H locs hq hw
  refine lv_if_ne (tgt := 13) hx hb dX5_below_8 (by decide) (fun hc => ?_) (fun hc => ?_)
  · replace hq := hq.2 hc
    refine lv_iload_n hx hb dX5_below_13 rfl (lv_at hl 2 rfl) ?_
    by_cases hc0 : x2 = 0
    · replace hq := hq.1 hc0
      refine lv_tableIn (tgt := 40) (off := 26) hx hb dX5_below_14 (by rw [hc0]; decide) (by rw [hc0]; decide) (by rw [hc0]; rfl) (by decide) ?_
      refine lv_aload_n hx hb dX5_below_40 rfl (lv_at hl 0 rfl) ?_
      refine w_get C hw uw_X5 0 cO_X5 rfl 2 (by decide) fl_X5_26 rfl dX5_below_41 ?_
      refine lv_iload_n hx hb dX5_below_44 rfl (lv_at hl 1 rfl) ?_
      refine w_calli hw (w_runV (rest := []) C hw (mX4_partsBelow l D ad cI cL S_1 x1 _ hq _) kc_X4_partsBelow ml_X5_104 3 cO_X4 rfl rfl ⟨rfl, rfl, Nat.le_of_ble_eq_true rfl, Nat.le_of_ble_eq_true rfl⟩ rfl rfl (Nat.le_of_ble_eq_true rfl) hl.1 dX5_below_45) ?_
      clear hw hq
      intro r_4 S_3 H locs hq hw
      exact w_iret C hw hq dX5_below_48
    by_cases hc1 : x2 = 1
    · replace hq := hq.2.1 hc1
      refine lv_tableIn (tgt := 49) (off := 35) hx hb dX5_below_14 (by rw [hc1]; decide) (by rw [hc1]; decide) (by rw [hc1]; rfl) (by decide) ?_
      refine lv_aload_n hx hb dX5_below_49 rfl (lv_at hl 0 rfl) ?_
      refine w_get C hw uw_X5 0 cO_X5 rfl 3 (by decide) fl_X5_35 rfl dX5_below_50 ?_
      refine lv_iload_n hx hb dX5_below_53 rfl (lv_at hl 1 rfl) ?_
      refine w_calli hw (w_runV (rest := []) C hw (mX1_groupsOf l D ad cI cL S_1 x1 _ hq _) kc_X1_groupsOf ml_X5_107 4 cO_X1 rfl rfl ⟨rfl, rfl, Nat.le_of_ble_eq_true rfl, Nat.le_of_ble_eq_true rfl⟩ rfl rfl (Nat.le_of_ble_eq_true rfl) hl.1 dX5_below_54) ?_
      clear hw hq
      intro r_6 S_5 H locs hq hw
      exact w_iret C hw hq dX5_below_57
    by_cases hc2 : x2 = 2
    · replace hq := hq.2.2.1 hc2
      refine lv_tableIn (tgt := 58) (off := 44) hx hb dX5_below_14 (by rw [hc2]; decide) (by rw [hc2]; decide) (by rw [hc2]; rfl) (by decide) ?_
      refine lv_aload_n hx hb dX5_below_58 rfl (lv_at hl 0 rfl) ?_
      refine w_get C hw uw_X5 0 cO_X5 rfl 3 (by decide) fl_X5_35 rfl dX5_below_59 ?_
      refine lv_iload_n hx hb dX5_below_62 rfl (lv_at hl 1 rfl) ?_
      refine w_calli hw (w_runV (rest := []) C hw (mX1_eventsOf l D ad cI cL S_1 x1 _ hq _) kc_X1_eventsOf ml_X5_110 4 cO_X1 rfl rfl ⟨rfl, rfl, Nat.le_of_ble_eq_true rfl, Nat.le_of_ble_eq_true rfl⟩ rfl rfl (Nat.le_of_ble_eq_true rfl) hl.1 dX5_below_63) ?_
      clear hw hq
      intro r_8 S_7 H locs hq hw
      exact w_iret C hw hq dX5_below_66
    replace hq := hq.2.2.2 hc0 hc1 hc2
    refine lv_tableOut (tgt := 67) hx hb dX5_below_14 (by have g0 := lv_neT (a := 0) hc0 (by decide); have g1 := lv_neT (a := 1) hc1 (by decide); have g2 := lv_neT (a := 2) hc2 (by decide); omega) (by decide) ?_
    refine lv_iconst (v := (-1)) hx hb dX5_below_67 (by decide) ?_
    exact w_iret C hw hq dX5_below_68
  · replace hq := hq.1 hc
    refine lv_iconst (v := (-1)) hx hb dX5_below_11 (by decide) ?_
    exact w_iret C hw hq dX5_below_12
set_option maxHeartbeats 4000000 in
set_option maxRecDepth 100000 in
theorem mX5_shared (l : Launch) (D : va_G) (ad : Nat → Nat) (cI cL : ClassId) (S : MS) (x1 : Int32) (x2 : Int32) (Q : Int32 → MS → Prop) (hq : wX5_shared S x1 x2 Q) : Mi l yX5_shared cX5_shared 4 (some .int) { frames := 2, cells := 0, slots := 0, locals := 44 } D (ctys cI cL) (cw ad cI cL) [.ref (ad 0), .int x1, .int x2] S Q := by
  refine Mi.of (by decide +kernel) (Nat.le_of_ble_eq_true rfl) ?_
  intro p e s m args below meth c A ls C hw hl
  have hx := C.1
  have hb := C.2.1
  have hl : lv_has ls 4 [(0, .ref (ad 0)), (1, .int x1), (2, .int x2)] := hl
  have hw : WW D (ctys cI cL) (cw ad cI cL S) A s s.heap [] := hw
  unfold wX5_shared at hq
  refine lv_aload_n hx hb dX5_shared_0 rfl (lv_at hl 0 rfl) ?_
  refine w_get C hw uw_X5 0 cO_X5 rfl 2 (by decide) fl_X5_26 rfl dX5_shared_1 ?_
  refine lv_iload_n hx hb dX5_shared_4 rfl (lv_at hl 1 rfl) ?_
  refine w_calli hw (w_runV (rest := []) C hw (mX4_has l D ad cI cL S x1 _ hq _) kc_X4_has ml_X5_103 3 cO_X4 rfl rfl ⟨rfl, rfl, Nat.le_of_ble_eq_true rfl, Nat.le_of_ble_eq_true rfl⟩ rfl rfl (Nat.le_of_ble_eq_true rfl) hl.1 dX5_shared_5) ?_
  clear hw hq
  intro r_2 S_1 H locs hq hw
  refine lv_if_eq (tgt := 22) hx hb dX5_shared_8 (by decide) (fun hc => ?_) (fun hc => ?_)
  · replace hq := hq.1 hc
    refine lv_iconst (v := (-1)) hx hb dX5_shared_22 (by decide) ?_
    exact w_iret C hw hq dX5_shared_23
  · replace hq := hq.2 hc
    refine lv_aload_n hx hb dX5_shared_11 rfl (lv_at hl 0 rfl) ?_
    refine w_get C hw uw_X5 0 cO_X5 rfl 2 (by decide) fl_X5_26 rfl dX5_shared_12 ?_
    refine lv_iload_n hx hb dX5_shared_15 rfl (lv_at hl 2 rfl) ?_
    refine w_calli hw (w_runV (rest := []) C hw (mX4_has l D ad cI cL S_1 x2 _ hq _) kc_X4_has ml_X5_103 3 cO_X4 rfl rfl ⟨rfl, rfl, Nat.le_of_ble_eq_true rfl, Nat.le_of_ble_eq_true rfl⟩ rfl rfl (Nat.le_of_ble_eq_true rfl) hl.1 dX5_shared_16) ?_
    clear hw hq
    intro r_4 S_3 H locs hq hw
    refine lv_if_ne (tgt := 24) hx hb dX5_shared_19 (by decide) (fun hc => ?_) (fun hc => ?_)
    · replace hq := hq.2 hc
      refine lv_aload_n hx hb dX5_shared_24 rfl (lv_at hl 0 rfl) ?_
      refine w_get C hw uw_X5 0 cO_X5 rfl 3 (by decide) fl_X5_35 rfl dX5_shared_25 ?_
      refine lv_iload_n hx hb dX5_shared_28 rfl (lv_at hl 1 rfl) ?_
      refine w_calli hw (w_runV (rest := []) C hw (mX1_groupsOf l D ad cI cL S_3 x1 _ hq _) kc_X1_groupsOf ml_X5_107 4 cO_X1 rfl rfl ⟨rfl, rfl, Nat.le_of_ble_eq_true rfl, Nat.le_of_ble_eq_true rfl⟩ rfl rfl (Nat.le_of_ble_eq_true rfl) hl.1 dX5_shared_29) ?_
      clear hw hq
      intro r_6 S_5 H locs hq hw
      refine lv_aload_n hx hb dX5_shared_32 rfl (lv_at hl 0 rfl) ?_
      refine w_get C hw uw_X5 0 cO_X5 rfl 3 (by decide) fl_X5_35 rfl dX5_shared_33 ?_
      refine lv_iload_n hx hb dX5_shared_36 rfl (lv_at hl 2 rfl) ?_
      refine w_calli hw (w_runV (rest := [.int r_6]) C hw (mX1_groupsOf l D ad cI cL S_5 x2 _ hq _) kc_X1_groupsOf ml_X5_107 4 cO_X1 rfl rfl ⟨rfl, rfl, Nat.le_of_ble_eq_true rfl, Nat.le_of_ble_eq_true rfl⟩ rfl rfl (Nat.le_of_ble_eq_true rfl) hl.1 dX5_shared_37) ?_
      clear hw hq
      intro r_8 S_7 H locs hq hw
      refine lv_iand hx hb dX5_shared_40 ?_
      refine lv_istore_n (lv' := [(3, .int (r_6 &&& r_8)), (0, .ref (ad 0)), (1, .int x1), (2, .int x2)]) hx hb dX5_shared_41 rfl hl (by decide) rfl (fun ls hl => ?_)
      refine lv_aload_n hx hb dX5_shared_42 rfl (lv_at hl 1 rfl) ?_
      refine w_get C hw uw_X5 0 cO_X5 rfl 2 (by decide) fl_X5_26 rfl dX5_shared_43 ?_
      refine lv_iload_n hx hb dX5_shared_46 rfl (lv_at hl 2 rfl) ?_
      refine w_calli hw (w_runV (rest := []) C hw (mX4_partsBelow l D ad cI cL S_7 x1 _ hq _) kc_X4_partsBelow ml_X5_104 3 cO_X4 rfl rfl ⟨rfl, rfl, Nat.le_of_ble_eq_true rfl, Nat.le_of_ble_eq_true rfl⟩ rfl rfl (Nat.le_of_ble_eq_true rfl) hl.1 dX5_shared_47) ?_
      clear hw hq
      intro r_10 S_9 H locs hq hw
      refine lv_aload_n hx hb dX5_shared_50 rfl (lv_at hl 1 rfl) ?_
      refine w_get C hw uw_X5 0 cO_X5 rfl 2 (by decide) fl_X5_26 rfl dX5_shared_51 ?_
      refine lv_iload_n hx hb dX5_shared_54 rfl (lv_at hl 3 rfl) ?_
      refine w_calli hw (w_runV (rest := [.int r_10]) C hw (mX4_partsBelow l D ad cI cL S_9 x2 _ hq _) kc_X4_partsBelow ml_X5_104 3 cO_X4 rfl rfl ⟨rfl, rfl, Nat.le_of_ble_eq_true rfl, Nat.le_of_ble_eq_true rfl⟩ rfl rfl (Nat.le_of_ble_eq_true rfl) hl.1 dX5_shared_55) ?_
      clear hw hq
      intro r_12 S_11 H locs hq hw
      refine lv_iand hx hb dX5_shared_58 ?_
      refine lv_iload_n hx hb dX5_shared_59 rfl (lv_at hl 0 rfl) ?_
      refine lv_bipush (v := 12) hx hb dX5_shared_60 (by decide) ?_
      refine lv_ishl hx hb dX5_shared_62 ?_
      refine lv_ior hx hb dX5_shared_63 ?_
      exact w_iret C hw hq dX5_shared_64
    · replace hq := hq.1 hc
      refine lv_iconst (v := (-1)) hx hb dX5_shared_22 (by decide) ?_
      exact w_iret C hw hq dX5_shared_23
