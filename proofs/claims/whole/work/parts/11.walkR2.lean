set_option maxHeartbeats 4000000 in
set_option maxRecDepth 100000 in
theorem kJX6_chanceOf_48 {p : Program} {l : Launch} {e : Env} {s : State} {m : MethodId} {args : Array Value} {below : List Frame} {meth : Method} {c : Code} {D : va_G} {ad : Nat → Nat} {cI cL : ClassId} {A : Nat → Prop} (C : Cx p s m args meth c yX6_chanceOf.cls cX6_chanceOf 5 (some .long)) (S : MS) (x1 : Int32) (x2 : Int32) (x3 : Int32) (x4 : Int32) (Hd : MS → Int32 → Prop) (K : MS → Prop) (Q : Int64 → MS → Prop) (hq : JX6_chanceOf_48 S x1 x2 x3 x4 Hd K Q) (H : Heap) (locs : List Loc) (ls : Array Slot) (hw : WW D (rtys cI cL) (rw_ ad cI cL S) A s H locs) (hl : lv_has ls 5 [(0, .ref (ad 0)), (1, .int x1), (2, .int x2), (3, .int x3), (4, .int x4)]) (hH : ∀ (S : MS) (z4 : Int32) (H : Heap) (locs : List Loc) (ls : Array Slot), Hd S z4 → WW D (rtys cI cL) (rw_ ad cI cL S) A s H locs → lv_has ls 5 [(0, .ref (ad 0)), (1, .int x1), (2, .int x2), (3, .int x3), (4, .int z4)] → W p l e { frames := 3, cells := 0, slots := 0, locals := 73 } s m args below meth c H locs 0 0 (Zl D (rtys cI cL) (rw_ ad cI cL) A below args s Q) (F0 m 14 ls [])) (hK : ∀ (S : MS) (H : Heap) (locs : List Loc) (ls : Array Slot), K S  → WW D (rtys cI cL) (rw_ ad cI cL S) A s H locs → lv_has ls 5 [(0, .ref (ad 0)), (1, .int x1), (3, .int x3)] → W p l e { frames := 3, cells := 0, slots := 0, locals := 73 } s m args below meth c H locs 0 0 (Zl D (rtys cI cL) (rw_ ad cI cL) A below args s Q) (F0 m 54 ls [])) : W p l e { frames := 3, cells := 0, slots := 0, locals := 73 } s m args below meth c H locs 0 0 (Zl D (rtys cI cL) (rw_ ad cI cL) A below args s Q) (F0 m 48 ls []) := by
  have hx := C.1
  have hb := C.2.1
  unfold JX6_chanceOf_48 at hq
  refine lv_iinc (v := x4 + 1) (lv' := [(4, .int (x4 + 1)), (0, .ref (ad 0)), (1, .int x1), (2, .int x2), (3, .int x3)]) hx hb dX6_chanceOf_48 hl (k := 4) rfl rfl (by decide) rfl (fun ls hl => ?_)
  refine lv_goto (tgt := 14) hx hb dX6_chanceOf_51 (by decide) ?_
  exact hH S (x4 + 1) _ _ _ hq hw (lv_sub hl [1, 2, 3, 4, 0] rfl)
set_option maxHeartbeats 4000000 in
set_option maxRecDepth 100000 in
theorem kLX6_chanceOf_14 {p : Program} {l : Launch} {e : Env} {s : State} {m : MethodId} {args : Array Value} {below : List Frame} {meth : Method} {c : Code} {D : va_G} {ad : Nat → Nat} {cI cL : ClassId} {A : Nat → Prop} (C : Cx p s m args meth c yX6_chanceOf.cls cX6_chanceOf 5 (some .long)) (x1 : Int32) (x2 : Int32) (x3 : Int32) (K : MS → Prop) (Q : Int64 → MS → Prop) (hK : ∀ (S : MS) (H : Heap) (locs : List Loc) (ls : Array Slot), K S  → WW D (rtys cI cL) (rw_ ad cI cL S) A s H locs → lv_has ls 5 [(0, .ref (ad 0)), (1, .int x1), (3, .int x3)] → W p l e { frames := 3, cells := 0, slots := 0, locals := 73 } s m args below meth c H locs 0 0 (Zl D (rtys cI cL) (rw_ ad cI cL) A below args s Q) (F0 m 54 ls [])) : ∀ (n : Nat) (S : MS) (x4 : Int32) (_ : LX6_chanceOf_14 x1 x2 x3 K Q n S x4) (H : Heap) (locs : List Loc) (ls : Array Slot), WW D (rtys cI cL) (rw_ ad cI cL S) A s H locs → lv_has ls 5 [(0, .ref (ad 0)), (1, .int x1), (2, .int x2), (3, .int x3), (4, .int x4)] → W p l e { frames := 3, cells := 0, slots := 0, locals := 73 } s m args below meth c H locs 0 0 (Zl D (rtys cI cL) (rw_ ad cI cL) A below args s Q) (F0 m 14 ls []) := by
  have hx := C.1
  have hb := C.2.1
  intro n
  induction n with
  | zero => intro S x4 hq; exact absurd hq (by rw [LX6_chanceOf_14]; exact id)
  | succ n ih =>
    intro S x4 hq H locs ls hw hl
    rw [LX6_chanceOf_14] at hq
    refine lv_iload hx hb dX6_chanceOf_14 (lv_at hl 4 rfl) ?_
    refine lv_aload_n hx hb dX6_chanceOf_16 rfl (lv_at hl 0 rfl) ?_
    refine w_get C hw uw_X6 0 rO rfl 0 (by decide) fl_X6_74 rfl dX6_chanceOf_17 ?_
    refine lv_icmp_ge (tgt := 54) hx hb dX6_chanceOf_20 (by decide) (fun hc => ?_) (fun hc => ?_)
    · replace hq := hq.1 hc
      exact hK S  _ _ _ hq hw (lv_sub hl [0, 1, 3] rfl)
    · replace hq := hq.2 hc
      refine lv_iload_n hx hb dX6_chanceOf_23 rfl (lv_at hl 3 rfl) ?_
      refine lv_iload hx hb dX6_chanceOf_24 (lv_at hl 4 rfl) ?_
      refine lv_ishr hx hb dX6_chanceOf_26 ?_
      refine lv_iconst (v := 1) hx hb dX6_chanceOf_27 (by decide) ?_
      refine lv_iand hx hb dX6_chanceOf_28 ?_
      refine lv_iconst (v := 1) hx hb dX6_chanceOf_29 (by decide) ?_
      refine lv_icmp_ne (tgt := 48) hx hb dX6_chanceOf_30 (by decide) (fun hc => ?_) (fun hc => ?_)
      · replace hq := hq.2 hc
        exact kJX6_chanceOf_48 C S x1 x2 x3 x4 _ K Q hq _ _ _ hw (lv_sub hl [0, 1, 2, 3, 4] rfl) (fun S a4 H locs ls hq hw hl => ih S a4 hq H locs ls hw hl) hK
      · replace hq := hq.1 hc
        refine lv_aload_n hx hb dX6_chanceOf_33 rfl (lv_at hl 0 rfl) ?_
        refine lv_aload_n hx hb dX6_chanceOf_34 rfl (lv_at hl 0 rfl) ?_
        refine lv_iload hx hb dX6_chanceOf_35 (lv_at hl 4 rfl) ?_
        refine lv_iload_n hx hb dX6_chanceOf_37 rfl (lv_at hl 2 rfl) ?_
        refine w_calli hw (w_runV (rest := [.ref (ad 0)]) C hw (mX6_shareOf l D ad cI cL S x4 x2 _ hq _) kc_X6_shareOf ml_X6_120 0 rO rfl rfl ⟨rfl, rfl, Nat.le_of_ble_eq_true rfl, Nat.le_of_ble_eq_true rfl⟩ rfl rfl (Nat.le_of_ble_eq_true rfl) hl.1 dX6_chanceOf_38) ?_
        clear hw hq
        intro r_2 S_1 H locs hq hw
        refine lv_iconst (v := 1) hx hb dX6_chanceOf_41 (by decide) ?_
        refine lv_iload hx hb dX6_chanceOf_42 (lv_at hl 4 rfl) ?_
        refine lv_ishl hx hb dX6_chanceOf_44 ?_
        refine w_callv hw (w_runV (rest := []) C hw (mX6_adds l D ad cI cL S_1 r_2 ((1 : Int32) <<< (x4 &&& 31)) _ hq _) kc_X6_adds ml_X6_144 0 rO rfl rfl ⟨rfl, rfl, Nat.le_of_ble_eq_true rfl, Nat.le_of_ble_eq_true rfl⟩ rfl rfl (Nat.le_of_ble_eq_true rfl) hl.1 dX6_chanceOf_45) ?_
        clear hw hq
        intro S_3 H locs hq hw
        exact kJX6_chanceOf_48 C S_3 x1 x2 x3 x4 _ K Q hq _ _ _ hw (lv_sub hl [0, 1, 2, 3, 4] rfl) (fun S a4 H locs ls hq hw hl => ih S a4 hq H locs ls hw hl) hK
set_option maxHeartbeats 4000000 in
set_option maxRecDepth 100000 in
theorem kJX6_chanceOf_96 {p : Program} {l : Launch} {e : Env} {s : State} {m : MethodId} {args : Array Value} {below : List Frame} {meth : Method} {c : Code} {D : va_G} {ad : Nat → Nat} {cI cL : ClassId} {A : Nat → Prop} (C : Cx p s m args meth c yX6_chanceOf.cls cX6_chanceOf 5 (some .long)) (S : MS) (x1 : Int32) (x3 : Int32) (x4 : Int32) (Hd : MS → Int32 → Prop) (K : MS → Prop) (Q : Int64 → MS → Prop) (hq : JX6_chanceOf_96 S x1 x3 x4 Hd K Q) (H : Heap) (locs : List Loc) (ls : Array Slot) (hw : WW D (rtys cI cL) (rw_ ad cI cL S) A s H locs) (hl : lv_has ls 5 [(0, .ref (ad 0)), (1, .int x1), (3, .int x3), (4, .int x4)]) (hH : ∀ (S : MS) (z4 : Int32) (H : Heap) (locs : List Loc) (ls : Array Slot), Hd S z4 → WW D (rtys cI cL) (rw_ ad cI cL S) A s H locs → lv_has ls 5 [(0, .ref (ad 0)), (1, .int x1), (3, .int x3), (4, .int z4)] → W p l e { frames := 3, cells := 0, slots := 0, locals := 73 } s m args below meth c H locs 0 0 (Zl D (rtys cI cL) (rw_ ad cI cL) A below args s Q) (F0 m 57 ls [])) (hK : ∀ (S : MS) (H : Heap) (locs : List Loc) (ls : Array Slot), K S  → WW D (rtys cI cL) (rw_ ad cI cL S) A s H locs → lv_has ls 5 [(0, .ref (ad 0)), (1, .int x1)] → W p l e { frames := 3, cells := 0, slots := 0, locals := 73 } s m args below meth c H locs 0 0 (Zl D (rtys cI cL) (rw_ ad cI cL) A below args s Q) (F0 m 102 ls [])) : W p l e { frames := 3, cells := 0, slots := 0, locals := 73 } s m args below meth c H locs 0 0 (Zl D (rtys cI cL) (rw_ ad cI cL) A below args s Q) (F0 m 96 ls []) := by
  have hx := C.1
  have hb := C.2.1
  unfold JX6_chanceOf_96 at hq
  refine lv_iinc (v := x4 + 1) (lv' := [(4, .int (x4 + 1)), (0, .ref (ad 0)), (1, .int x1), (3, .int x3)]) hx hb dX6_chanceOf_96 hl (k := 3) rfl rfl (by decide) rfl (fun ls hl => ?_)
  refine lv_goto (tgt := 57) hx hb dX6_chanceOf_99 (by decide) ?_
  exact hH S (x4 + 1) _ _ _ hq hw (lv_sub hl [1, 2, 3, 0] rfl)
set_option maxHeartbeats 4000000 in
set_option maxRecDepth 100000 in
theorem kLX6_chanceOf_57 {p : Program} {l : Launch} {e : Env} {s : State} {m : MethodId} {args : Array Value} {below : List Frame} {meth : Method} {c : Code} {D : va_G} {ad : Nat → Nat} {cI cL : ClassId} {A : Nat → Prop} (C : Cx p s m args meth c yX6_chanceOf.cls cX6_chanceOf 5 (some .long)) (x1 : Int32) (x3 : Int32) (K : MS → Prop) (Q : Int64 → MS → Prop) (hK : ∀ (S : MS) (H : Heap) (locs : List Loc) (ls : Array Slot), K S  → WW D (rtys cI cL) (rw_ ad cI cL S) A s H locs → lv_has ls 5 [(0, .ref (ad 0)), (1, .int x1)] → W p l e { frames := 3, cells := 0, slots := 0, locals := 73 } s m args below meth c H locs 0 0 (Zl D (rtys cI cL) (rw_ ad cI cL) A below args s Q) (F0 m 102 ls [])) : ∀ (n : Nat) (S : MS) (x4 : Int32) (_ : LX6_chanceOf_57 x1 x3 K Q n S x4) (H : Heap) (locs : List Loc) (ls : Array Slot), WW D (rtys cI cL) (rw_ ad cI cL S) A s H locs → lv_has ls 5 [(0, .ref (ad 0)), (1, .int x1), (3, .int x3), (4, .int x4)] → W p l e { frames := 3, cells := 0, slots := 0, locals := 73 } s m args below meth c H locs 0 0 (Zl D (rtys cI cL) (rw_ ad cI cL) A below args s Q) (F0 m 57 ls []) := by
  have hx := C.1
  have hb := C.2.1
  intro n
  induction n with
  | zero => intro S x4 hq; exact absurd hq (by rw [LX6_chanceOf_57]; exact id)
  | succ n ih =>
    intro S x4 hq H locs ls hw hl
    rw [LX6_chanceOf_57] at hq
    refine lv_iload hx hb dX6_chanceOf_57 (lv_at hl 3 rfl) ?_
    refine lv_aload_n hx hb dX6_chanceOf_59 rfl (lv_at hl 0 rfl) ?_
    refine w_get C hw uw_X6 0 rO rfl 13 (by decide) fl_X6_110 rfl dX6_chanceOf_60 ?_
    refine lv_icmp_ge (tgt := 102) hx hb dX6_chanceOf_63 (by decide) (fun hc => ?_) (fun hc => ?_)
    · replace hq := hq.1 hc
      exact hK S  _ _ _ hq hw (lv_sub hl [0, 1] rfl)
    · replace hq := hq.2 hc
      refine lv_aload_n hx hb dX6_chanceOf_66 rfl (lv_at hl 0 rfl) ?_
      refine w_get C hw uw_X6 0 rO rfl 15 (by decide) fl_X6_46 rfl dX6_chanceOf_67 ?_
      refine lv_iload hx hb dX6_chanceOf_70 (lv_at hl 3 rfl) ?_
      obtain ⟨hin, hq⟩ := hq
      refine w_ild C hw 13 0 rI_12 rfl hin dX6_chanceOf_72 ?_
      refine lv_iload_n hx hb dX6_chanceOf_73 rfl (lv_at hl 2 rfl) ?_
      refine lv_iand hx hb dX6_chanceOf_74 ?_
      refine lv_if_eq (tgt := 96) hx hb dX6_chanceOf_75 (by decide) (fun hc => ?_) (fun hc => ?_)
      · replace hq := hq.1 hc
        exact kJX6_chanceOf_96 C S x1 x3 x4 _ K Q hq _ _ _ hw (lv_sub hl [0, 1, 2, 3] rfl) (fun S a4 H locs ls hq hw hl => ih S a4 hq H locs ls hw hl) hK
      · replace hq := hq.2 hc
        refine lv_aload_n hx hb dX6_chanceOf_78 rfl (lv_at hl 0 rfl) ?_
        refine lv_aload_n hx hb dX6_chanceOf_79 rfl (lv_at hl 0 rfl) ?_
        refine w_get C hw uw_X6 0 rO rfl 14 (by decide) fl_X6_43 rfl dX6_chanceOf_80 ?_
        refine lv_iload hx hb dX6_chanceOf_83 (lv_at hl 3 rfl) ?_
        obtain ⟨hin, hq⟩ := hq
        refine w_ild C hw 12 0 rI_11 rfl hin dX6_chanceOf_85 ?_
        refine lv_aload_n hx hb dX6_chanceOf_86 rfl (lv_at hl 0 rfl) ?_
        refine w_get C hw uw_X6 0 rO rfl 15 (by decide) fl_X6_46 rfl dX6_chanceOf_87 ?_
        refine lv_iload hx hb dX6_chanceOf_90 (lv_at hl 3 rfl) ?_
        obtain ⟨hin, hq⟩ := hq
        refine w_ild C hw 13 0 rI_12 rfl hin dX6_chanceOf_92 ?_
        refine w_callv hw (w_runV (rest := []) C hw (mX6_adds l D ad cI cL S (S.1 11 x4.toNatClampNeg) (S.1 12 x4.toNatClampNeg) _ hq _) kc_X6_adds ml_X6_144 0 rO rfl rfl ⟨rfl, rfl, Nat.le_of_ble_eq_true rfl, Nat.le_of_ble_eq_true rfl⟩ rfl rfl (Nat.le_of_ble_eq_true rfl) hl.1 dX6_chanceOf_93) ?_
        clear hw hq
        intro S_1 H locs hq hw
        exact kJX6_chanceOf_96 C S_1 x1 x3 x4 _ K Q hq _ _ _ hw (lv_sub hl [0, 1, 2, 3] rfl) (fun S a4 H locs ls hq hw hl => ih S a4 hq H locs ls hw hl) hK
set_option maxHeartbeats 4000000 in
set_option maxRecDepth 100000 in
theorem mX6_chanceOf (l : Launch) (D : va_G) (ad : Nat → Nat) (cI cL : ClassId) (S : MS) (x1 : Int32) (x2 : Int32) (Q : Int64 → MS → Prop) (hq : wX6_chanceOf S x1 x2 Q) : Ml l yX6_chanceOf cX6_chanceOf 5 (some .long) { frames := 3, cells := 0, slots := 0, locals := 73 } D (rtys cI cL) (rw_ ad cI cL) [.ref (ad 0), .int x1, .int x2] S Q := by
  refine Ml.of (by decide +kernel) (Nat.le_of_ble_eq_true rfl) ?_
  intro p e s m args below meth c A ls C hw hl
  have hx := C.1
  have hb := C.2.1
  have hl : lv_has ls 5 [(0, .ref (ad 0)), (1, .int x1), (2, .int x2)] := hl
  have hw : WW D (rtys cI cL) (rw_ ad cI cL S) A s s.heap [] := hw
  unfold wX6_chanceOf at hq
  refine lv_aload_n hx hb dX6_chanceOf_0 rfl (lv_at hl 0 rfl) ?_
  refine lv_iload_n hx hb dX6_chanceOf_1 rfl (lv_at hl 1 rfl) ?_
  refine w_calli hw (w_runV (rest := []) C hw (mX6_partsOf l D ad cI cL S x1 _ hq _) kc_X6_partsOf ml_X6_124 0 rO rfl rfl ⟨rfl, rfl, Nat.le_of_ble_eq_true rfl, Nat.le_of_ble_eq_true rfl⟩ rfl rfl (Nat.le_of_ble_eq_true rfl) hl.1 dX6_chanceOf_2) ?_
  clear hw hq
  intro r_2 S_1 H locs hq hw
  refine lv_istore_n (lv' := [(3, .int r_2), (0, .ref (ad 0)), (1, .int x1), (2, .int x2)]) hx hb dX6_chanceOf_5 rfl hl (by decide) rfl (fun ls hl => ?_)
  refine lv_aload_n hx hb dX6_chanceOf_6 rfl (lv_at hl 1 rfl) ?_
  refine lv_iconst (v := 0) hx hb dX6_chanceOf_7 (by decide) ?_
  obtain ⟨S_3, eS_3⟩ : ∃ z, z = uF S_1 4 0 := ⟨_, rfl⟩
  replace hq := hq S_3 eS_3
  refine w_put (ws' := rw_ ad cI cL S_3) C hw uw_X6 tyX6 tyX6_ok nmX6 0 rO rfl 22 (by decide) fl_X6_138 rfl (by decide +kernel) (Nat.le_of_ble_eq_true rfl) dX6_chanceOf_8 (by rw [eS_3]; exact rFs_4) (fun H locs hw => ?_)
  refine lv_iconst (v := 0) hx hb dX6_chanceOf_11 (by decide) ?_
  refine lv_istore (lv' := [(4, .int 0), (3, .int r_2), (0, .ref (ad 0)), (1, .int x1), (2, .int x2)]) hx hb dX6_chanceOf_12 hl (by decide) rfl (fun ls hl => ?_)
  obtain ⟨n0, hq⟩ := hq
  refine kLX6_chanceOf_14 C x1 x2 r_2 _ Q ?_ n0 S_3 0 hq _ _ _ hw (lv_sub hl [2, 3, 4, 1, 0] rfl)
  clear hw hl hq
  intro S_4 H locs ls hq hw hl
  refine lv_iconst (v := 0) hx hb dX6_chanceOf_54 (by decide) ?_
  refine lv_istore (lv' := [(4, .int 0), (0, .ref (ad 0)), (1, .int x1), (3, .int r_2)]) hx hb dX6_chanceOf_55 hl (by decide) rfl (fun ls hl => ?_)
  obtain ⟨n0, hq⟩ := hq
  refine kLX6_chanceOf_57 C x1 r_2 _ Q ?_ n0 S_4 0 hq _ _ _ hw (lv_sub hl [1, 2, 3, 0] rfl)
  clear hw hl hq
  intro S_5 H locs ls hq hw hl
  refine lv_aload_n hx hb dX6_chanceOf_102 rfl (lv_at hl 0 rfl) ?_
  refine lv_iload_n hx hb dX6_chanceOf_103 rfl (lv_at hl 1 rfl) ?_
  refine lv_iconst (v := 1) hx hb dX6_chanceOf_104 (by decide) ?_
  refine w_calll hw (w_runV (rest := []) C hw (mX6_sums l D ad cI cL S_5 x1 1 _ hq _) kc_X6_sums ml_X6_148 0 rO rfl rfl ⟨rfl, rfl, Nat.le_of_ble_eq_true rfl, Nat.le_of_ble_eq_true rfl⟩ rfl rfl (Nat.le_of_ble_eq_true rfl) hl.1 dX6_chanceOf_105) ?_
  clear hw hq
  intro r_7 S_6 H locs hq hw
  exact w_lret C hw hq dX6_chanceOf_108
set_option maxHeartbeats 4000000 in
set_option maxRecDepth 100000 in
theorem mX6_chance (l : Launch) (D : va_G) (ad : Nat → Nat) (cI cL : ClassId) (S : MS) (x1 : Int32) (x2 : Int32) (Q : Int64 → MS → Prop) (hq : wX6_chance S x1 x2 Q) : Ml l yX6_chance cX6_chance 3 (some .long) { frames := 4, cells := 0, slots := 0, locals := 97 } D (rtys cI cL) (rw_ ad cI cL) [.ref (ad 0), .int x1, .int x2] S Q := by
  refine Ml.of (by decide +kernel) (Nat.le_of_ble_eq_true rfl) ?_
  intro p e s m args below meth c A ls C hw hl
  have hx := C.1
  have hb := C.2.1
  have hl : lv_has ls 3 [(0, .ref (ad 0)), (1, .int x1), (2, .int x2)] := hl
  have hw : WW D (rtys cI cL) (rw_ ad cI cL S) A s s.heap [] := hw
  unfold wX6_chance at hq
  refine lv_aload_n hx hb dX6_chance_0 rfl (lv_at hl 0 rfl) ?_
  refine lv_iload_n hx hb dX6_chance_1 rfl (lv_at hl 1 rfl) ?_
  refine w_calli hw (w_runV (rest := []) C hw (mX6_isVote l D ad cI cL S x1 _ hq _) kc_X6_isVote ml_X6_130 0 rO rfl rfl ⟨rfl, rfl, Nat.le_of_ble_eq_true rfl, Nat.le_of_ble_eq_true rfl⟩ rfl rfl (Nat.le_of_ble_eq_true rfl) hl.1 dX6_chance_2) ?_
  clear hw hq
  intro r_2 S_1 H locs hq hw
  refine lv_if_eq (tgt := 15) hx hb dX6_chance_5 (by decide) (fun hc => ?_) (fun hc => ?_)
  · replace hq := hq.1 hc
    refine lv_ldc2 hx hb C.2.2.2.2.1 (C.w kk_X6_152 rfl) dX6_chance_15 ?_
    exact w_lret C hw hq dX6_chance_18
  · replace hq := hq.2 hc
    refine lv_iload_n hx hb dX6_chance_8 rfl (lv_at hl 2 rfl) ?_
    refine w_calli hw (w_runS (rest := []) C hw (mX6_isDay l D ad cI cL S_1 x2 _ hq _) kc_X6_isDay ml_X6_93 ⟨rfl, rfl, Nat.le_of_ble_eq_true rfl, Nat.le_of_ble_eq_true rfl⟩ rfl rfl (Nat.le_of_ble_eq_true rfl) hl.1 dX6_chance_9) ?_
    clear hw hq
    intro r_4 S_3 H locs hq hw
    refine lv_if_ne (tgt := 19) hx hb dX6_chance_12 (by decide) (fun hc => ?_) (fun hc => ?_)
    · replace hq := hq.2 hc
      refine lv_aload_n hx hb dX6_chance_19 rfl (lv_at hl 0 rfl) ?_
      refine lv_iload_n hx hb dX6_chance_20 rfl (lv_at hl 1 rfl) ?_
      refine w_calli hw (w_runV (rest := []) C hw (mX6_eventsOf l D ad cI cL S_3 x1 _ hq _) kc_X6_eventsOf ml_X6_135 0 rO rfl rfl ⟨rfl, rfl, Nat.le_of_ble_eq_true rfl, Nat.le_of_ble_eq_true rfl⟩ rfl rfl (Nat.le_of_ble_eq_true rfl) hl.1 dX6_chance_21) ?_
      clear hw hq
      intro r_6 S_5 H locs hq hw
      refine lv_bipush (v := 8) hx hb dX6_chance_24 (by decide) ?_
      refine lv_icmp_le (tgt := 35) hx hb dX6_chance_26 (by decide) (fun hc => ?_) (fun hc => ?_)
      · replace hq := hq.1 hc
        refine lv_aload_n hx hb dX6_chance_35 rfl (lv_at hl 0 rfl) ?_
        refine lv_iload_n hx hb dX6_chance_36 rfl (lv_at hl 1 rfl) ?_
        refine lv_iload_n hx hb dX6_chance_37 rfl (lv_at hl 2 rfl) ?_
        refine w_calll hw (w_runV (rest := []) C hw (mX6_chanceOf l D ad cI cL S_5 x1 x2 _ hq _) kc_X6_chanceOf ml_X6_156 0 rO rfl rfl ⟨rfl, rfl, Nat.le_of_ble_eq_true rfl, Nat.le_of_ble_eq_true rfl⟩ rfl rfl (Nat.le_of_ble_eq_true rfl) hl.1 dX6_chance_38) ?_
        clear hw hq
        intro r_8 S_7 H locs hq hw
        exact w_lret C hw hq dX6_chance_41
      · replace hq := hq.2 hc
        refine lv_ldc2 hx hb C.2.2.2.2.1 (C.w kk_X6_154 rfl) dX6_chance_29 ?_
        refine lv_goto (tgt := 41) hx hb dX6_chance_32 (by decide) ?_
        exact w_lret C hw hq dX6_chance_41
    · replace hq := hq.1 hc
      refine lv_ldc2 hx hb C.2.2.2.2.1 (C.w kk_X6_152 rfl) dX6_chance_15 ?_
      exact w_lret C hw hq dX6_chance_18
set_option maxHeartbeats 4000000 in
set_option maxRecDepth 100000 in
theorem mX6_isSpan (l : Launch) (D : va_G) (ad : Nat → Nat) (cI cL : ClassId) (S : MS) (x1 : Int32) (x2 : Int32) (Q : Int32 → MS → Prop) (hq : wX6_isSpan S x1 x2 Q) : Mi l yX6_isSpan cX6_isSpan 3 (some .boolean) { frames := 3, cells := 0, slots := 0, locals := 66 } D (rtys cI cL) (rw_ ad cI cL) [.ref (ad 0), .int x1, .int x2] S Q := by
  refine Mi.of (by decide +kernel) (Nat.le_of_ble_eq_true rfl) ?_
  intro p e s m args below meth c A ls C hw hl
  have hx := C.1
  have hb := C.2.1
  have hl : lv_has ls 3 [(0, .ref (ad 0)), (1, .int x1), (2, .int x2)] := hl
  have hw : WW D (rtys cI cL) (rw_ ad cI cL S) A s s.heap [] := hw
  unfold wX6_isSpan at hq
  refine lv_iload_n hx hb dX6_isSpan_0 rfl (lv_at hl 1 rfl) ?_
  refine lv_iload_n hx hb dX6_isSpan_1 rfl (lv_at hl 2 rfl) ?_
  refine w_calli hw (w_runS (rest := []) C hw (mX6_areDays l D ad cI cL S x1 x2 _ hq _) kc_X6_areDays ml_X6_96 ⟨rfl, rfl, Nat.le_of_ble_eq_true rfl, Nat.le_of_ble_eq_true rfl⟩ rfl rfl (Nat.le_of_ble_eq_true rfl) hl.1 dX6_isSpan_2) ?_
  clear hw hq
  intro r_2 S_1 H locs hq hw
  refine lv_if_eq (tgt := 21) hx hb dX6_isSpan_5 (by decide) (fun hc => ?_) (fun hc => ?_)
  · replace hq := hq.1 hc
    refine lv_iconst (v := 0) hx hb dX6_isSpan_21 (by decide) ?_
    exact w_zret C hw rfl hq dX6_isSpan_22
  · replace hq := hq.2 hc
    refine lv_iload_n hx hb dX6_isSpan_8 rfl (lv_at hl 2 rfl) ?_
    refine lv_iload_n hx hb dX6_isSpan_9 rfl (lv_at hl 1 rfl) ?_
    refine lv_isub hx hb dX6_isSpan_10 ?_
    refine lv_sipush (v := 200) hx hb dX6_isSpan_11 (by decide) ?_
    refine lv_icmp_ge (tgt := 21) hx hb dX6_isSpan_14 (by decide) (fun hc => ?_) (fun hc => ?_)
    · replace hq := hq.1 hc
      refine lv_iconst (v := 0) hx hb dX6_isSpan_21 (by decide) ?_
      exact w_zret C hw rfl hq dX6_isSpan_22
    · replace hq := hq.2 hc
      refine lv_iconst (v := 1) hx hb dX6_isSpan_17 (by decide) ?_
      refine lv_goto (tgt := 22) hx hb dX6_isSpan_18 (by decide) ?_
      exact w_zret C hw rfl hq dX6_isSpan_22
set_option maxHeartbeats 4000000 in
set_option maxRecDepth 100000 in
theorem kLX6_over_41 {p : Program} {l : Launch} {e : Env} {s : State} {m : MethodId} {args : Array Value} {below : List Frame} {meth : Method} {c : Code} {D : va_G} {ad : Nat → Nat} {cI cL : ClassId} {A : Nat → Prop} (C : Cx p s m args meth c yX6_over.cls cX6_over 7 (some .long)) (x1 : Int32) (x3 : Int32) (K : MS → Int64 → Prop) (Q : Int64 → MS → Prop) (hK : ∀ (S : MS) (z4 : Int64) (H : Heap) (locs : List Loc) (ls : Array Slot), K S z4 → WW D (rtys cI cL) (rw_ ad cI cL S) A s H locs → lv_has ls 7 [(4, .long z4)] → W p l e { frames := 4, cells := 0, slots := 0, locals := 97 } s m args below meth c H locs 0 0 (Zl D (rtys cI cL) (rw_ ad cI cL) A below args s Q) (F0 m 65 ls [])) : ∀ (n : Nat) (S : MS) (x4 : Int64) (x6 : Int32) (_ : LX6_over_41 x1 x3 K Q n S x4 x6) (H : Heap) (locs : List Loc) (ls : Array Slot), WW D (rtys cI cL) (rw_ ad cI cL S) A s H locs → lv_has ls 7 [(0, .ref (ad 0)), (1, .int x1), (3, .int x3), (4, .long x4), (6, .int x6)] → W p l e { frames := 4, cells := 0, slots := 0, locals := 97 } s m args below meth c H locs 0 0 (Zl D (rtys cI cL) (rw_ ad cI cL) A below args s Q) (F0 m 41 ls []) := by
  have hx := C.1
  have hb := C.2.1
  intro n
  induction n with
  | zero => intro S x4 x6 hq; exact absurd hq (by rw [LX6_over_41]; exact id)
  | succ n ih =>
    intro S x4 x6 hq H locs ls hw hl
    rw [LX6_over_41] at hq
    refine lv_iload hx hb dX6_over_41 (lv_at hl 4 rfl) ?_
    refine lv_iload_n hx hb dX6_over_43 rfl (lv_at hl 2 rfl) ?_
    refine lv_icmp_gt (tgt := 65) hx hb dX6_over_44 (by decide) (fun hc => ?_) (fun hc => ?_)
    · replace hq := hq.1 hc
      exact hK S x4 _ _ _ hq hw (lv_sub hl [3] rfl)
    · replace hq := hq.2 hc
      refine lv_lload hx hb dX6_over_47 (lv_at hl 3 rfl) ?_
      refine lv_aload_n hx hb dX6_over_49 rfl (lv_at hl 0 rfl) ?_
      refine lv_iload_n hx hb dX6_over_50 rfl (lv_at hl 1 rfl) ?_
      refine lv_iload hx hb dX6_over_51 (lv_at hl 4 rfl) ?_
      refine w_calll hw (w_runV (rest := [.long x4]) C hw (mX6_chanceOf l D ad cI cL S x1 x6 _ hq _) kc_X6_chanceOf ml_X6_156 0 rO rfl rfl ⟨rfl, rfl, Nat.le_of_ble_eq_true rfl, Nat.le_of_ble_eq_true rfl⟩ rfl rfl (Nat.le_of_ble_eq_true rfl) hl.1 dX6_over_53) ?_
      clear hw hq
      intro r_2 S_1 H locs hq hw
      refine lv_ladd hx hb dX6_over_56 ?_
      refine lv_lstore (lv' := [(4, .long (x4 + r_2)), (0, .ref (ad 0)), (1, .int x1), (3, .int x3), (6, .int x6)]) hx hb dX6_over_57 hl (by decide) rfl (fun ls hl => ?_)
      refine lv_iinc (v := x6 + 1) (lv' := [(6, .int (x6 + 1)), (4, .long (x4 + r_2)), (0, .ref (ad 0)), (1, .int x1), (3, .int x3)]) hx hb dX6_over_59 hl (k := 4) rfl rfl (by decide) rfl (fun ls hl => ?_)
      refine lv_goto (tgt := 41) hx hb dX6_over_62 (by decide) ?_
      exact ih S_1 (x4 + r_2) (x6 + 1) hq _ _ _ hw (lv_sub hl [2, 3, 4, 1, 0] rfl)
set_option maxHeartbeats 4000000 in
set_option maxRecDepth 100000 in
theorem mX6_over (l : Launch) (D : va_G) (ad : Nat → Nat) (cI cL : ClassId) (S : MS) (x1 : Int32) (x2 : Int32) (x3 : Int32) (Q : Int64 → MS → Prop) (hq : wX6_over S x1 x2 x3 Q) : Ml l yX6_over cX6_over 7 (some .long) { frames := 4, cells := 0, slots := 0, locals := 97 } D (rtys cI cL) (rw_ ad cI cL) [.ref (ad 0), .int x1, .int x2, .int x3] S Q := by
  refine Ml.of (by decide +kernel) (Nat.le_of_ble_eq_true rfl) ?_
  intro p e s m args below meth c A ls C hw hl
  have hx := C.1
  have hb := C.2.1
  have hl : lv_has ls 7 [(0, .ref (ad 0)), (1, .int x1), (2, .int x2), (3, .int x3)] := hl
  have hw : WW D (rtys cI cL) (rw_ ad cI cL S) A s s.heap [] := hw
  unfold wX6_over at hq
  refine lv_aload_n hx hb dX6_over_0 rfl (lv_at hl 0 rfl) ?_
  refine lv_iload_n hx hb dX6_over_1 rfl (lv_at hl 1 rfl) ?_
  refine w_calli hw (w_runV (rest := []) C hw (mX6_isVote l D ad cI cL S x1 _ hq _) kc_X6_isVote ml_X6_130 0 rO rfl rfl ⟨rfl, rfl, Nat.le_of_ble_eq_true rfl, Nat.le_of_ble_eq_true rfl⟩ rfl rfl (Nat.le_of_ble_eq_true rfl) hl.1 dX6_over_2) ?_
  clear hw hq
  intro r_2 S_1 H locs hq hw
  refine lv_if_eq (tgt := 17) hx hb dX6_over_5 (by decide) (fun hc => ?_) (fun hc => ?_)
  · replace hq := hq.1 hc
    refine lv_ldc2 hx hb C.2.2.2.2.1 (C.w kk_X6_152 rfl) dX6_over_17 ?_
    exact w_lret C hw hq dX6_over_20
  · replace hq := hq.2 hc
    refine lv_aload_n hx hb dX6_over_8 rfl (lv_at hl 0 rfl) ?_
    refine lv_iload_n hx hb dX6_over_9 rfl (lv_at hl 2 rfl) ?_
    refine lv_iload_n hx hb dX6_over_10 rfl (lv_at hl 3 rfl) ?_
    refine w_calli hw (w_runV (rest := []) C hw (mX6_isSpan l D ad cI cL S_1 x2 x3 _ hq _) kc_X6_isSpan ml_X6_160 0 rO rfl rfl ⟨rfl, rfl, Nat.le_of_ble_eq_true rfl, Nat.le_of_ble_eq_true rfl⟩ rfl rfl (Nat.le_of_ble_eq_true rfl) hl.1 dX6_over_11) ?_
    clear hw hq
    intro r_4 S_3 H locs hq hw
    refine lv_if_ne (tgt := 21) hx hb dX6_over_14 (by decide) (fun hc => ?_) (fun hc => ?_)
    · replace hq := hq.2 hc
      refine lv_aload_n hx hb dX6_over_21 rfl (lv_at hl 0 rfl) ?_
      refine lv_iload_n hx hb dX6_over_22 rfl (lv_at hl 1 rfl) ?_
      refine w_calli hw (w_runV (rest := []) C hw (mX6_eventsOf l D ad cI cL S_3 x1 _ hq _) kc_X6_eventsOf ml_X6_135 0 rO rfl rfl ⟨rfl, rfl, Nat.le_of_ble_eq_true rfl, Nat.le_of_ble_eq_true rfl⟩ rfl rfl (Nat.le_of_ble_eq_true rfl) hl.1 dX6_over_23) ?_
      clear hw hq
      intro r_6 S_5 H locs hq hw
      refine lv_bipush (v := 8) hx hb dX6_over_26 (by decide) ?_
      refine lv_icmp_le (tgt := 35) hx hb dX6_over_28 (by decide) (fun hc => ?_) (fun hc => ?_)
      · replace hq := hq.1 hc
        refine lv_lconst (v := 0) hx hb dX6_over_35 (by decide) ?_
        refine lv_lstore (lv' := [(4, .long 0), (0, .ref (ad 0)), (1, .int x1), (2, .int x2), (3, .int x3)]) hx hb dX6_over_36 hl (by decide) rfl (fun ls hl => ?_)
        refine lv_iload_n hx hb dX6_over_38 rfl (lv_at hl 3 rfl) ?_
        refine lv_istore (lv' := [(6, .int x2), (4, .long 0), (0, .ref (ad 0)), (1, .int x1), (2, .int x2), (3, .int x3)]) hx hb dX6_over_39 hl (by decide) rfl (fun ls hl => ?_)
        obtain ⟨n0, hq⟩ := hq
        refine kLX6_over_41 C x1 x3 _ Q ?_ n0 S_5 0 x2 hq _ _ _ hw (lv_sub hl [2, 3, 5, 1, 0] rfl)
        clear hw hl hq
        intro S_7 y_8 H locs ls hq hw hl
        refine lv_lload hx hb dX6_over_65 (lv_at hl 0 rfl) ?_
        exact w_lret C hw hq dX6_over_67
      · replace hq := hq.2 hc
        refine lv_ldc2 hx hb C.2.2.2.2.1 (C.w kk_X6_154 rfl) dX6_over_31 ?_
        exact w_lret C hw hq dX6_over_34
    · replace hq := hq.1 hc
      refine lv_ldc2 hx hb C.2.2.2.2.1 (C.w kk_X6_152 rfl) dX6_over_17 ?_
      exact w_lret C hw hq dX6_over_20
set_option maxHeartbeats 4000000 in
set_option maxRecDepth 100000 in
theorem kLX6_broken_47 {p : Program} {l : Launch} {e : Env} {s : State} {m : MethodId} {args : Array Value} {below : List Frame} {meth : Method} {c : Code} {D : va_G} {ad : Nat → Nat} {cI cL : ClassId} {A : Nat → Prop} (C : Cx p s m args meth c yX6_broken.cls cX6_broken 7 (some .int)) (x1 : Int32) (x3 : Int32) (x4 : Int64) (K : MS → Prop) (Q : Int32 → MS → Prop) (hK : ∀ (S : MS) (H : Heap) (locs : List Loc) (ls : Array Slot), K S  → WW D (rtys cI cL) (rw_ ad cI cL S) A s H locs → lv_has ls 7 [] → W p l e { frames := 4, cells := 0, slots := 0, locals := 97 } s m args below meth c H locs 0 0 (Zi D (rtys cI cL) (rw_ ad cI cL) A below args s Q) (F0 m 75 ls [])) : ∀ (n : Nat) (S : MS) (x6 : Int32) (_ : LX6_broken_47 x1 x3 x4 K Q n S x6) (H : Heap) (locs : List Loc) (ls : Array Slot), WW D (rtys cI cL) (rw_ ad cI cL S) A s H locs → lv_has ls 7 [(0, .ref (ad 0)), (1, .int x1), (3, .int x3), (4, .long x4), (6, .int x6)] → W p l e { frames := 4, cells := 0, slots := 0, locals := 97 } s m args below meth c H locs 0 0 (Zi D (rtys cI cL) (rw_ ad cI cL) A below args s Q) (F0 m 47 ls []) := by
  have hx := C.1
  have hb := C.2.1
  intro n
  induction n with
  | zero => intro S x6 hq; exact absurd hq (by rw [LX6_broken_47]; exact id)
  | succ n ih =>
    intro S x6 hq H locs ls hw hl
    rw [LX6_broken_47] at hq
    refine lv_iload hx hb dX6_broken_47 (lv_at hl 4 rfl) ?_
    refine lv_iload_n hx hb dX6_broken_49 rfl (lv_at hl 2 rfl) ?_
    refine lv_icmp_gt (tgt := 75) hx hb dX6_broken_50 (by decide) (fun hc => ?_) (fun hc => ?_)
    · replace hq := hq.1 hc
      exact hK S  _ _ _ hq hw (lv_sub hl [] rfl)
    · replace hq := hq.2 hc
      refine lv_aload_n hx hb dX6_broken_53 rfl (lv_at hl 0 rfl) ?_
      refine lv_iload_n hx hb dX6_broken_54 rfl (lv_at hl 1 rfl) ?_
      refine lv_iload hx hb dX6_broken_55 (lv_at hl 4 rfl) ?_
      refine w_calll hw (w_runV (rest := []) C hw (mX6_chanceOf l D ad cI cL S x1 x6 _ hq _) kc_X6_chanceOf ml_X6_156 0 rO rfl rfl ⟨rfl, rfl, Nat.le_of_ble_eq_true rfl, Nat.le_of_ble_eq_true rfl⟩ rfl rfl (Nat.le_of_ble_eq_true rfl) hl.1 dX6_broken_57) ?_
      clear hw hq
      intro r_2 S_1 H locs hq hw
      refine lv_lload hx hb dX6_broken_60 (lv_at hl 3 rfl) ?_
      refine W.lcmp hx hb dX6_broken_62 ?_
      refine lv_if_le (tgt := 69) hx hb dX6_broken_63 (by decide) (fun hc => ?_) (fun hc => ?_)
      · replace hq := hq.1 hc
        refine lv_iinc (v := x6 + 1) (lv' := [(6, .int (x6 + 1)), (0, .ref (ad 0)), (1, .int x1), (3, .int x3), (4, .long x4)]) hx hb dX6_broken_69 hl (k := 4) rfl rfl (by decide) rfl (fun ls hl => ?_)
        refine lv_goto (tgt := 47) hx hb dX6_broken_72 (by decide) ?_
        exact ih S_1 (x6 + 1) hq _ _ _ hw (lv_sub hl [1, 2, 3, 4, 0] rfl)
      · replace hq := hq.2 hc
        refine lv_iload hx hb dX6_broken_66 (lv_at hl 4 rfl) ?_
        exact w_iret C hw hq dX6_broken_68
set_option maxHeartbeats 4000000 in
set_option maxRecDepth 100000 in
theorem mX6_broken (l : Launch) (D : va_G) (ad : Nat → Nat) (cI cL : ClassId) (S : MS) (x1 : Int32) (x2 : Int32) (x3 : Int32) (x4 : Int64) (Q : Int32 → MS → Prop) (hq : wX6_broken S x1 x2 x3 x4 Q) : Mi l yX6_broken cX6_broken 7 (some .int) { frames := 4, cells := 0, slots := 0, locals := 97 } D (rtys cI cL) (rw_ ad cI cL) [.ref (ad 0), .int x1, .int x2, .int x3, .long x4] S Q := by
  refine Mi.of (by decide +kernel) (Nat.le_of_ble_eq_true rfl) ?_
  intro p e s m args below meth c A ls C hw hl
  have hx := C.1
  have hb := C.2.1
  have hl : lv_has ls 7 [(0, .ref (ad 0)), (1, .int x1), (2, .int x2), (3, .int x3), (4, .long x4)] := hl
  have hw : WW D (rtys cI cL) (rw_ ad cI cL S) A s s.heap [] := hw
  unfold wX6_broken at hq
  refine lv_aload_n hx hb dX6_broken_0 rfl (lv_at hl 0 rfl) ?_
  refine lv_iload_n hx hb dX6_broken_1 rfl (lv_at hl 1 rfl) ?_
  refine w_calli hw (w_runV (rest := []) C hw (mX6_isVote l D ad cI cL S x1 _ hq _) kc_X6_isVote ml_X6_130 0 rO rfl rfl ⟨rfl, rfl, Nat.le_of_ble_eq_true rfl, Nat.le_of_ble_eq_true rfl⟩ rfl rfl (Nat.le_of_ble_eq_true rfl) hl.1 dX6_broken_2) ?_
  clear hw hq
  intro r_2 S_1 H locs hq hw
  refine lv_if_eq (tgt := 29) hx hb dX6_broken_5 (by decide) (fun hc => ?_) (fun hc => ?_)
  · replace hq := hq.1 hc
    refine lv_iconst (v := (-1)) hx hb dX6_broken_29 (by decide) ?_
    exact w_iret C hw hq dX6_broken_30
  · replace hq := hq.2 hc
    refine lv_aload_n hx hb dX6_broken_8 rfl (lv_at hl 0 rfl) ?_
    refine lv_iload_n hx hb dX6_broken_9 rfl (lv_at hl 2 rfl) ?_
    refine lv_iload_n hx hb dX6_broken_10 rfl (lv_at hl 3 rfl) ?_
    refine w_calli hw (w_runV (rest := []) C hw (mX6_isSpan l D ad cI cL S_1 x2 x3 _ hq _) kc_X6_isSpan ml_X6_160 0 rO rfl rfl ⟨rfl, rfl, Nat.le_of_ble_eq_true rfl, Nat.le_of_ble_eq_true rfl⟩ rfl rfl (Nat.le_of_ble_eq_true rfl) hl.1 dX6_broken_11) ?_
    clear hw hq
    intro r_4 S_3 H locs hq hw
    refine lv_if_eq (tgt := 29) hx hb dX6_broken_14 (by decide) (fun hc => ?_) (fun hc => ?_)
    · replace hq := hq.1 hc
      refine lv_iconst (v := (-1)) hx hb dX6_broken_29 (by decide) ?_
      exact w_iret C hw hq dX6_broken_30
    · replace hq := hq.2 hc
      refine lv_lload hx hb dX6_broken_17 (lv_at hl 4 rfl) ?_
      refine lv_lconst (v := 0) hx hb dX6_broken_19 (by decide) ?_
      refine lv_ldc2 hx hb C.2.2.2.2.1 (C.w kk_X6_163 rfl) dX6_broken_20 ?_
      refine w_calli hw (w_runS (rest := []) C hw (mX6_in l D ad cI cL S_3 x4 0 281474976710656 _ hq _) kc_X6_in ml_X6_78 ⟨rfl, rfl, Nat.le_of_ble_eq_true rfl, Nat.le_of_ble_eq_true rfl⟩ rfl rfl (Nat.le_of_ble_eq_true rfl) hl.1 dX6_broken_23) ?_
      clear hw hq
      intro r_6 S_5 H locs hq hw
      refine lv_if_ne (tgt := 31) hx hb dX6_broken_26 (by decide) (fun hc => ?_) (fun hc => ?_)
      · replace hq := hq.2 hc
        refine lv_aload_n hx hb dX6_broken_31 rfl (lv_at hl 0 rfl) ?_
        refine lv_iload_n hx hb dX6_broken_32 rfl (lv_at hl 1 rfl) ?_
        refine w_calli hw (w_runV (rest := []) C hw (mX6_eventsOf l D ad cI cL S_5 x1 _ hq _) kc_X6_eventsOf ml_X6_135 0 rO rfl rfl ⟨rfl, rfl, Nat.le_of_ble_eq_true rfl, Nat.le_of_ble_eq_true rfl⟩ rfl rfl (Nat.le_of_ble_eq_true rfl) hl.1 dX6_broken_33) ?_
        clear hw hq
        intro r_8 S_7 H locs hq hw
        refine lv_bipush (v := 8) hx hb dX6_broken_36 (by decide) ?_
        refine lv_icmp_le (tgt := 44) hx hb dX6_broken_38 (by decide) (fun hc => ?_) (fun hc => ?_)
        · replace hq := hq.1 hc
          refine lv_iload_n hx hb dX6_broken_44 rfl (lv_at hl 2 rfl) ?_
          refine lv_istore (lv' := [(6, .int x2), (0, .ref (ad 0)), (1, .int x1), (2, .int x2), (3, .int x3), (4, .long x4)]) hx hb dX6_broken_45 hl (by decide) rfl (fun ls hl => ?_)
          obtain ⟨n0, hq⟩ := hq
          refine kLX6_broken_47 C x1 x3 x4 _ Q ?_ n0 S_7 x2 hq _ _ _ hw (lv_sub hl [1, 2, 4, 5, 0] rfl)
          clear hw hl hq
          intro S_9 H locs ls hq hw hl
          refine lv_bipush (v := (-4)) hx hb dX6_broken_75 (by decide) ?_
          exact w_iret C hw hq dX6_broken_77
        · replace hq := hq.2 hc
          refine lv_bipush (v := (-2)) hx hb dX6_broken_41 (by decide) ?_
          exact w_iret C hw hq dX6_broken_43
      · replace hq := hq.1 hc
        refine lv_iconst (v := (-1)) hx hb dX6_broken_29 (by decide) ?_
        exact w_iret C hw hq dX6_broken_30
set_option maxHeartbeats 4000000 in
set_option maxRecDepth 100000 in
theorem kJX6_nothing_68 {p : Program} {l : Launch} {e : Env} {s : State} {m : MethodId} {args : Array Value} {below : List Frame} {meth : Method} {c : Code} {D : va_G} {ad : Nat → Nat} {cI cL : ClassId} {A : Nat → Prop} (C : Cx p s m args meth c yX6_nothing.cls cX6_nothing 4 (some .long)) (S : MS) (x1 : Int32) (x2 : Int32) (x3 : Int32) (Hd : MS → Int32 → Prop) (K : MS → Prop) (Q : Int64 → MS → Prop) (hq : JX6_nothing_68 S x1 x2 x3 Hd K Q) (H : Heap) (locs : List Loc) (ls : Array Slot) (hw : WW D (rtys cI cL) (rw_ ad cI cL S) A s H locs) (hl : lv_has ls 4 [(0, .ref (ad 0)), (1, .int x1), (2, .int x2), (3, .int x3)]) (hH : ∀ (S : MS) (z3 : Int32) (H : Heap) (locs : List Loc) (ls : Array Slot), Hd S z3 → WW D (rtys cI cL) (rw_ ad cI cL S) A s H locs → lv_has ls 4 [(0, .ref (ad 0)), (1, .int x1), (2, .int x2), (3, .int z3)] → W p l e { frames := 2, cells := 0, slots := 0, locals := 56 } s m args below meth c H locs 0 0 (Zl D (rtys cI cL) (rw_ ad cI cL) A below args s Q) (F0 m 38 ls [])) (hK : ∀ (S : MS) (H : Heap) (locs : List Loc) (ls : Array Slot), K S  → WW D (rtys cI cL) (rw_ ad cI cL S) A s H locs → lv_has ls 4 [(0, .ref (ad 0)), (1, .int x1)] → W p l e { frames := 2, cells := 0, slots := 0, locals := 56 } s m args below meth c H locs 0 0 (Zl D (rtys cI cL) (rw_ ad cI cL) A below args s Q) (F0 m 74 ls [])) : W p l e { frames := 2, cells := 0, slots := 0, locals := 56 } s m args below meth c H locs 0 0 (Zl D (rtys cI cL) (rw_ ad cI cL) A below args s Q) (F0 m 68 ls []) := by
  have hx := C.1
  have hb := C.2.1
  unfold JX6_nothing_68 at hq
  refine lv_iinc (v := x3 + 1) (lv' := [(3, .int (x3 + 1)), (0, .ref (ad 0)), (1, .int x1), (2, .int x2)]) hx hb dX6_nothing_68 hl (k := 3) rfl rfl (by decide) rfl (fun ls hl => ?_)
  refine lv_goto (tgt := 38) hx hb dX6_nothing_71 (by decide) ?_
  exact hH S (x3 + 1) _ _ _ hq hw (lv_sub hl [1, 2, 3, 0] rfl)
set_option maxHeartbeats 4000000 in
set_option maxRecDepth 100000 in
theorem kLX6_nothing_38 {p : Program} {l : Launch} {e : Env} {s : State} {m : MethodId} {args : Array Value} {below : List Frame} {meth : Method} {c : Code} {D : va_G} {ad : Nat → Nat} {cI cL : ClassId} {A : Nat → Prop} (C : Cx p s m args meth c yX6_nothing.cls cX6_nothing 4 (some .long)) (x1 : Int32) (x2 : Int32) (K : MS → Prop) (Q : Int64 → MS → Prop) (hK : ∀ (S : MS) (H : Heap) (locs : List Loc) (ls : Array Slot), K S  → WW D (rtys cI cL) (rw_ ad cI cL S) A s H locs → lv_has ls 4 [(0, .ref (ad 0)), (1, .int x1)] → W p l e { frames := 2, cells := 0, slots := 0, locals := 56 } s m args below meth c H locs 0 0 (Zl D (rtys cI cL) (rw_ ad cI cL) A below args s Q) (F0 m 74 ls [])) : ∀ (n : Nat) (S : MS) (x3 : Int32) (_ : LX6_nothing_38 x1 x2 K Q n S x3) (H : Heap) (locs : List Loc) (ls : Array Slot), WW D (rtys cI cL) (rw_ ad cI cL S) A s H locs → lv_has ls 4 [(0, .ref (ad 0)), (1, .int x1), (2, .int x2), (3, .int x3)] → W p l e { frames := 2, cells := 0, slots := 0, locals := 56 } s m args below meth c H locs 0 0 (Zl D (rtys cI cL) (rw_ ad cI cL) A below args s Q) (F0 m 38 ls []) := by
  have hx := C.1
  have hb := C.2.1
  intro n
  induction n with
  | zero => intro S x3 hq; exact absurd hq (by rw [LX6_nothing_38]; exact id)
  | succ n ih =>
    intro S x3 hq H locs ls hw hl
    rw [LX6_nothing_38] at hq
    refine lv_iload_n hx hb dX6_nothing_38 rfl (lv_at hl 3 rfl) ?_
    refine lv_aload_n hx hb dX6_nothing_39 rfl (lv_at hl 0 rfl) ?_
    refine w_get C hw uw_X6 0 rO rfl 0 (by decide) fl_X6_74 rfl dX6_nothing_40 ?_
    refine lv_icmp_ge (tgt := 74) hx hb dX6_nothing_43 (by decide) (fun hc => ?_) (fun hc => ?_)
    · replace hq := hq.1 hc
      exact hK S  _ _ _ hq hw (lv_sub hl [0, 1] rfl)
    · replace hq := hq.2 hc
      refine lv_iload_n hx hb dX6_nothing_46 rfl (lv_at hl 2 rfl) ?_
      refine lv_iload_n hx hb dX6_nothing_47 rfl (lv_at hl 3 rfl) ?_
      refine lv_ishr hx hb dX6_nothing_48 ?_
      refine lv_iconst (v := 1) hx hb dX6_nothing_49 (by decide) ?_
      refine lv_iand hx hb dX6_nothing_50 ?_
      refine lv_iconst (v := 1) hx hb dX6_nothing_51 (by decide) ?_
      refine lv_icmp_ne (tgt := 68) hx hb dX6_nothing_52 (by decide) (fun hc => ?_) (fun hc => ?_)
      · replace hq := hq.2 hc
        exact kJX6_nothing_68 C S x1 x2 x3 _ K Q hq _ _ _ hw (lv_sub hl [0, 1, 2, 3] rfl) (fun S a3 H locs ls hq hw hl => ih S a3 hq H locs ls hw hl) hK
      · replace hq := hq.1 hc
        refine lv_aload_n hx hb dX6_nothing_55 rfl (lv_at hl 0 rfl) ?_
        refine lv_aload_n hx hb dX6_nothing_56 rfl (lv_at hl 0 rfl) ?_
        refine w_get C hw uw_X6 0 rO rfl 3 (by decide) fl_X6_16 rfl dX6_nothing_57 ?_
        refine lv_iload_n hx hb dX6_nothing_60 rfl (lv_at hl 3 rfl) ?_
        obtain ⟨hin, hq⟩ := hq
        refine w_ild C hw 3 0 rI_2 rfl hin dX6_nothing_61 ?_
        refine lv_iconst (v := 1) hx hb dX6_nothing_62 (by decide) ?_
        refine lv_iload_n hx hb dX6_nothing_63 rfl (lv_at hl 3 rfl) ?_
        refine lv_ishl hx hb dX6_nothing_64 ?_
        refine w_callv hw (w_runV (rest := []) C hw (mX6_adds l D ad cI cL S (S.1 2 x3.toNatClampNeg) ((1 : Int32) <<< (x3 &&& 31)) _ hq _) kc_X6_adds ml_X6_144 0 rO rfl rfl ⟨rfl, rfl, Nat.le_of_ble_eq_true rfl, Nat.le_of_ble_eq_true rfl⟩ rfl rfl (Nat.le_of_ble_eq_true rfl) hl.1 dX6_nothing_65) ?_
        clear hw hq
        intro S_1 H locs hq hw
        exact kJX6_nothing_68 C S_1 x1 x2 x3 _ K Q hq _ _ _ hw (lv_sub hl [0, 1, 2, 3] rfl) (fun S a3 H locs ls hq hw hl => ih S a3 hq H locs ls hw hl) hK
set_option maxHeartbeats 4000000 in
set_option maxRecDepth 100000 in
theorem mX6_nothing (l : Launch) (D : va_G) (ad : Nat → Nat) (cI cL : ClassId) (S : MS) (x1 : Int32) (Q : Int64 → MS → Prop) (hq : wX6_nothing S x1 Q) : Ml l yX6_nothing cX6_nothing 4 (some .long) { frames := 2, cells := 0, slots := 0, locals := 56 } D (rtys cI cL) (rw_ ad cI cL) [.ref (ad 0), .int x1] S Q := by
  refine Ml.of (by decide +kernel) (Nat.le_of_ble_eq_true rfl) ?_
  intro p e s m args below meth c A ls C hw hl
  have hx := C.1
  have hb := C.2.1
  have hl : lv_has ls 4 [(0, .ref (ad 0)), (1, .int x1)] := hl
  have hw : WW D (rtys cI cL) (rw_ ad cI cL S) A s s.heap [] := hw
  unfold wX6_nothing at hq
  refine lv_aload_n hx hb dX6_nothing_0 rfl (lv_at hl 0 rfl) ?_
  refine lv_iload_n hx hb dX6_nothing_1 rfl (lv_at hl 1 rfl) ?_
  refine w_calli hw (w_runV (rest := []) C hw (mX6_isVote l D ad cI cL S x1 _ hq _) kc_X6_isVote ml_X6_130 0 rO rfl rfl ⟨rfl, rfl, Nat.le_of_ble_eq_true rfl, Nat.le_of_ble_eq_true rfl⟩ rfl rfl (Nat.le_of_ble_eq_true rfl) hl.1 dX6_nothing_2) ?_
  clear hw hq
  intro r_2 S_1 H locs hq hw
  refine lv_if_ne (tgt := 12) hx hb dX6_nothing_5 (by decide) (fun hc => ?_) (fun hc => ?_)
  · replace hq := hq.2 hc
    refine lv_aload_n hx hb dX6_nothing_12 rfl (lv_at hl 0 rfl) ?_
    refine lv_iload_n hx hb dX6_nothing_13 rfl (lv_at hl 1 rfl) ?_
    refine w_calli hw (w_runV (rest := []) C hw (mX6_partsOf l D ad cI cL S_1 x1 _ hq _) kc_X6_partsOf ml_X6_124 0 rO rfl rfl ⟨rfl, rfl, Nat.le_of_ble_eq_true rfl, Nat.le_of_ble_eq_true rfl⟩ rfl rfl (Nat.le_of_ble_eq_true rfl) hl.1 dX6_nothing_14) ?_
    clear hw hq
    intro r_4 S_3 H locs hq hw
    refine lv_istore_n (lv' := [(2, .int r_4), (0, .ref (ad 0)), (1, .int x1)]) hx hb dX6_nothing_17 rfl hl (by decide) rfl (fun ls hl => ?_)
    refine lv_iload_n hx hb dX6_nothing_18 rfl (lv_at hl 0 rfl) ?_
    refine w_calli hw (w_runS (rest := []) C hw (mX6_bits l D ad cI cL S_3 r_4 _ hq _) kc_X6_bits ml_X6_106 ⟨rfl, rfl, Nat.le_of_ble_eq_true rfl, Nat.le_of_ble_eq_true rfl⟩ rfl rfl (Nat.le_of_ble_eq_true rfl) hl.1 dX6_nothing_19) ?_
    clear hw hq
    intro r_6 S_5 H locs hq hw
    refine lv_bipush (v := 8) hx hb dX6_nothing_22 (by decide) ?_
    refine lv_icmp_le (tgt := 31) hx hb dX6_nothing_24 (by decide) (fun hc => ?_) (fun hc => ?_)
    · replace hq := hq.1 hc
      refine lv_aload_n hx hb dX6_nothing_31 rfl (lv_at hl 1 rfl) ?_
      refine lv_iconst (v := 0) hx hb dX6_nothing_32 (by decide) ?_
      obtain ⟨S_7, eS_7⟩ : ∃ z, z = uF S_5 4 0 := ⟨_, rfl⟩
      replace hq := hq S_7 eS_7
      refine w_put (ws' := rw_ ad cI cL S_7) C hw uw_X6 tyX6 tyX6_ok nmX6 0 rO rfl 22 (by decide) fl_X6_138 rfl (by decide +kernel) (Nat.le_of_ble_eq_true rfl) dX6_nothing_33 (by rw [eS_7]; exact rFs_4) (fun H locs hw => ?_)
      refine lv_iconst (v := 0) hx hb dX6_nothing_36 (by decide) ?_
      refine lv_istore_n (lv' := [(3, .int 0), (2, .int r_4), (0, .ref (ad 0)), (1, .int x1)]) hx hb dX6_nothing_37 rfl hl (by decide) rfl (fun ls hl => ?_)
      obtain ⟨n0, hq⟩ := hq
      refine kLX6_nothing_38 C x1 r_4 _ Q ?_ n0 S_7 0 hq _ _ _ hw (lv_sub hl [2, 3, 1, 0] rfl)
      clear hw hl hq
      intro S_8 H locs ls hq hw hl
      refine lv_aload_n hx hb dX6_nothing_74 rfl (lv_at hl 0 rfl) ?_
      refine lv_iload_n hx hb dX6_nothing_75 rfl (lv_at hl 1 rfl) ?_
      refine lv_iconst (v := 0) hx hb dX6_nothing_76 (by decide) ?_
      refine w_calll hw (w_runV (rest := []) C hw (mX6_sums l D ad cI cL S_8 x1 0 _ hq _) kc_X6_sums ml_X6_148 0 rO rfl rfl ⟨rfl, rfl, Nat.le_of_ble_eq_true rfl, Nat.le_of_ble_eq_true rfl⟩ rfl rfl (Nat.le_of_ble_eq_true rfl) hl.1 dX6_nothing_77) ?_
      clear hw hq
      intro r_10 S_9 H locs hq hw
      exact w_lret C hw hq dX6_nothing_80
    · replace hq := hq.2 hc
      refine lv_ldc2 hx hb C.2.2.2.2.1 (C.w kk_X6_154 rfl) dX6_nothing_27 ?_
      exact w_lret C hw hq dX6_nothing_30
  · replace hq := hq.1 hc
    refine lv_ldc2 hx hb C.2.2.2.2.1 (C.w kk_X6_152 rfl) dX6_nothing_8 ?_
    exact w_lret C hw hq dX6_nothing_11
set_option maxHeartbeats 4000000 in
set_option maxRecDepth 100000 in
theorem mX6_mattersOf (l : Launch) (D : va_G) (ad : Nat → Nat) (cI cL : ClassId) (S : MS) (x1 : Int32) (x2 : Int32) (x3 : Int32) (Q : Int64 → MS → Prop) (hq : wX6_mattersOf S x1 x2 x3 Q) : Ml l yX6_mattersOf cX6_mattersOf 6 (some .long) { frames := 4, cells := 0, slots := 0, locals := 97 } D (rtys cI cL) (rw_ ad cI cL) [.ref (ad 0), .int x1, .int x2, .int x3] S Q := by
  refine Ml.of (by decide +kernel) (Nat.le_of_ble_eq_true rfl) ?_
  intro p e s m args below meth c A ls C hw hl
  have hx := C.1
  have hb := C.2.1
  have hl : lv_has ls 6 [(0, .ref (ad 0)), (1, .int x1), (2, .int x2), (3, .int x3)] := hl
  have hw : WW D (rtys cI cL) (rw_ ad cI cL S) A s s.heap [] := hw
  unfold wX6_mattersOf at hq
  refine lv_aload_n hx hb dX6_mattersOf_0 rfl (lv_at hl 0 rfl) ?_
  refine lv_iload_n hx hb dX6_mattersOf_1 rfl (lv_at hl 1 rfl) ?_
  refine w_calli hw (w_runV (rest := []) C hw (mX6_partsOf l D ad cI cL S x1 _ hq _) kc_X6_partsOf ml_X6_124 0 rO rfl rfl ⟨rfl, rfl, Nat.le_of_ble_eq_true rfl, Nat.le_of_ble_eq_true rfl⟩ rfl rfl (Nat.le_of_ble_eq_true rfl) hl.1 dX6_mattersOf_2) ?_
  clear hw hq
  intro r_2 S_1 H locs hq hw
  refine lv_iload_n hx hb dX6_mattersOf_5 rfl (lv_at hl 2 rfl) ?_
  refine lv_ishr hx hb dX6_mattersOf_6 ?_
  refine lv_iconst (v := 1) hx hb dX6_mattersOf_7 (by decide) ?_
  refine lv_iand hx hb dX6_mattersOf_8 ?_
  refine lv_if_ne (tgt := 14) hx hb dX6_mattersOf_9 (by decide) (fun hc => ?_) (fun hc => ?_)
  · replace hq := hq.2 hc
    refine lv_aload_n hx hb dX6_mattersOf_14 rfl (lv_at hl 0 rfl) ?_
    refine w_get C hw uw_X6 0 rO rfl 8 (by decide) fl_X6_31 rfl dX6_mattersOf_15 ?_
    refine lv_iload_n hx hb dX6_mattersOf_18 rfl (lv_at hl 2 rfl) ?_
    refine lv_bipush (v := 64) hx hb dX6_mattersOf_19 (by decide) ?_
    obtain ⟨hin, hq⟩ := hq
    obtain ⟨S_3, eS_3⟩ : ∃ z, z = uI S_1 7 x2.toNatClampNeg 64 := ⟨_, rfl⟩
    replace hq := hq S_3 eS_3
    refine w_ist (ws' := rw_ ad cI cL S_3) C hw 8 0 rI_7 rfl hin dX6_mattersOf_21 (by rw [eS_3]; exact rIs_7) (fun H locs hw => ?_)
    refine lv_aload_n hx hb dX6_mattersOf_22 rfl (lv_at hl 0 rfl) ?_
    refine lv_iload_n hx hb dX6_mattersOf_23 rfl (lv_at hl 1 rfl) ?_
    refine lv_iload_n hx hb dX6_mattersOf_24 rfl (lv_at hl 3 rfl) ?_
    refine w_calll hw (w_runV (rest := []) C hw (mX6_chanceOf l D ad cI cL S_3 x1 x3 _ hq _) kc_X6_chanceOf ml_X6_156 0 rO rfl rfl ⟨rfl, rfl, Nat.le_of_ble_eq_true rfl, Nat.le_of_ble_eq_true rfl⟩ rfl rfl (Nat.le_of_ble_eq_true rfl) hl.1 dX6_mattersOf_25) ?_
    clear hw hq
    intro r_5 S_4 H locs hq hw
    refine lv_lstore (lv' := [(4, .long r_5), (0, .ref (ad 0)), (1, .int x1), (2, .int x2), (3, .int x3)]) hx hb dX6_mattersOf_28 hl (by decide) rfl (fun ls hl => ?_)
    refine lv_aload_n hx hb dX6_mattersOf_30 rfl (lv_at hl 1 rfl) ?_
    refine w_get C hw uw_X6 0 rO rfl 8 (by decide) fl_X6_31 rfl dX6_mattersOf_31 ?_
    refine lv_iload_n hx hb dX6_mattersOf_34 rfl (lv_at hl 3 rfl) ?_
    refine lv_iconst (v := 0) hx hb dX6_mattersOf_35 (by decide) ?_
    obtain ⟨hin, hq⟩ := hq
    obtain ⟨S_6, eS_6⟩ : ∃ z, z = uI S_4 7 x2.toNatClampNeg 0 := ⟨_, rfl⟩
    replace hq := hq S_6 eS_6
    refine w_ist (ws' := rw_ ad cI cL S_6) C hw 8 0 rI_7 rfl hin dX6_mattersOf_36 (by rw [eS_6]; exact rIs_7) (fun H locs hw => ?_)
    refine lv_lload hx hb dX6_mattersOf_37 (lv_at hl 0 rfl) ?_
    refine lv_aload_n hx hb dX6_mattersOf_39 rfl (lv_at hl 1 rfl) ?_
    refine lv_iload_n hx hb dX6_mattersOf_40 rfl (lv_at hl 2 rfl) ?_
    refine lv_iload_n hx hb dX6_mattersOf_41 rfl (lv_at hl 4 rfl) ?_
    refine w_calll hw (w_runV (rest := [.long r_5]) C hw (mX6_chanceOf l D ad cI cL S_6 x1 x3 _ hq _) kc_X6_chanceOf ml_X6_156 0 rO rfl rfl ⟨rfl, rfl, Nat.le_of_ble_eq_true rfl, Nat.le_of_ble_eq_true rfl⟩ rfl rfl (Nat.le_of_ble_eq_true rfl) hl.1 dX6_mattersOf_42) ?_
    clear hw hq
    intro r_8 S_7 H locs hq hw
    refine lv_lsub hx hb dX6_mattersOf_45 ?_
    refine lv_lstore (lv' := [(4, .long (r_5 - r_8)), (0, .ref (ad 0)), (1, .int x1), (2, .int x2), (3, .int x3)]) hx hb dX6_mattersOf_46 hl (by decide) rfl (fun ls hl => ?_)
    refine lv_aload_n hx hb dX6_mattersOf_48 rfl (lv_at hl 1 rfl) ?_
    refine w_get C hw uw_X6 0 rO rfl 8 (by decide) fl_X6_31 rfl dX6_mattersOf_49 ?_
    refine lv_iload_n hx hb dX6_mattersOf_52 rfl (lv_at hl 3 rfl) ?_
    refine lv_iconst (v := (-1)) hx hb dX6_mattersOf_53 (by decide) ?_
    obtain ⟨hin, hq⟩ := hq
    obtain ⟨S_9, eS_9⟩ : ∃ z, z = uI S_7 7 x2.toNatClampNeg (-1) := ⟨_, rfl⟩
    replace hq := hq S_9 eS_9
    refine w_ist (ws' := rw_ ad cI cL S_9) C hw 8 0 rI_7 rfl hin dX6_mattersOf_54 (by rw [eS_9]; exact rIs_7) (fun H locs hw => ?_)
    refine lv_lload hx hb dX6_mattersOf_55 (lv_at hl 0 rfl) ?_
    exact w_lret C hw hq dX6_mattersOf_57
  · replace hq := hq.1 hc
    refine lv_lconst (v := 0) hx hb dX6_mattersOf_12 (by decide) ?_
    exact w_lret C hw hq dX6_mattersOf_13
set_option maxHeartbeats 4000000 in
set_option maxRecDepth 100000 in
theorem mX6_matters (l : Launch) (D : va_G) (ad : Nat → Nat) (cI cL : ClassId) (S : MS) (x1 : Int32) (x2 : Int32) (x3 : Int32) (Q : Int64 → MS → Prop) (hq : wX6_matters S x1 x2 x3 Q) : Ml l yX6_matters cX6_matters 4 (some .long) { frames := 5, cells := 0, slots := 0, locals := 122 } D (rtys cI cL) (rw_ ad cI cL) [.ref (ad 0), .int x1, .int x2, .int x3] S Q := by
  refine Ml.of (by decide +kernel) (Nat.le_of_ble_eq_true rfl) ?_
  intro p e s m args below meth c A ls C hw hl
  have hx := C.1
  have hb := C.2.1
  have hl : lv_has ls 4 [(0, .ref (ad 0)), (1, .int x1), (2, .int x2), (3, .int x3)] := hl
  have hw : WW D (rtys cI cL) (rw_ ad cI cL S) A s s.heap [] := hw
  unfold wX6_matters at hq
  refine lv_aload_n hx hb dX6_matters_0 rfl (lv_at hl 0 rfl) ?_
  refine lv_iload_n hx hb dX6_matters_1 rfl (lv_at hl 1 rfl) ?_
  refine w_calli hw (w_runV (rest := []) C hw (mX6_isVote l D ad cI cL S x1 _ hq _) kc_X6_isVote ml_X6_130 0 rO rfl rfl ⟨rfl, rfl, Nat.le_of_ble_eq_true rfl, Nat.le_of_ble_eq_true rfl⟩ rfl rfl (Nat.le_of_ble_eq_true rfl) hl.1 dX6_matters_2) ?_
  clear hw hq
  intro r_2 S_1 H locs hq hw
  refine lv_if_eq (tgt := 23) hx hb dX6_matters_5 (by decide) (fun hc => ?_) (fun hc => ?_)
  · replace hq := hq.1 hc
    refine lv_ldc2 hx hb C.2.2.2.2.1 (C.w kk_X6_152 rfl) dX6_matters_23 ?_
    exact w_lret C hw hq dX6_matters_26
  · replace hq := hq.2 hc
    refine lv_aload_n hx hb dX6_matters_8 rfl (lv_at hl 0 rfl) ?_
    refine lv_iload_n hx hb dX6_matters_9 rfl (lv_at hl 2 rfl) ?_
    refine w_calli hw (w_runV (rest := []) C hw (mX6_isPart l D ad cI cL S_1 x2 _ hq _) kc_X6_isPart ml_X6_89 0 rO rfl rfl ⟨rfl, rfl, Nat.le_of_ble_eq_true rfl, Nat.le_of_ble_eq_true rfl⟩ rfl rfl (Nat.le_of_ble_eq_true rfl) hl.1 dX6_matters_10) ?_
    clear hw hq
    intro r_4 S_3 H locs hq hw
    refine lv_if_eq (tgt := 23) hx hb dX6_matters_13 (by decide) (fun hc => ?_) (fun hc => ?_)
    · replace hq := hq.1 hc
      refine lv_ldc2 hx hb C.2.2.2.2.1 (C.w kk_X6_152 rfl) dX6_matters_23 ?_
      exact w_lret C hw hq dX6_matters_26
    · replace hq := hq.2 hc
      refine lv_iload_n hx hb dX6_matters_16 rfl (lv_at hl 3 rfl) ?_
      refine w_calli hw (w_runS (rest := []) C hw (mX6_isDay l D ad cI cL S_3 x3 _ hq _) kc_X6_isDay ml_X6_93 ⟨rfl, rfl, Nat.le_of_ble_eq_true rfl, Nat.le_of_ble_eq_true rfl⟩ rfl rfl (Nat.le_of_ble_eq_true rfl) hl.1 dX6_matters_17) ?_
      clear hw hq
      intro r_6 S_5 H locs hq hw
      refine lv_if_ne (tgt := 27) hx hb dX6_matters_20 (by decide) (fun hc => ?_) (fun hc => ?_)
      · replace hq := hq.2 hc
        refine lv_aload_n hx hb dX6_matters_27 rfl (lv_at hl 0 rfl) ?_
        refine lv_iload_n hx hb dX6_matters_28 rfl (lv_at hl 1 rfl) ?_
        refine w_calli hw (w_runV (rest := []) C hw (mX6_eventsOf l D ad cI cL S_5 x1 _ hq _) kc_X6_eventsOf ml_X6_135 0 rO rfl rfl ⟨rfl, rfl, Nat.le_of_ble_eq_true rfl, Nat.le_of_ble_eq_true rfl⟩ rfl rfl (Nat.le_of_ble_eq_true rfl) hl.1 dX6_matters_29) ?_
        clear hw hq
        intro r_8 S_7 H locs hq hw
        refine lv_bipush (v := 8) hx hb dX6_matters_32 (by decide) ?_
        refine lv_icmp_le (tgt := 43) hx hb dX6_matters_34 (by decide) (fun hc => ?_) (fun hc => ?_)
        · replace hq := hq.1 hc
          refine lv_aload_n hx hb dX6_matters_43 rfl (lv_at hl 0 rfl) ?_
          refine lv_iload_n hx hb dX6_matters_44 rfl (lv_at hl 1 rfl) ?_
          refine lv_iload_n hx hb dX6_matters_45 rfl (lv_at hl 2 rfl) ?_
          refine lv_iload_n hx hb dX6_matters_46 rfl (lv_at hl 3 rfl) ?_
          refine w_calll hw (w_runV (rest := []) C hw (mX6_mattersOf l D ad cI cL S_7 x1 x2 x3 _ hq _) kc_X6_mattersOf ml_X6_165 0 rO rfl rfl ⟨rfl, rfl, Nat.le_of_ble_eq_true rfl, Nat.le_of_ble_eq_true rfl⟩ rfl rfl (Nat.le_of_ble_eq_true rfl) hl.1 dX6_matters_47) ?_
          clear hw hq
          intro r_10 S_9 H locs hq hw
          exact w_lret C hw hq dX6_matters_50
        · replace hq := hq.2 hc
          refine lv_ldc2 hx hb C.2.2.2.2.1 (C.w kk_X6_154 rfl) dX6_matters_37 ?_
          refine lv_goto (tgt := 50) hx hb dX6_matters_40 (by decide) ?_
          exact w_lret C hw hq dX6_matters_50
      · replace hq := hq.1 hc
        refine lv_ldc2 hx hb C.2.2.2.2.1 (C.w kk_X6_152 rfl) dX6_matters_23 ?_
        exact w_lret C hw hq dX6_matters_26
set_option maxHeartbeats 4000000 in
set_option maxRecDepth 100000 in
theorem kJX6_most_114 {p : Program} {l : Launch} {e : Env} {s : State} {m : MethodId} {args : Array Value} {below : List Frame} {meth : Method} {c : Code} {D : va_G} {ad : Nat → Nat} {cI cL : ClassId} {A : Nat → Prop} (C : Cx p s m args meth c yX6_most.cls cX6_most 10 (some .int)) (S : MS) (x1 : Int32) (x2 : Int32) (x3 : Int32) (x4 : Int32) (x7 : Int32) (t0 : Int64) (Hd : MS → Int32 → Int64 → Int32 → Prop) (K : MS → Int32 → Prop) (Q : Int32 → MS → Prop) (hq : JX6_most_114 S x1 x2 x3 x4 x7 t0 Hd K Q) (H : Heap) (locs : List Loc) (ls : Array Slot) (hw : WW D (rtys cI cL) (rw_ ad cI cL S) A s H locs) (hl : lv_has ls 10 [(0, .ref (ad 0)), (1, .int x1), (2, .int x2), (3, .int x3), (4, .int x4), (7, .int x7)]) (hH : ∀ (S : MS) (z4 : Int32) (z5 : Int64) (z7 : Int32) (H : Heap) (locs : List Loc) (ls : Array Slot), Hd S z4 z5 z7 → WW D (rtys cI cL) (rw_ ad cI cL S) A s H locs → lv_has ls 10 [(0, .ref (ad 0)), (1, .int x1), (2, .int x2), (3, .int x3), (4, .int z4), (5, .long z5), (7, .int z7)] → W p l e { frames := 5, cells := 0, slots := 0, locals := 122 } s m args below meth c H locs 0 0 (Zi D (rtys cI cL) (rw_ ad cI cL) A below args s Q) (F0 m 47 ls [])) (hK : ∀ (S : MS) (z4 : Int32) (H : Heap) (locs : List Loc) (ls : Array Slot), K S z4 → WW D (rtys cI cL) (rw_ ad cI cL S) A s H locs → lv_has ls 10 [(4, .int z4)] → W p l e { frames := 5, cells := 0, slots := 0, locals := 122 } s m args below meth c H locs 0 0 (Zi D (rtys cI cL) (rw_ ad cI cL) A below args s Q) (F0 m 122 ls [])) : W p l e { frames := 5, cells := 0, slots := 0, locals := 122 } s m args below meth c H locs 0 0 (Zi D (rtys cI cL) (rw_ ad cI cL) A below args s Q) (F0 m 114 ls [.long t0]) := by
  have hx := C.1
  have hb := C.2.1
  unfold JX6_most_114 at hq
  refine lv_lstore (lv' := [(5, .long t0), (0, .ref (ad 0)), (1, .int x1), (2, .int x2), (3, .int x3), (4, .int x4), (7, .int x7)]) hx hb dX6_most_114 hl (by decide) rfl (fun ls hl => ?_)
  refine lv_iinc (v := x7 + 1) (lv' := [(7, .int (x7 + 1)), (5, .long t0), (0, .ref (ad 0)), (1, .int x1), (2, .int x2), (3, .int x3), (4, .int x4)]) hx hb dX6_most_116 hl (k := 6) rfl rfl (by decide) rfl (fun ls hl => ?_)
  refine lv_goto (tgt := 47) hx hb dX6_most_119 (by decide) ?_
  exact hH S x4 t0 (x7 + 1) _ _ _ hq hw (lv_sub hl [2, 3, 4, 5, 6, 1, 0] rfl)
set_option maxHeartbeats 4000000 in
set_option maxRecDepth 100000 in
theorem kJX6_most_97 {p : Program} {l : Launch} {e : Env} {s : State} {m : MethodId} {args : Array Value} {below : List Frame} {meth : Method} {c : Code} {D : va_G} {ad : Nat → Nat} {cI cL : ClassId} {A : Nat → Prop} (C : Cx p s m args meth c yX6_most.cls cX6_most 10 (some .int)) (S : MS) (x1 : Int32) (x2 : Int32) (x3 : Int32) (x5 : Int64) (x7 : Int32) (x8 : Int64) (t0 : Int32) (Hd : MS → Int32 → Int64 → Int32 → Prop) (K : MS → Int32 → Prop) (Q : Int32 → MS → Prop) (hq : JX6_most_97 S x1 x2 x3 x5 x7 x8 t0 Hd K Q) (H : Heap) (locs : List Loc) (ls : Array Slot) (hw : WW D (rtys cI cL) (rw_ ad cI cL S) A s H locs) (hl : lv_has ls 10 [(0, .ref (ad 0)), (1, .int x1), (2, .int x2), (3, .int x3), (5, .long x5), (7, .int x7), (8, .long x8)]) (hH : ∀ (S : MS) (z4 : Int32) (z5 : Int64) (z7 : Int32) (H : Heap) (locs : List Loc) (ls : Array Slot), Hd S z4 z5 z7 → WW D (rtys cI cL) (rw_ ad cI cL S) A s H locs → lv_has ls 10 [(0, .ref (ad 0)), (1, .int x1), (2, .int x2), (3, .int x3), (4, .int z4), (5, .long z5), (7, .int z7)] → W p l e { frames := 5, cells := 0, slots := 0, locals := 122 } s m args below meth c H locs 0 0 (Zi D (rtys cI cL) (rw_ ad cI cL) A below args s Q) (F0 m 47 ls [])) (hK : ∀ (S : MS) (z4 : Int32) (H : Heap) (locs : List Loc) (ls : Array Slot), K S z4 → WW D (rtys cI cL) (rw_ ad cI cL S) A s H locs → lv_has ls 10 [(4, .int z4)] → W p l e { frames := 5, cells := 0, slots := 0, locals := 122 } s m args below meth c H locs 0 0 (Zi D (rtys cI cL) (rw_ ad cI cL) A below args s Q) (F0 m 122 ls [])) : W p l e { frames := 5, cells := 0, slots := 0, locals := 122 } s m args below meth c H locs 0 0 (Zi D (rtys cI cL) (rw_ ad cI cL) A below args s Q) (F0 m 97 ls [.int t0]) := by
  have hx := C.1
  have hb := C.2.1
  unfold JX6_most_97 at hq
  refine lv_istore (lv' := [(4, .int t0), (0, .ref (ad 0)), (1, .int x1), (2, .int x2), (3, .int x3), (5, .long x5), (7, .int x7), (8, .long x8)]) hx hb dX6_most_97 hl (by decide) rfl (fun ls hl => ?_)
  refine lv_lload hx hb dX6_most_99 (lv_at hl 7 rfl) ?_
  refine lv_lload hx hb dX6_most_101 (lv_at hl 5 rfl) ?_
  refine W.lcmp hx hb dX6_most_103 ?_
  refine lv_if_le (tgt := 112) hx hb dX6_most_104 (by decide) (fun hc => ?_) (fun hc => ?_)
  · replace hq := hq.1 hc
    refine lv_lload hx hb dX6_most_112 (lv_at hl 5 rfl) ?_
    exact kJX6_most_114 C S x1 x2 x3 t0 x7 x5 Hd K Q hq _ _ _ hw (lv_sub hl [1, 2, 3, 4, 0, 6] rfl) hH hK
  · replace hq := hq.2 hc
    refine lv_lload hx hb dX6_most_107 (lv_at hl 7 rfl) ?_
    refine lv_goto (tgt := 114) hx hb dX6_most_109 (by decide) ?_
    exact kJX6_most_114 C S x1 x2 x3 t0 x7 x8 Hd K Q hq _ _ _ hw (lv_sub hl [1, 2, 3, 4, 0, 6] rfl) hH hK
set_option maxHeartbeats 4000000 in
set_option maxRecDepth 100000 in
theorem kJX6_most_80 {p : Program} {l : Launch} {e : Env} {s : State} {m : MethodId} {args : Array Value} {below : List Frame} {meth : Method} {c : Code} {D : va_G} {ad : Nat → Nat} {cI cL : ClassId} {A : Nat → Prop} (C : Cx p s m args meth c yX6_most.cls cX6_most 10 (some .int)) (S : MS) (x1 : Int32) (x2 : Int32) (x3 : Int32) (x4 : Int32) (x5 : Int64) (x7 : Int32) (t0 : Int64) (Hd : MS → Int32 → Int64 → Int32 → Prop) (K : MS → Int32 → Prop) (Q : Int32 → MS → Prop) (hq : JX6_most_80 S x1 x2 x3 x4 x5 x7 t0 Hd K Q) (H : Heap) (locs : List Loc) (ls : Array Slot) (hw : WW D (rtys cI cL) (rw_ ad cI cL S) A s H locs) (hl : lv_has ls 10 [(0, .ref (ad 0)), (1, .int x1), (2, .int x2), (3, .int x3), (4, .int x4), (5, .long x5), (7, .int x7)]) (hH : ∀ (S : MS) (z4 : Int32) (z5 : Int64) (z7 : Int32) (H : Heap) (locs : List Loc) (ls : Array Slot), Hd S z4 z5 z7 → WW D (rtys cI cL) (rw_ ad cI cL S) A s H locs → lv_has ls 10 [(0, .ref (ad 0)), (1, .int x1), (2, .int x2), (3, .int x3), (4, .int z4), (5, .long z5), (7, .int z7)] → W p l e { frames := 5, cells := 0, slots := 0, locals := 122 } s m args below meth c H locs 0 0 (Zi D (rtys cI cL) (rw_ ad cI cL) A below args s Q) (F0 m 47 ls [])) (hK : ∀ (S : MS) (z4 : Int32) (H : Heap) (locs : List Loc) (ls : Array Slot), K S z4 → WW D (rtys cI cL) (rw_ ad cI cL S) A s H locs → lv_has ls 10 [(4, .int z4)] → W p l e { frames := 5, cells := 0, slots := 0, locals := 122 } s m args below meth c H locs 0 0 (Zi D (rtys cI cL) (rw_ ad cI cL) A below args s Q) (F0 m 122 ls [])) : W p l e { frames := 5, cells := 0, slots := 0, locals := 122 } s m args below meth c H locs 0 0 (Zi D (rtys cI cL) (rw_ ad cI cL) A below args s Q) (F0 m 80 ls [.long t0]) := by
  have hx := C.1
  have hb := C.2.1
  unfold JX6_most_80 at hq
  refine lv_lstore (lv' := [(8, .long t0), (0, .ref (ad 0)), (1, .int x1), (2, .int x2), (3, .int x3), (4, .int x4), (5, .long x5), (7, .int x7)]) hx hb dX6_most_80 hl (by decide) rfl (fun ls hl => ?_)
  refine lv_lload hx hb dX6_most_82 (lv_at hl 0 rfl) ?_
  refine lv_lload hx hb dX6_most_84 (lv_at hl 6 rfl) ?_
  refine W.lcmp hx hb dX6_most_86 ?_
  refine lv_if_le (tgt := 95) hx hb dX6_most_87 (by decide) (fun hc => ?_) (fun hc => ?_)
  · replace hq := hq.1 hc
    refine lv_iload hx hb dX6_most_95 (lv_at hl 5 rfl) ?_
    exact kJX6_most_97 C S x1 x2 x3 x5 x7 t0 x4 Hd K Q hq _ _ _ hw (lv_sub hl [1, 2, 3, 4, 6, 7, 0] rfl) hH hK
  · replace hq := hq.2 hc
    refine lv_iload hx hb dX6_most_90 (lv_at hl 7 rfl) ?_
    refine lv_goto (tgt := 97) hx hb dX6_most_92 (by decide) ?_
    exact kJX6_most_97 C S x1 x2 x3 x5 x7 t0 x7 Hd K Q hq _ _ _ hw (lv_sub hl [1, 2, 3, 4, 6, 7, 0] rfl) hH hK
set_option maxHeartbeats 4000000 in
set_option maxRecDepth 100000 in
theorem kLX6_most_47 {p : Program} {l : Launch} {e : Env} {s : State} {m : MethodId} {args : Array Value} {below : List Frame} {meth : Method} {c : Code} {D : va_G} {ad : Nat → Nat} {cI cL : ClassId} {A : Nat → Prop} (C : Cx p s m args meth c yX6_most.cls cX6_most 10 (some .int)) (x1 : Int32) (x2 : Int32) (x3 : Int32) (K : MS → Int32 → Prop) (Q : Int32 → MS → Prop) (hK : ∀ (S : MS) (z4 : Int32) (H : Heap) (locs : List Loc) (ls : Array Slot), K S z4 → WW D (rtys cI cL) (rw_ ad cI cL S) A s H locs → lv_has ls 10 [(4, .int z4)] → W p l e { frames := 5, cells := 0, slots := 0, locals := 122 } s m args below meth c H locs 0 0 (Zi D (rtys cI cL) (rw_ ad cI cL) A below args s Q) (F0 m 122 ls [])) : ∀ (n : Nat) (S : MS) (x4 : Int32) (x5 : Int64) (x7 : Int32) (_ : LX6_most_47 x1 x2 x3 K Q n S x4 x5 x7) (H : Heap) (locs : List Loc) (ls : Array Slot), WW D (rtys cI cL) (rw_ ad cI cL S) A s H locs → lv_has ls 10 [(0, .ref (ad 0)), (1, .int x1), (2, .int x2), (3, .int x3), (4, .int x4), (5, .long x5), (7, .int x7)] → W p l e { frames := 5, cells := 0, slots := 0, locals := 122 } s m args below meth c H locs 0 0 (Zi D (rtys cI cL) (rw_ ad cI cL) A below args s Q) (F0 m 47 ls []) := by
  have hx := C.1
  have hb := C.2.1
  intro n
  induction n with
  | zero => intro S x4 x5 x7 hq; exact absurd hq (by rw [LX6_most_47]; exact id)
  | succ n ih =>
    intro S x4 x5 x7 hq H locs ls hw hl
    rw [LX6_most_47] at hq
    refine lv_iload hx hb dX6_most_47 (lv_at hl 6 rfl) ?_
    refine lv_aload_n hx hb dX6_most_49 rfl (lv_at hl 0 rfl) ?_
    refine w_get C hw uw_X6 0 rO rfl 0 (by decide) fl_X6_74 rfl dX6_most_50 ?_
    refine lv_icmp_ge (tgt := 122) hx hb dX6_most_53 (by decide) (fun hc => ?_) (fun hc => ?_)
    · replace hq := hq.1 hc
      exact hK S x4 _ _ _ hq hw (lv_sub hl [4] rfl)
    · replace hq := hq.2 hc
      refine lv_iload_n hx hb dX6_most_56 rfl (lv_at hl 3 rfl) ?_
      refine lv_iload hx hb dX6_most_57 (lv_at hl 6 rfl) ?_
      refine lv_ishr hx hb dX6_most_59 ?_
      refine lv_iconst (v := 1) hx hb dX6_most_60 (by decide) ?_
      refine lv_iand hx hb dX6_most_61 ?_
      refine lv_iconst (v := 1) hx hb dX6_most_62 (by decide) ?_
      refine lv_icmp_ne (tgt := 77) hx hb dX6_most_63 (by decide) (fun hc => ?_) (fun hc => ?_)
      · replace hq := hq.2 hc
        refine lv_ldc2 hx hb C.2.2.2.2.1 (C.w kk_X6_152 rfl) dX6_most_77 ?_
        exact kJX6_most_80 C S x1 x2 x3 x4 x5 x7 (-1) _ K Q hq _ _ _ hw (lv_sub hl [0, 1, 2, 3, 4, 5, 6] rfl) (fun S a4 a5 a7 H locs ls hq hw hl => ih S a4 a5 a7 hq H locs ls hw hl) hK
      · replace hq := hq.1 hc
        refine lv_aload_n hx hb dX6_most_66 rfl (lv_at hl 0 rfl) ?_
        refine lv_iload_n hx hb dX6_most_67 rfl (lv_at hl 1 rfl) ?_
        refine lv_iload hx hb dX6_most_68 (lv_at hl 6 rfl) ?_
        refine lv_iload_n hx hb dX6_most_70 rfl (lv_at hl 2 rfl) ?_
        refine w_calll hw (w_runV (rest := []) C hw (mX6_mattersOf l D ad cI cL S x1 x7 x2 _ hq _) kc_X6_mattersOf ml_X6_165 0 rO rfl rfl ⟨rfl, rfl, Nat.le_of_ble_eq_true rfl, Nat.le_of_ble_eq_true rfl⟩ rfl rfl (Nat.le_of_ble_eq_true rfl) hl.1 dX6_most_71) ?_
        clear hw hq
        intro r_2 S_1 H locs hq hw
        refine lv_goto (tgt := 80) hx hb dX6_most_74 (by decide) ?_
        exact kJX6_most_80 C S_1 x1 x2 x3 x4 x5 x7 r_2 _ K Q hq _ _ _ hw (lv_sub hl [0, 1, 2, 3, 4, 5, 6] rfl) (fun S a4 a5 a7 H locs ls hq hw hl => ih S a4 a5 a7 hq H locs ls hw hl) hK
set_option maxHeartbeats 4000000 in
set_option maxRecDepth 100000 in
theorem mX6_most (l : Launch) (D : va_G) (ad : Nat → Nat) (cI cL : ClassId) (S : MS) (x1 : Int32) (x2 : Int32) (Q : Int32 → MS → Prop) (hq : wX6_most S x1 x2 Q) : Mi l yX6_most cX6_most 10 (some .int) { frames := 5, cells := 0, slots := 0, locals := 122 } D (rtys cI cL) (rw_ ad cI cL) [.ref (ad 0), .int x1, .int x2] S Q := by
  refine Mi.of (by decide +kernel) (Nat.le_of_ble_eq_true rfl) ?_
  intro p e s m args below meth c A ls C hw hl
  have hx := C.1
  have hb := C.2.1
  have hl : lv_has ls 10 [(0, .ref (ad 0)), (1, .int x1), (2, .int x2)] := hl
  have hw : WW D (rtys cI cL) (rw_ ad cI cL S) A s s.heap [] := hw
  unfold wX6_most at hq
  refine lv_aload_n hx hb dX6_most_0 rfl (lv_at hl 0 rfl) ?_
  refine lv_iload_n hx hb dX6_most_1 rfl (lv_at hl 1 rfl) ?_
  refine w_calli hw (w_runV (rest := []) C hw (mX6_isVote l D ad cI cL S x1 _ hq _) kc_X6_isVote ml_X6_130 0 rO rfl rfl ⟨rfl, rfl, Nat.le_of_ble_eq_true rfl, Nat.le_of_ble_eq_true rfl⟩ rfl rfl (Nat.le_of_ble_eq_true rfl) hl.1 dX6_most_2) ?_
  clear hw hq
  intro r_2 S_1 H locs hq hw
  refine lv_if_eq (tgt := 15) hx hb dX6_most_5 (by decide) (fun hc => ?_) (fun hc => ?_)
  · replace hq := hq.1 hc
    refine lv_iconst (v := (-1)) hx hb dX6_most_15 (by decide) ?_
    exact w_iret C hw hq dX6_most_16
  · replace hq := hq.2 hc
    refine lv_iload_n hx hb dX6_most_8 rfl (lv_at hl 2 rfl) ?_
    refine w_calli hw (w_runS (rest := []) C hw (mX6_isDay l D ad cI cL S_1 x2 _ hq _) kc_X6_isDay ml_X6_93 ⟨rfl, rfl, Nat.le_of_ble_eq_true rfl, Nat.le_of_ble_eq_true rfl⟩ rfl rfl (Nat.le_of_ble_eq_true rfl) hl.1 dX6_most_9) ?_
    clear hw hq
    intro r_4 S_3 H locs hq hw
    refine lv_if_ne (tgt := 17) hx hb dX6_most_12 (by decide) (fun hc => ?_) (fun hc => ?_)
    · replace hq := hq.2 hc
      refine lv_aload_n hx hb dX6_most_17 rfl (lv_at hl 0 rfl) ?_
      refine lv_iload_n hx hb dX6_most_18 rfl (lv_at hl 1 rfl) ?_
      refine w_calli hw (w_runV (rest := []) C hw (mX6_eventsOf l D ad cI cL S_3 x1 _ hq _) kc_X6_eventsOf ml_X6_135 0 rO rfl rfl ⟨rfl, rfl, Nat.le_of_ble_eq_true rfl, Nat.le_of_ble_eq_true rfl⟩ rfl rfl (Nat.le_of_ble_eq_true rfl) hl.1 dX6_most_19) ?_
      clear hw hq
      intro r_6 S_5 H locs hq hw
      refine lv_bipush (v := 8) hx hb dX6_most_22 (by decide) ?_
      refine lv_icmp_le (tgt := 30) hx hb dX6_most_24 (by decide) (fun hc => ?_) (fun hc => ?_)
      · replace hq := hq.1 hc
        refine lv_aload_n hx hb dX6_most_30 rfl (lv_at hl 0 rfl) ?_
        refine lv_iload_n hx hb dX6_most_31 rfl (lv_at hl 1 rfl) ?_
        refine w_calli hw (w_runV (rest := []) C hw (mX6_partsOf l D ad cI cL S_5 x1 _ hq _) kc_X6_partsOf ml_X6_124 0 rO rfl rfl ⟨rfl, rfl, Nat.le_of_ble_eq_true rfl, Nat.le_of_ble_eq_true rfl⟩ rfl rfl (Nat.le_of_ble_eq_true rfl) hl.1 dX6_most_32) ?_
        clear hw hq
        intro r_8 S_7 H locs hq hw
        refine lv_istore_n (lv' := [(3, .int r_8), (0, .ref (ad 0)), (1, .int x1), (2, .int x2)]) hx hb dX6_most_35 rfl hl (by decide) rfl (fun ls hl => ?_)
        refine lv_iconst (v := (-1)) hx hb dX6_most_36 (by decide) ?_
        refine lv_istore (lv' := [(4, .int (-1)), (3, .int r_8), (0, .ref (ad 0)), (1, .int x1), (2, .int x2)]) hx hb dX6_most_37 hl (by decide) rfl (fun ls hl => ?_)
        refine lv_ldc2 hx hb C.2.2.2.2.1 (C.w kk_X6_152 rfl) dX6_most_39 ?_
        refine lv_lstore (lv' := [(5, .long (-1)), (4, .int (-1)), (3, .int r_8), (0, .ref (ad 0)), (1, .int x1), (2, .int x2)]) hx hb dX6_most_42 hl (by decide) rfl (fun ls hl => ?_)
        refine lv_iconst (v := 0) hx hb dX6_most_44 (by decide) ?_
        refine lv_istore (lv' := [(7, .int 0), (5, .long (-1)), (4, .int (-1)), (3, .int r_8), (0, .ref (ad 0)), (1, .int x1), (2, .int x2)]) hx hb dX6_most_45 hl (by decide) rfl (fun ls hl => ?_)
        obtain ⟨n0, hq⟩ := hq
        refine kLX6_most_47 C x1 x2 r_8 _ Q ?_ n0 S_7 (-1) (-1) 0 hq _ _ _ hw (lv_sub hl [4, 5, 6, 3, 2, 1, 0] rfl)
        clear hw hl hq
        intro S_9 y_10 H locs ls hq hw hl
        refine lv_iload hx hb dX6_most_122 (lv_at hl 0 rfl) ?_
        exact w_iret C hw hq dX6_most_124
      · replace hq := hq.2 hc
        refine lv_bipush (v := (-2)) hx hb dX6_most_27 (by decide) ?_
        exact w_iret C hw hq dX6_most_29
    · replace hq := hq.1 hc
      refine lv_iconst (v := (-1)) hx hb dX6_most_15 (by decide) ?_
      exact w_iret C hw hq dX6_most_16
set_option maxHeartbeats 4000000 in
set_option maxRecDepth 100000 in
theorem mX6_cost (l : Launch) (D : va_G) (ad : Nat → Nat) (cI cL : ClassId) (S : MS) (x1 : Int32) (x2 : Int32) (Q : Int32 → MS → Prop) (hq : wX6_cost S x1 x2 Q) : Mi l yX6_cost cX6_cost 4 (some .int) { frames := 2, cells := 0, slots := 0, locals := 46 } D (rtys cI cL) (rw_ ad cI cL) [.ref (ad 0), .int x1, .int x2] S Q := by
  refine Mi.of (by decide +kernel) (Nat.le_of_ble_eq_true rfl) ?_
  intro p e s m args below meth c A ls C hw hl
  have hx := C.1
  have hb := C.2.1
  have hl : lv_has ls 4 [(0, .ref (ad 0)), (1, .int x1), (2, .int x2)] := hl
  have hw : WW D (rtys cI cL) (rw_ ad cI cL S) A s s.heap [] := hw
  unfold wX6_cost at hq
  refine lv_aload_n hx hb dX6_cost_0 rfl (lv_at hl 0 rfl) ?_
  refine lv_iload_n hx hb dX6_cost_1 rfl (lv_at hl 1 rfl) ?_
  refine w_calli hw (w_runV (rest := []) C hw (mX6_isPart l D ad cI cL S x1 _ hq _) kc_X6_isPart ml_X6_89 0 rO rfl rfl ⟨rfl, rfl, Nat.le_of_ble_eq_true rfl, Nat.le_of_ble_eq_true rfl⟩ rfl rfl (Nat.le_of_ble_eq_true rfl) hl.1 dX6_cost_2) ?_
  clear hw hq
  intro r_2 S_1 H locs hq hw
  refine lv_if_eq (tgt := 20) hx hb dX6_cost_5 (by decide) (fun hc => ?_) (fun hc => ?_)
  · replace hq := hq.1 hc
    refine lv_iconst (v := (-1)) hx hb dX6_cost_20 (by decide) ?_
    exact w_iret C hw hq dX6_cost_21
  · replace hq := hq.2 hc
    refine lv_iload_n hx hb dX6_cost_8 rfl (lv_at hl 2 rfl) ?_
    refine lv_i2l (v := x2.toInt64) hx hb dX6_cost_9 rfl ?_
    refine lv_lconst (v := 0) hx hb dX6_cost_10 (by decide) ?_
    refine lv_ldc2 hx hb C.2.2.2.2.1 (C.w kk_X6_169 rfl) dX6_cost_11 ?_
    refine w_calli hw (w_runS (rest := []) C hw (mX6_in l D ad cI cL S_1 x2.toInt64 0 1000 _ hq _) kc_X6_in ml_X6_78 ⟨rfl, rfl, Nat.le_of_ble_eq_true rfl, Nat.le_of_ble_eq_true rfl⟩ rfl rfl (Nat.le_of_ble_eq_true rfl) hl.1 dX6_cost_14) ?_
    clear hw hq
    intro r_4 S_3 H locs hq hw
    refine lv_if_ne (tgt := 22) hx hb dX6_cost_17 (by decide) (fun hc => ?_) (fun hc => ?_)
    · replace hq := hq.2 hc
      refine lv_aload_n hx hb dX6_cost_22 rfl (lv_at hl 0 rfl) ?_
      refine w_get C hw uw_X6 0 rO rfl 4 (by decide) fl_X6_19 rfl dX6_cost_23 ?_
      refine lv_iload_n hx hb dX6_cost_26 rfl (lv_at hl 1 rfl) ?_
      obtain ⟨hin, hq⟩ := hq
      refine w_ild C hw 4 0 rI_3 rfl hin dX6_cost_27 ?_
      refine lv_istore_n (lv' := [(3, .int (S_3.1 3 x1.toNatClampNeg)), (0, .ref (ad 0)), (1, .int x1), (2, .int x2)]) hx hb dX6_cost_28 rfl hl (by decide) rfl (fun ls hl => ?_)
      refine lv_aload_n hx hb dX6_cost_29 rfl (lv_at hl 1 rfl) ?_
      refine w_get C hw uw_X6 0 rO rfl 4 (by decide) fl_X6_19 rfl dX6_cost_30 ?_
      refine lv_iload_n hx hb dX6_cost_33 rfl (lv_at hl 2 rfl) ?_
      refine lv_iload_n hx hb dX6_cost_34 rfl (lv_at hl 3 rfl) ?_
      obtain ⟨hin, hq⟩ := hq
      obtain ⟨S_5, eS_5⟩ : ∃ z, z = uI S_3 3 x1.toNatClampNeg x2 := ⟨_, rfl⟩
      replace hq := hq S_5 eS_5
      refine w_ist (ws' := rw_ ad cI cL S_5) C hw 4 0 rI_3 rfl hin dX6_cost_35 (by rw [eS_5]; exact rIs_3) (fun H locs hw => ?_)
      refine lv_iload_n hx hb dX6_cost_36 rfl (lv_at hl 0 rfl) ?_
      exact w_iret C hw hq dX6_cost_37
    · replace hq := hq.1 hc
      refine lv_iconst (v := (-1)) hx hb dX6_cost_20 (by decide) ?_
      exact w_iret C hw hq dX6_cost_21
set_option maxHeartbeats 4000000 in
set_option maxRecDepth 100000 in
theorem kLX6_laid_9 {p : Program} {l : Launch} {e : Env} {s : State} {m : MethodId} {args : Array Value} {below : List Frame} {meth : Method} {c : Code} {D : va_G} {ad : Nat → Nat} {cI cL : ClassId} {A : Nat → Prop} (C : Cx p s m args meth c yX6_laid.cls cX6_laid 7 (some .int)) (x1 : Int32) (x2 : Int32) (x3 : Int32) (x4 : Int32) (K : MS → Int32 → Prop) (Q : Int32 → MS → Prop) (hK : ∀ (S : MS) (z5 : Int32) (H : Heap) (locs : List Loc) (ls : Array Slot), K S z5 → WW D (rtys cI cL) (rw_ ad cI cL S) A s H locs → lv_has ls 7 [(0, .ref (ad 0)), (1, .int x1), (3, .int x3), (4, .int x4), (5, .int z5)] → W p l e { frames := 0, cells := 0, slots := 0, locals := 0 } s m args below meth c H locs 0 0 (Zi D (rtys cI cL) (rw_ ad cI cL) A below args s Q) (F0 m 27 ls [])) : ∀ (n : Nat) (S : MS) (x5 : Int32) (x6 : Int32) (_ : LX6_laid_9 x1 x2 x3 x4 K Q n S x5 x6) (H : Heap) (locs : List Loc) (ls : Array Slot), WW D (rtys cI cL) (rw_ ad cI cL S) A s H locs → lv_has ls 7 [(0, .ref (ad 0)), (1, .int x1), (2, .int x2), (3, .int x3), (4, .int x4), (5, .int x5), (6, .int x6)] → W p l e { frames := 0, cells := 0, slots := 0, locals := 0 } s m args below meth c H locs 0 0 (Zi D (rtys cI cL) (rw_ ad cI cL) A below args s Q) (F0 m 9 ls []) := by
  have hx := C.1
  have hb := C.2.1
  intro n
  induction n with
  | zero => intro S x5 x6 hq; exact absurd hq (by rw [LX6_laid_9]; exact id)
  | succ n ih =>
    intro S x5 x6 hq H locs ls hw hl
    rw [LX6_laid_9] at hq
    refine lv_iload hx hb dX6_laid_9 (lv_at hl 6 rfl) ?_
    refine lv_iload_n hx hb dX6_laid_11 rfl (lv_at hl 2 rfl) ?_
    refine lv_icmp_ge (tgt := 27) hx hb dX6_laid_12 (by decide) (fun hc => ?_) (fun hc => ?_)
    · replace hq := hq.1 hc
      exact hK S x5 _ _ _ hq hw (lv_sub hl [0, 1, 3, 4, 5] rfl)
    · replace hq := hq.2 hc
      refine lv_iload hx hb dX6_laid_15 (lv_at hl 5 rfl) ?_
      refine lv_iconst (v := 3) hx hb dX6_laid_17 (by decide) ?_
      refine lv_imul hx hb dX6_laid_18 ?_
      refine lv_istore (lv' := [(5, .int (x5 * 3)), (0, .ref (ad 0)), (1, .int x1), (2, .int x2), (3, .int x3), (4, .int x4), (6, .int x6)]) hx hb dX6_laid_19 hl (by decide) rfl (fun ls hl => ?_)
      refine lv_iinc (v := x6 + 1) (lv' := [(6, .int (x6 + 1)), (5, .int (x5 * 3)), (0, .ref (ad 0)), (1, .int x1), (2, .int x2), (3, .int x3), (4, .int x4)]) hx hb dX6_laid_21 hl (k := 6) rfl rfl (by decide) rfl (fun ls hl => ?_)
      refine lv_goto (tgt := 9) hx hb dX6_laid_24 (by decide) ?_
      exact ih S (x5 * 3) (x6 + 1) hq _ _ _ hw (lv_sub hl [2, 3, 4, 5, 6, 1, 0] rfl)
set_option maxHeartbeats 4000000 in
set_option maxRecDepth 100000 in
theorem kJX6_laid_96 {p : Program} {l : Launch} {e : Env} {s : State} {m : MethodId} {args : Array Value} {below : List Frame} {meth : Method} {c : Code} {D : va_G} {ad : Nat → Nat} {cI cL : ClassId} {A : Nat → Prop} (C : Cx p s m args meth c yX6_laid.cls cX6_laid 7 (some .int)) (S : MS) (x1 : Int32) (x3 : Int32) (x4 : Int32) (x5 : Int32) (x6 : Int32) (Hd : MS → Int32 → Int32 → Int32 → Prop) (K : MS → Int32 → Prop) (Q : Int32 → MS → Prop) (hq : JX6_laid_96 S x1 x3 x4 x5 x6 Hd K Q) (H : Heap) (locs : List Loc) (ls : Array Slot) (hw : WW D (rtys cI cL) (rw_ ad cI cL S) A s H locs) (hl : lv_has ls 7 [(0, .ref (ad 0)), (1, .int x1), (3, .int x3), (4, .int x4), (5, .int x5), (6, .int x6)]) (hH : ∀ (S : MS) (z4 : Int32) (z5 : Int32) (z6 : Int32) (H : Heap) (locs : List Loc) (ls : Array Slot), Hd S z4 z5 z6 → WW D (rtys cI cL) (rw_ ad cI cL S) A s H locs → lv_has ls 7 [(0, .ref (ad 0)), (1, .int x1), (3, .int x3), (4, .int z4), (5, .int z5), (6, .int z6)] → W p l e { frames := 0, cells := 0, slots := 0, locals := 0 } s m args below meth c H locs 0 0 (Zi D (rtys cI cL) (rw_ ad cI cL) A below args s Q) (F0 m 30 ls [])) (hK : ∀ (S : MS) (z4 : Int32) (H : Heap) (locs : List Loc) (ls : Array Slot), K S z4 → WW D (rtys cI cL) (rw_ ad cI cL S) A s H locs → lv_has ls 7 [(4, .int z4)] → W p l e { frames := 0, cells := 0, slots := 0, locals := 0 } s m args below meth c H locs 0 0 (Zi D (rtys cI cL) (rw_ ad cI cL) A below args s Q) (F0 m 102 ls [])) : W p l e { frames := 0, cells := 0, slots := 0, locals := 0 } s m args below meth c H locs 0 0 (Zi D (rtys cI cL) (rw_ ad cI cL) A below args s Q) (F0 m 96 ls []) := by
  have hx := C.1
  have hb := C.2.1
  unfold JX6_laid_96 at hq
  refine lv_iinc (v := x6 + 1) (lv' := [(6, .int (x6 + 1)), (0, .ref (ad 0)), (1, .int x1), (3, .int x3), (4, .int x4), (5, .int x5)]) hx hb dX6_laid_96 hl (k := 5) rfl rfl (by decide) rfl (fun ls hl => ?_)
  refine lv_goto (tgt := 30) hx hb dX6_laid_99 (by decide) ?_
  exact hH S x4 x5 (x6 + 1) _ _ _ hq hw (lv_sub hl [1, 2, 3, 4, 5, 0] rfl)
set_option maxHeartbeats 4000000 in
set_option maxRecDepth 100000 in
theorem kLX6_laid_30 {p : Program} {l : Launch} {e : Env} {s : State} {m : MethodId} {args : Array Value} {below : List Frame} {meth : Method} {c : Code} {D : va_G} {ad : Nat → Nat} {cI cL : ClassId} {A : Nat → Prop} (C : Cx p s m args meth c yX6_laid.cls cX6_laid 7 (some .int)) (x1 : Int32) (x3 : Int32) (K : MS → Int32 → Prop) (Q : Int32 → MS → Prop) (hK : ∀ (S : MS) (z4 : Int32) (H : Heap) (locs : List Loc) (ls : Array Slot), K S z4 → WW D (rtys cI cL) (rw_ ad cI cL S) A s H locs → lv_has ls 7 [(4, .int z4)] → W p l e { frames := 0, cells := 0, slots := 0, locals := 0 } s m args below meth c H locs 0 0 (Zi D (rtys cI cL) (rw_ ad cI cL) A below args s Q) (F0 m 102 ls [])) : ∀ (n : Nat) (S : MS) (x4 : Int32) (x5 : Int32) (x6 : Int32) (_ : LX6_laid_30 x1 x3 K Q n S x4 x5 x6) (H : Heap) (locs : List Loc) (ls : Array Slot), WW D (rtys cI cL) (rw_ ad cI cL S) A s H locs → lv_has ls 7 [(0, .ref (ad 0)), (1, .int x1), (3, .int x3), (4, .int x4), (5, .int x5), (6, .int x6)] → W p l e { frames := 0, cells := 0, slots := 0, locals := 0 } s m args below meth c H locs 0 0 (Zi D (rtys cI cL) (rw_ ad cI cL) A below args s Q) (F0 m 30 ls []) := by
  have hx := C.1
  have hb := C.2.1
  intro n
  induction n with
  | zero => intro S x4 x5 x6 hq; exact absurd hq (by rw [LX6_laid_30]; exact id)
  | succ n ih =>
    intro S x4 x5 x6 hq H locs ls hw hl
    rw [LX6_laid_30] at hq
    refine lv_iload hx hb dX6_laid_30 (lv_at hl 5 rfl) ?_
    refine lv_aload_n hx hb dX6_laid_32 rfl (lv_at hl 0 rfl) ?_
    refine w_get C hw uw_X6 0 rO rfl 0 (by decide) fl_X6_74 rfl dX6_laid_33 ?_
    refine lv_icmp_ge (tgt := 102) hx hb dX6_laid_36 (by decide) (fun hc => ?_) (fun hc => ?_)
    · replace hq := hq.1 hc
      exact hK S x4 _ _ _ hq hw (lv_sub hl [3] rfl)
    · replace hq := hq.2 hc
      refine lv_iload_n hx hb dX6_laid_39 rfl (lv_at hl 1 rfl) ?_
      refine lv_iload hx hb dX6_laid_40 (lv_at hl 5 rfl) ?_
      refine lv_ishr hx hb dX6_laid_42 ?_
      refine lv_iconst (v := 1) hx hb dX6_laid_43 (by decide) ?_
      refine lv_iand hx hb dX6_laid_44 ?_
      refine lv_iconst (v := 1) hx hb dX6_laid_45 (by decide) ?_
      refine lv_icmp_ne (tgt := 96) hx hb dX6_laid_46 (by decide) (fun hc => ?_) (fun hc => ?_)
      · replace hq := hq.2 hc
        exact kJX6_laid_96 C S x1 x3 x4 x5 x6 _ K Q hq _ _ _ hw (lv_sub hl [0, 1, 2, 3, 4, 5] rfl) (fun S a4 a5 a6 H locs ls hq hw hl => ih S a4 a5 a6 hq H locs ls hw hl) hK
      · replace hq := hq.1 hc
        refine lv_aload_n hx hb dX6_laid_49 rfl (lv_at hl 0 rfl) ?_
        refine w_get C hw uw_X6 0 rO rfl 7 (by decide) fl_X6_28 rfl dX6_laid_50 ?_
        refine lv_iload hx hb dX6_laid_53 (lv_at hl 5 rfl) ?_
        refine lv_aload_n hx hb dX6_laid_55 rfl (lv_at hl 0 rfl) ?_
        refine w_get C hw uw_X6 0 rO rfl 25 (by decide) fl_X6_71 rfl dX6_laid_56 ?_
        refine lv_iload_n hx hb dX6_laid_59 rfl (lv_at hl 2 rfl) ?_
        refine lv_iload hx hb dX6_laid_60 (lv_at hl 4 rfl) ?_
        obtain ⟨hne, hq⟩ := hq
        refine lv_idiv hx hb dX6_laid_62 hne ?_
        refine lv_iconst (v := 3) hx hb dX6_laid_63 (by decide) ?_
        refine lv_irem hx hb dX6_laid_64 (by decide) ?_
        obtain ⟨hin, hq⟩ := hq
        refine w_ild C hw 20 0 rI_19 rfl hin dX6_laid_65 ?_
        obtain ⟨hin, hq⟩ := hq
        obtain ⟨S_1, eS_1⟩ : ∃ z, z = uI S 6 x6.toNatClampNeg (S.1 19 ((x3 / x5) - (x3 / x5) / 3 * 3).toNatClampNeg) := ⟨_, rfl⟩
        replace hq := hq S_1 eS_1
        refine w_ist (ws' := rw_ ad cI cL S_1) C hw 7 0 rI_6 rfl hin dX6_laid_66 (by rw [eS_1]; exact rIs_6) (fun H locs hw => ?_)
        refine lv_iload hx hb dX6_laid_67 (lv_at hl 3 rfl) ?_
        refine lv_aload_n hx hb dX6_laid_69 rfl (lv_at hl 0 rfl) ?_
        refine w_get C hw uw_X6 0 rO rfl 4 (by decide) fl_X6_19 rfl dX6_laid_70 ?_
        refine lv_iload hx hb dX6_laid_73 (lv_at hl 5 rfl) ?_
        obtain ⟨hin, hq⟩ := hq
        refine w_ild C hw 4 0 rI_3 rfl hin dX6_laid_75 ?_
        refine lv_bipush (v := 100) hx hb dX6_laid_76 (by decide) ?_
        refine lv_aload_n hx hb dX6_laid_78 rfl (lv_at hl 0 rfl) ?_
        refine w_get C hw uw_X6 0 rO rfl 7 (by decide) fl_X6_28 rfl dX6_laid_79 ?_
        refine lv_iload hx hb dX6_laid_82 (lv_at hl 5 rfl) ?_
        obtain ⟨hin, hq⟩ := hq
        refine w_ild C hw 7 0 rI_6 rfl hin dX6_laid_84 ?_
        obtain ⟨hne, hq⟩ := hq
        refine lv_idiv hx hb dX6_laid_85 hne ?_
        refine lv_imul hx hb dX6_laid_86 ?_
        refine lv_iadd hx hb dX6_laid_87 ?_
        refine lv_topi (fun v_2 ev_2 => ?_)
        replace hq := hq v_2 ev_2
        refine lv_istore (lv' := [(4, .int v_2), (0, .ref (ad 0)), (1, .int x1), (3, .int x3), (5, .int x5), (6, .int x6)]) hx hb dX6_laid_88 hl (by decide) rfl (fun ls hl => ?_)
        refine lv_iload hx hb dX6_laid_90 (lv_at hl 4 rfl) ?_
        refine lv_iconst (v := 3) hx hb dX6_laid_92 (by decide) ?_
        refine lv_idiv hx hb dX6_laid_93 (by decide) ?_
        refine lv_istore (lv' := [(5, .int (x5 / 3)), (4, .int v_2), (0, .ref (ad 0)), (1, .int x1), (3, .int x3), (6, .int x6)]) hx hb dX6_laid_94 hl (by decide) rfl (fun ls hl => ?_)
        exact kJX6_laid_96 C S_1 x1 x3 v_2 (x5 / 3) x6 _ K Q hq _ _ _ hw (lv_sub hl [2, 3, 4, 1, 0, 5] rfl) (fun S a4 a5 a6 H locs ls hq hw hl => ih S a4 a5 a6 hq H locs ls hw hl) hK
set_option maxHeartbeats 4000000 in
set_option maxRecDepth 100000 in
theorem mX6_laid (l : Launch) (D : va_G) (ad : Nat → Nat) (cI cL : ClassId) (S : MS) (x1 : Int32) (x2 : Int32) (x3 : Int32) (Q : Int32 → MS → Prop) (hq : wX6_laid S x1 x2 x3 Q) : Mi l yX6_laid cX6_laid 7 (some .int) { frames := 0, cells := 0, slots := 0, locals := 0 } D (rtys cI cL) (rw_ ad cI cL) [.ref (ad 0), .int x1, .int x2, .int x3] S Q := by
  refine Mi.of (by decide +kernel) (Nat.le_of_ble_eq_true rfl) ?_
  intro p e s m args below meth c A ls C hw hl
  have hx := C.1
  have hb := C.2.1
  have hl : lv_has ls 7 [(0, .ref (ad 0)), (1, .int x1), (2, .int x2), (3, .int x3)] := hl
  have hw : WW D (rtys cI cL) (rw_ ad cI cL S) A s s.heap [] := hw
  unfold wX6_laid at hq
  refine lv_iconst (v := 0) hx hb dX6_laid_0 (by decide) ?_
  refine lv_istore (lv' := [(4, .int 0), (0, .ref (ad 0)), (1, .int x1), (2, .int x2), (3, .int x3)]) hx hb dX6_laid_1 hl (by decide) rfl (fun ls hl => ?_)
  refine lv_iconst (v := 1) hx hb dX6_laid_3 (by decide) ?_
  refine lv_istore (lv' := [(5, .int 1), (4, .int 0), (0, .ref (ad 0)), (1, .int x1), (2, .int x2), (3, .int x3)]) hx hb dX6_laid_4 hl (by decide) rfl (fun ls hl => ?_)
  refine lv_iconst (v := 1) hx hb dX6_laid_6 (by decide) ?_
  refine lv_istore (lv' := [(6, .int 1), (5, .int 1), (4, .int 0), (0, .ref (ad 0)), (1, .int x1), (2, .int x2), (3, .int x3)]) hx hb dX6_laid_7 hl (by decide) rfl (fun ls hl => ?_)
  obtain ⟨n0, hq⟩ := hq
  refine kLX6_laid_9 C x1 x2 x3 0 _ Q ?_ n0 S 1 1 hq _ _ _ hw (lv_sub hl [3, 4, 5, 6, 2, 1, 0] rfl)
  clear hw hl hq
  intro S_1 y_2 H locs ls hq hw hl
  refine lv_iconst (v := 0) hx hb dX6_laid_27 (by decide) ?_
  refine lv_istore (lv' := [(6, .int 0), (0, .ref (ad 0)), (1, .int x1), (3, .int x3), (4, .int 0), (5, .int y_2)]) hx hb dX6_laid_28 hl (by decide) rfl (fun ls hl => ?_)
  obtain ⟨n0, hq⟩ := hq
  refine kLX6_laid_30 C x1 x3 _ Q ?_ n0 S_1 0 y_2 0 hq _ _ _ hw (lv_sub hl [1, 2, 3, 4, 5, 0] rfl)
  clear hw hl hq
  intro S_3 y_4 H locs ls hq hw hl
  refine lv_iload hx hb dX6_laid_102 (lv_at hl 0 rfl) ?_
  exact w_iret C hw hq dX6_laid_104
