set_option maxHeartbeats 4000000 in
set_option maxRecDepth 100000 in
theorem kJX6_shareOf_74 {p : Program} {l : Launch} {e : Env} {s : State} {m : MethodId} {args : Array Value} {below : List Frame} {meth : Method} {c : Code} {D : va_G} {ad : Nat → Nat} {cI cL : ClassId} {A : Nat → Prop} (C : Cx p s m args meth c yX6_shareOf.cls cX6_shareOf 5 (some .int)) (S : MS) (x1 : Int32) (x2 : Int32) (x4 : Int32) (t0 : Int32) (Hd : MS → Int32 → Int32 → Prop) (K : MS → Int32 → Prop) (Q : Int32 → MS → Prop) (hq : JX6_shareOf_74 S x1 x2 x4 t0 Hd K Q) (H : Heap) (locs : List Loc) (ls : Array Slot) (hw : WW D (rtys cI cL) (rw_ ad cI cL S) A s H locs) (hl : lv_has ls 5 [(0, .ref (ad 0)), (1, .int x1), (2, .int x2), (4, .int x4)]) (hH : ∀ (S : MS) (z3 : Int32) (z4 : Int32) (H : Heap) (locs : List Loc) (ls : Array Slot), Hd S z3 z4 → WW D (rtys cI cL) (rw_ ad cI cL S) A s H locs → lv_has ls 5 [(0, .ref (ad 0)), (1, .int x1), (2, .int x2), (3, .int z3), (4, .int z4)] → W p l e { frames := 2, cells := 0, slots := 0, locals := 49 } s m args below meth c H locs 0 0 (Zi D (rtys cI cL) (rw_ ad cI cL) A below args s Q) (F0 m 36 ls [])) (hK : ∀ (S : MS) (z3 : Int32) (H : Heap) (locs : List Loc) (ls : Array Slot), K S z3 → WW D (rtys cI cL) (rw_ ad cI cL S) A s H locs → lv_has ls 5 [(0, .ref (ad 0)), (1, .int x1), (2, .int x2), (3, .int z3)] → W p l e { frames := 2, cells := 0, slots := 0, locals := 49 } s m args below meth c H locs 0 0 (Zi D (rtys cI cL) (rw_ ad cI cL) A below args s Q) (F0 m 81 ls [])) : W p l e { frames := 2, cells := 0, slots := 0, locals := 49 } s m args below meth c H locs 0 0 (Zi D (rtys cI cL) (rw_ ad cI cL) A below args s Q) (F0 m 74 ls [.int t0]) := by
  have hx := C.1
  have hb := C.2.1
  unfold JX6_shareOf_74 at hq
  refine lv_istore_n (lv' := [(3, .int t0), (0, .ref (ad 0)), (1, .int x1), (2, .int x2), (4, .int x4)]) hx hb dX6_shareOf_74 rfl hl (by decide) rfl (fun ls hl => ?_)
  refine lv_iinc (v := x4 + 1) (lv' := [(4, .int (x4 + 1)), (3, .int t0), (0, .ref (ad 0)), (1, .int x1), (2, .int x2)]) hx hb dX6_shareOf_75 hl (k := 4) rfl rfl (by decide) rfl (fun ls hl => ?_)
  refine lv_goto (tgt := 36) hx hb dX6_shareOf_78 (by decide) ?_
  exact hH S t0 (x4 + 1) _ _ _ hq hw (lv_sub hl [2, 3, 4, 1, 0] rfl)
set_option maxHeartbeats 4000000 in
set_option maxRecDepth 100000 in
theorem kLX6_shareOf_36 {p : Program} {l : Launch} {e : Env} {s : State} {m : MethodId} {args : Array Value} {below : List Frame} {meth : Method} {c : Code} {D : va_G} {ad : Nat → Nat} {cI cL : ClassId} {A : Nat → Prop} (C : Cx p s m args meth c yX6_shareOf.cls cX6_shareOf 5 (some .int)) (x1 : Int32) (x2 : Int32) (K : MS → Int32 → Prop) (Q : Int32 → MS → Prop) (hK : ∀ (S : MS) (z3 : Int32) (H : Heap) (locs : List Loc) (ls : Array Slot), K S z3 → WW D (rtys cI cL) (rw_ ad cI cL S) A s H locs → lv_has ls 5 [(0, .ref (ad 0)), (1, .int x1), (2, .int x2), (3, .int z3)] → W p l e { frames := 2, cells := 0, slots := 0, locals := 49 } s m args below meth c H locs 0 0 (Zi D (rtys cI cL) (rw_ ad cI cL) A below args s Q) (F0 m 81 ls [])) : ∀ (n : Nat) (S : MS) (x3 : Int32) (x4 : Int32) (_ : LX6_shareOf_36 x1 x2 K Q n S x3 x4) (H : Heap) (locs : List Loc) (ls : Array Slot), WW D (rtys cI cL) (rw_ ad cI cL S) A s H locs → lv_has ls 5 [(0, .ref (ad 0)), (1, .int x1), (2, .int x2), (3, .int x3), (4, .int x4)] → W p l e { frames := 2, cells := 0, slots := 0, locals := 49 } s m args below meth c H locs 0 0 (Zi D (rtys cI cL) (rw_ ad cI cL) A below args s Q) (F0 m 36 ls []) := by
  have hx := C.1
  have hb := C.2.1
  intro n
  induction n with
  | zero => intro S x3 x4 hq; exact absurd hq (by rw [LX6_shareOf_36]; exact id)
  | succ n ih =>
    intro S x3 x4 hq H locs ls hw hl
    rw [LX6_shareOf_36] at hq
    refine lv_iload hx hb dX6_shareOf_36 (lv_at hl 4 rfl) ?_
    refine lv_bipush (v := 12) hx hb dX6_shareOf_38 (by decide) ?_
    refine lv_iload_n hx hb dX6_shareOf_40 rfl (lv_at hl 1 rfl) ?_
    refine lv_imul hx hb dX6_shareOf_41 ?_
    refine lv_aload_n hx hb dX6_shareOf_42 rfl (lv_at hl 0 rfl) ?_
    refine w_get C hw uw_X6 0 rO rfl 5 (by decide) fl_X6_22 rfl dX6_shareOf_43 ?_
    refine lv_iload_n hx hb dX6_shareOf_46 rfl (lv_at hl 1 rfl) ?_
    obtain ⟨hin, hq⟩ := hq
    refine w_ild C hw 5 0 rI_4 rfl hin dX6_shareOf_47 ?_
    refine lv_iadd hx hb dX6_shareOf_48 ?_
    refine lv_icmp_ge (tgt := 81) hx hb dX6_shareOf_49 (by decide) (fun hc => ?_) (fun hc => ?_)
    · replace hq := hq.1 hc
      exact hK S x3 _ _ _ hq hw (lv_sub hl [0, 1, 2, 3] rfl)
    · replace hq := hq.2 hc
      refine lv_aload_n hx hb dX6_shareOf_52 rfl (lv_at hl 0 rfl) ?_
      refine w_get C hw uw_X6 0 rO rfl 6 (by decide) fl_X6_25 rfl dX6_shareOf_53 ?_
      refine lv_iload hx hb dX6_shareOf_56 (lv_at hl 4 rfl) ?_
      obtain ⟨hin, hq⟩ := hq
      refine w_ild C hw 6 0 rI_5 rfl hin dX6_shareOf_58 ?_
      refine lv_iload_n hx hb dX6_shareOf_59 rfl (lv_at hl 2 rfl) ?_
      refine lv_icmp_gt (tgt := 73) hx hb dX6_shareOf_60 (by decide) (fun hc => ?_) (fun hc => ?_)
      · replace hq := hq.1 hc
        refine lv_iload_n hx hb dX6_shareOf_73 rfl (lv_at hl 3 rfl) ?_
        exact kJX6_shareOf_74 C S x1 x2 x4 x3 _ K Q hq _ _ _ hw (lv_sub hl [0, 1, 2, 4] rfl) (fun S a3 a4 H locs ls hq hw hl => ih S a3 a4 hq H locs ls hw hl) hK
      · replace hq := hq.2 hc
        refine lv_aload_n hx hb dX6_shareOf_63 rfl (lv_at hl 0 rfl) ?_
        refine w_get C hw uw_X6 0 rO rfl 6 (by decide) fl_X6_25 rfl dX6_shareOf_64 ?_
        refine lv_iload hx hb dX6_shareOf_67 (lv_at hl 4 rfl) ?_
        obtain ⟨hin, hq⟩ := hq
        refine w_ild C hw 6 0 rI_5 rfl hin dX6_shareOf_69 ?_
        refine lv_goto (tgt := 74) hx hb dX6_shareOf_70 (by decide) ?_
        exact kJX6_shareOf_74 C S x1 x2 x4 (S.1 5 x4.toNatClampNeg) _ K Q hq _ _ _ hw (lv_sub hl [0, 1, 2, 4] rfl) (fun S a3 a4 H locs ls hq hw hl => ih S a3 a4 hq H locs ls hw hl) hK
set_option maxHeartbeats 4000000 in
set_option maxRecDepth 100000 in
theorem kJX6_shareOf_104 {p : Program} {l : Launch} {e : Env} {s : State} {m : MethodId} {args : Array Value} {below : List Frame} {meth : Method} {c : Code} {D : va_G} {ad : Nat → Nat} {cI cL : ClassId} {A : Nat → Prop} (C : Cx p s m args meth c yX6_shareOf.cls cX6_shareOf 5 (some .int)) (S : MS) (x1 : Int32) (x2 : Int32) (t0 : Int32) (Q : Int32 → MS → Prop) (hq : JX6_shareOf_104 S x1 x2 t0 Q) (H : Heap) (locs : List Loc) (ls : Array Slot) (hw : WW D (rtys cI cL) (rw_ ad cI cL S) A s H locs) (hl : lv_has ls 5 [(0, .ref (ad 0)), (1, .int x1), (2, .int x2)]) : W p l e { frames := 2, cells := 0, slots := 0, locals := 49 } s m args below meth c H locs 0 0 (Zi D (rtys cI cL) (rw_ ad cI cL) A below args s Q) (F0 m 104 ls [.int t0]) := by
  have hx := C.1
  have hb := C.2.1
  unfold JX6_shareOf_104 at hq
  refine lv_istore_n (lv' := [(3, .int t0), (0, .ref (ad 0)), (1, .int x1), (2, .int x2)]) hx hb dX6_shareOf_104 rfl hl (by decide) rfl (fun ls hl => ?_)
  refine lv_aload_n hx hb dX6_shareOf_105 rfl (lv_at hl 1 rfl) ?_
  refine w_get C hw uw_X6 0 rO rfl 1 (by decide) fl_X6_7 rfl dX6_shareOf_106 ?_
  refine lv_iload_n hx hb dX6_shareOf_109 rfl (lv_at hl 2 rfl) ?_
  obtain ⟨hin, hq⟩ := hq
  refine w_ild C hw 1 0 rI_0 rfl hin dX6_shareOf_110 ?_
  refine lv_aload_n hx hb dX6_shareOf_111 rfl (lv_at hl 1 rfl) ?_
  refine w_get C hw uw_X6 0 rO rfl 2 (by decide) fl_X6_13 rfl dX6_shareOf_112 ?_
  refine lv_iload_n hx hb dX6_shareOf_115 rfl (lv_at hl 2 rfl) ?_
  obtain ⟨hin, hq⟩ := hq
  refine w_ild C hw 2 0 rI_1 rfl hin dX6_shareOf_116 ?_
  refine lv_iload_n hx hb dX6_shareOf_117 rfl (lv_at hl 3 rfl) ?_
  refine lv_iload_n hx hb dX6_shareOf_118 rfl (lv_at hl 0 rfl) ?_
  refine lv_isub hx hb dX6_shareOf_119 ?_
  refine lv_imul hx hb dX6_shareOf_120 ?_
  refine lv_iadd hx hb dX6_shareOf_121 ?_
  refine lv_topi (fun v_2 ev_2 => ?_)
  replace hq := hq v_2 ev_2
  refine lv_istore (lv' := [(4, .int v_2), (3, .int t0), (0, .ref (ad 0)), (1, .int x1), (2, .int x2)]) hx hb dX6_shareOf_122 hl (by decide) rfl (fun ls hl => ?_)
  refine lv_iload hx hb dX6_shareOf_124 (lv_at hl 0 rfl) ?_
  refine lv_bipush (v := 64) hx hb dX6_shareOf_126 (by decide) ?_
  refine lv_icmp_le (tgt := 136) hx hb dX6_shareOf_128 (by decide) (fun hc => ?_) (fun hc => ?_)
  · replace hq := hq.1 hc
    refine lv_iload hx hb dX6_shareOf_136 (lv_at hl 0 rfl) ?_
    exact w_iret C hw hq dX6_shareOf_138
  · replace hq := hq.2 hc
    refine lv_bipush (v := 64) hx hb dX6_shareOf_131 (by decide) ?_
    refine lv_goto (tgt := 138) hx hb dX6_shareOf_133 (by decide) ?_
    exact w_iret C hw hq dX6_shareOf_138
set_option maxHeartbeats 4000000 in
set_option maxRecDepth 100000 in
theorem mX6_shareOf (l : Launch) (D : va_G) (ad : Nat → Nat) (cI cL : ClassId) (S : MS) (x1 : Int32) (x2 : Int32) (Q : Int32 → MS → Prop) (hq : wX6_shareOf S x1 x2 Q) : Mi l yX6_shareOf cX6_shareOf 5 (some .int) { frames := 2, cells := 0, slots := 0, locals := 49 } D (rtys cI cL) (rw_ ad cI cL) [.ref (ad 0), .int x1, .int x2] S Q := by
  refine Mi.of (by decide +kernel) (Nat.le_of_ble_eq_true rfl) ?_
  intro p e s m args below meth c A ls C hw hl
  have hx := C.1
  have hb := C.2.1
  have hl : lv_has ls 5 [(0, .ref (ad 0)), (1, .int x1), (2, .int x2)] := hl
  have hw : WW D (rtys cI cL) (rw_ ad cI cL S) A s s.heap [] := hw
  unfold wX6_shareOf at hq
  refine lv_aload_n hx hb dX6_shareOf_0 rfl (lv_at hl 0 rfl) ?_
  refine w_get C hw uw_X6 0 rO rfl 8 (by decide) fl_X6_31 rfl dX6_shareOf_1 ?_
  refine lv_iload_n hx hb dX6_shareOf_4 rfl (lv_at hl 1 rfl) ?_
  obtain ⟨hin, hq⟩ := hq
  refine w_ild C hw 8 0 rI_7 rfl hin dX6_shareOf_5 ?_
  refine lv_if_lt (tgt := 16) hx hb dX6_shareOf_6 (by decide) (fun hc => ?_) (fun hc => ?_)
  · replace hq := hq.1 hc
    refine lv_aload_n hx hb dX6_shareOf_16 rfl (lv_at hl 0 rfl) ?_
    refine lv_iload_n hx hb dX6_shareOf_17 rfl (lv_at hl 1 rfl) ?_
    refine lv_iload_n hx hb dX6_shareOf_18 rfl (lv_at hl 2 rfl) ?_
    refine w_calli hw (w_runV (rest := []) C hw (mX6_isBypassed l D ad cI cL S x1 x2 _ hq _) kc_X6_isBypassed ml_X6_103 0 rO rfl rfl ⟨rfl, rfl, Nat.le_of_ble_eq_true rfl, Nat.le_of_ble_eq_true rfl⟩ rfl rfl (Nat.le_of_ble_eq_true rfl) hl.1 dX6_shareOf_19) ?_
    clear hw hq
    intro r_2 S_1 H locs hq hw
    refine lv_if_eq (tgt := 28) hx hb dX6_shareOf_22 (by decide) (fun hc => ?_) (fun hc => ?_)
    · replace hq := hq.1 hc
      refine lv_iconst (v := 0) hx hb dX6_shareOf_28 (by decide) ?_
      refine lv_istore_n (lv' := [(3, .int 0), (0, .ref (ad 0)), (1, .int x1), (2, .int x2)]) hx hb dX6_shareOf_29 rfl hl (by decide) rfl (fun ls hl => ?_)
      refine lv_bipush (v := 12) hx hb dX6_shareOf_30 (by decide) ?_
      refine lv_iload_n hx hb dX6_shareOf_32 rfl (lv_at hl 2 rfl) ?_
      refine lv_imul hx hb dX6_shareOf_33 ?_
      refine lv_istore (lv' := [(4, .int (12 * x1)), (3, .int 0), (0, .ref (ad 0)), (1, .int x1), (2, .int x2)]) hx hb dX6_shareOf_34 hl (by decide) rfl (fun ls hl => ?_)
      obtain ⟨n0, hq⟩ := hq
      refine kLX6_shareOf_36 C x1 x2 _ Q ?_ n0 S_1 0 (12 * x1) hq _ _ _ hw (lv_sub hl [2, 3, 4, 1, 0] rfl)
      clear hw hl hq
      intro S_3 y_4 H locs ls hq hw hl
      refine lv_aload_n hx hb dX6_shareOf_81 rfl (lv_at hl 0 rfl) ?_
      refine w_get C hw uw_X6 0 rO rfl 7 (by decide) fl_X6_28 rfl dX6_shareOf_82 ?_
      refine lv_iload_n hx hb dX6_shareOf_85 rfl (lv_at hl 1 rfl) ?_
      obtain ⟨hin, hq⟩ := hq
      refine w_ild C hw 7 0 rI_6 rfl hin dX6_shareOf_86 ?_
      refine lv_if_le (tgt := 103) hx hb dX6_shareOf_87 (by decide) (fun hc => ?_) (fun hc => ?_)
      · replace hq := hq.1 hc
        refine lv_iload_n hx hb dX6_shareOf_103 rfl (lv_at hl 3 rfl) ?_
        exact kJX6_shareOf_104 C S_3 x1 x2 y_4 Q hq _ _ _ hw (lv_sub hl [0, 1, 2] rfl)
      · replace hq := hq.2 hc
        refine lv_iload_n hx hb dX6_shareOf_90 rfl (lv_at hl 2 rfl) ?_
        refine lv_iload_n hx hb dX6_shareOf_91 rfl (lv_at hl 2 rfl) ?_
        refine lv_aload_n hx hb dX6_shareOf_92 rfl (lv_at hl 0 rfl) ?_
        refine w_get C hw uw_X6 0 rO rfl 7 (by decide) fl_X6_28 rfl dX6_shareOf_93 ?_
        refine lv_iload_n hx hb dX6_shareOf_96 rfl (lv_at hl 1 rfl) ?_
        obtain ⟨hin, hq⟩ := hq
        refine w_ild C hw 7 0 rI_6 rfl hin dX6_shareOf_97 ?_
        obtain ⟨hne, hq⟩ := hq
        refine lv_irem hx hb dX6_shareOf_98 hne ?_
        refine lv_isub hx hb dX6_shareOf_99 ?_
        refine lv_goto (tgt := 104) hx hb dX6_shareOf_100 (by decide) ?_
        exact kJX6_shareOf_104 C S_3 x1 x2 (x2 - (x2 - x2 / (S_3.1 6 x1.toNatClampNeg) * (S_3.1 6 x1.toNatClampNeg))) Q hq _ _ _ hw (lv_sub hl [0, 1, 2] rfl)
    · replace hq := hq.2 hc
      refine lv_bipush (v := 64) hx hb dX6_shareOf_25 (by decide) ?_
      exact w_iret C hw hq dX6_shareOf_27
  · replace hq := hq.2 hc
    refine lv_aload_n hx hb dX6_shareOf_9 rfl (lv_at hl 0 rfl) ?_
    refine w_get C hw uw_X6 0 rO rfl 8 (by decide) fl_X6_31 rfl dX6_shareOf_10 ?_
    refine lv_iload_n hx hb dX6_shareOf_13 rfl (lv_at hl 1 rfl) ?_
    obtain ⟨hin, hq⟩ := hq
    refine w_ild C hw 8 0 rI_7 rfl hin dX6_shareOf_14 ?_
    exact w_iret C hw hq dX6_shareOf_15
set_option maxHeartbeats 4000000 in
set_option maxRecDepth 100000 in
theorem mX6_share (l : Launch) (D : va_G) (ad : Nat → Nat) (cI cL : ClassId) (S : MS) (x1 : Int32) (x2 : Int32) (Q : Int32 → MS → Prop) (hq : wX6_share S x1 x2 Q) : Mi l yX6_share cX6_share 3 (some .int) { frames := 3, cells := 0, slots := 0, locals := 73 } D (rtys cI cL) (rw_ ad cI cL) [.ref (ad 0), .int x1, .int x2] S Q := by
  refine Mi.of (by decide +kernel) (Nat.le_of_ble_eq_true rfl) ?_
  intro p e s m args below meth c A ls C hw hl
  have hx := C.1
  have hb := C.2.1
  have hl : lv_has ls 3 [(0, .ref (ad 0)), (1, .int x1), (2, .int x2)] := hl
  have hw : WW D (rtys cI cL) (rw_ ad cI cL S) A s s.heap [] := hw
  unfold wX6_share at hq
  refine lv_aload_n hx hb dX6_share_0 rfl (lv_at hl 0 rfl) ?_
  refine lv_iload_n hx hb dX6_share_1 rfl (lv_at hl 1 rfl) ?_
  refine w_calli hw (w_runV (rest := []) C hw (mX6_isPart l D ad cI cL S x1 _ hq _) kc_X6_isPart ml_X6_89 0 rO rfl rfl ⟨rfl, rfl, Nat.le_of_ble_eq_true rfl, Nat.le_of_ble_eq_true rfl⟩ rfl rfl (Nat.le_of_ble_eq_true rfl) hl.1 dX6_share_2) ?_
  clear hw hq
  intro r_2 S_1 H locs hq hw
  refine lv_if_eq (tgt := 24) hx hb dX6_share_5 (by decide) (fun hc => ?_) (fun hc => ?_)
  · replace hq := hq.1 hc
    refine lv_iconst (v := (-1)) hx hb dX6_share_24 (by decide) ?_
    exact w_iret C hw hq dX6_share_25
  · replace hq := hq.2 hc
    refine lv_iload_n hx hb dX6_share_8 rfl (lv_at hl 2 rfl) ?_
    refine w_calli hw (w_runS (rest := []) C hw (mX6_isDay l D ad cI cL S_1 x2 _ hq _) kc_X6_isDay ml_X6_93 ⟨rfl, rfl, Nat.le_of_ble_eq_true rfl, Nat.le_of_ble_eq_true rfl⟩ rfl rfl (Nat.le_of_ble_eq_true rfl) hl.1 dX6_share_9) ?_
    clear hw hq
    intro r_4 S_3 H locs hq hw
    refine lv_if_eq (tgt := 24) hx hb dX6_share_12 (by decide) (fun hc => ?_) (fun hc => ?_)
    · replace hq := hq.1 hc
      refine lv_iconst (v := (-1)) hx hb dX6_share_24 (by decide) ?_
      exact w_iret C hw hq dX6_share_25
    · replace hq := hq.2 hc
      refine lv_aload_n hx hb dX6_share_15 rfl (lv_at hl 0 rfl) ?_
      refine lv_iload_n hx hb dX6_share_16 rfl (lv_at hl 1 rfl) ?_
      refine lv_iload_n hx hb dX6_share_17 rfl (lv_at hl 2 rfl) ?_
      refine w_calli hw (w_runV (rest := []) C hw (mX6_shareOf l D ad cI cL S_3 x1 x2 _ hq _) kc_X6_shareOf ml_X6_120 0 rO rfl rfl ⟨rfl, rfl, Nat.le_of_ble_eq_true rfl, Nat.le_of_ble_eq_true rfl⟩ rfl rfl (Nat.le_of_ble_eq_true rfl) hl.1 dX6_share_18) ?_
      clear hw hq
      intro r_6 S_5 H locs hq hw
      refine lv_goto (tgt := 25) hx hb dX6_share_21 (by decide) ?_
      exact w_iret C hw hq dX6_share_25
set_option maxHeartbeats 4000000 in
set_option maxRecDepth 100000 in
theorem kJX6_partsOf_75 {p : Program} {l : Launch} {e : Env} {s : State} {m : MethodId} {args : Array Value} {below : List Frame} {meth : Method} {c : Code} {D : va_G} {ad : Nat → Nat} {cI cL : ClassId} {A : Nat → Prop} (C : Cx p s m args meth c yX6_partsOf.cls cX6_partsOf 4 (some .int)) (S : MS) (x1 : Int32) (x2 : Int32) (x3 : Int32) (t0 : Int32) (t1 : Int32) (t2 : Int32) (Hd : MS → Int32 → Prop) (K : MS → Prop) (Q : Int32 → MS → Prop) (hq : JX6_partsOf_75 S x1 x2 x3 t0 t1 t2 Hd K Q) (H : Heap) (locs : List Loc) (ls : Array Slot) (hw : WW D (rtys cI cL) (rw_ ad cI cL S) A s H locs) (hl : lv_has ls 4 [(0, .ref (ad 0)), (1, .int x1), (2, .int x2), (3, .int x3)]) (hH : ∀ (S : MS) (z3 : Int32) (H : Heap) (locs : List Loc) (ls : Array Slot), Hd S z3 → WW D (rtys cI cL) (rw_ ad cI cL S) A s H locs → lv_has ls 4 [(0, .ref (ad 0)), (1, .int x1), (2, .int x2), (3, .int z3)] → W p l e { frames := 0, cells := 0, slots := 0, locals := 0 } s m args below meth c H locs 0 0 (Zi D (rtys cI cL) (rw_ ad cI cL) A below args s Q) (F0 m 18 ls [])) (hK : ∀ (S : MS) (H : Heap) (locs : List Loc) (ls : Array Slot), K S  → WW D (rtys cI cL) (rw_ ad cI cL S) A s H locs → lv_has ls 4 [(0, .ref (ad 0)), (1, .int x1), (2, .int x2)] → W p l e { frames := 0, cells := 0, slots := 0, locals := 0 } s m args below meth c H locs 0 0 (Zi D (rtys cI cL) (rw_ ad cI cL) A below args s Q) (F0 m 83 ls [])) : W p l e { frames := 0, cells := 0, slots := 0, locals := 0 } s m args below meth c H locs 0 0 (Zi D (rtys cI cL) (rw_ ad cI cL) A below args s Q) (F0 m 75 ls [.int t2, .int t1, .int t0, .ref (ad 17)]) := by
  have hx := C.1
  have hb := C.2.1
  unfold JX6_partsOf_75 at hq
  refine lv_ior hx hb dX6_partsOf_75 ?_
  obtain ⟨hin, hq⟩ := hq
  obtain ⟨S_2, eS_2⟩ : ∃ z, z = uI S 16 t0.toNatClampNeg (t1 ||| t2) := ⟨_, rfl⟩
  replace hq := hq S_2 eS_2
  refine w_ist (ws' := rw_ ad cI cL S_2) C hw 17 0 rI_16 rfl hin dX6_partsOf_76 (by rw [eS_2]; exact rIs_16) (fun H locs hw => ?_)
  refine lv_iinc (v := x3 + 1) (lv' := [(3, .int (x3 + 1)), (0, .ref (ad 0)), (1, .int x1), (2, .int x2)]) hx hb dX6_partsOf_77 hl (k := 3) rfl rfl (by decide) rfl (fun ls hl => ?_)
  refine lv_goto (tgt := 18) hx hb dX6_partsOf_80 (by decide) ?_
  exact hH S_2 (x3 + 1) _ _ _ hq hw (lv_sub hl [1, 2, 3, 0] rfl)
set_option maxHeartbeats 4000000 in
set_option maxRecDepth 100000 in
theorem kLX6_partsOf_18 {p : Program} {l : Launch} {e : Env} {s : State} {m : MethodId} {args : Array Value} {below : List Frame} {meth : Method} {c : Code} {D : va_G} {ad : Nat → Nat} {cI cL : ClassId} {A : Nat → Prop} (C : Cx p s m args meth c yX6_partsOf.cls cX6_partsOf 4 (some .int)) (x1 : Int32) (x2 : Int32) (K : MS → Prop) (Q : Int32 → MS → Prop) (hK : ∀ (S : MS) (H : Heap) (locs : List Loc) (ls : Array Slot), K S  → WW D (rtys cI cL) (rw_ ad cI cL S) A s H locs → lv_has ls 4 [(0, .ref (ad 0)), (1, .int x1), (2, .int x2)] → W p l e { frames := 0, cells := 0, slots := 0, locals := 0 } s m args below meth c H locs 0 0 (Zi D (rtys cI cL) (rw_ ad cI cL) A below args s Q) (F0 m 83 ls [])) : ∀ (n : Nat) (S : MS) (x3 : Int32) (_ : LX6_partsOf_18 x1 x2 K Q n S x3) (H : Heap) (locs : List Loc) (ls : Array Slot), WW D (rtys cI cL) (rw_ ad cI cL S) A s H locs → lv_has ls 4 [(0, .ref (ad 0)), (1, .int x1), (2, .int x2), (3, .int x3)] → W p l e { frames := 0, cells := 0, slots := 0, locals := 0 } s m args below meth c H locs 0 0 (Zi D (rtys cI cL) (rw_ ad cI cL) A below args s Q) (F0 m 18 ls []) := by
  have hx := C.1
  have hb := C.2.1
  intro n
  induction n with
  | zero => intro S x3 hq; exact absurd hq (by rw [LX6_partsOf_18]; exact id)
  | succ n ih =>
    intro S x3 hq H locs ls hw hl
    rw [LX6_partsOf_18] at hq
    refine lv_iload_n hx hb dX6_partsOf_18 rfl (lv_at hl 3 rfl) ?_
    refine lv_iconst (v := 4) hx hb dX6_partsOf_19 (by decide) ?_
    refine lv_iload_n hx hb dX6_partsOf_20 rfl (lv_at hl 2 rfl) ?_
    refine lv_imul hx hb dX6_partsOf_21 ?_
    refine lv_aload_n hx hb dX6_partsOf_22 rfl (lv_at hl 0 rfl) ?_
    refine w_get C hw uw_X6 0 rO rfl 18 (by decide) fl_X6_52 rfl dX6_partsOf_23 ?_
    refine lv_iload_n hx hb dX6_partsOf_26 rfl (lv_at hl 2 rfl) ?_
    obtain ⟨hin, hq⟩ := hq
    refine w_ild C hw 15 0 rI_14 rfl hin dX6_partsOf_27 ?_
    refine lv_iadd hx hb dX6_partsOf_28 ?_
    refine lv_icmp_ge (tgt := 83) hx hb dX6_partsOf_29 (by decide) (fun hc => ?_) (fun hc => ?_)
    · replace hq := hq.1 hc
      exact hK S  _ _ _ hq hw (lv_sub hl [0, 1, 2] rfl)
    · replace hq := hq.2 hc
      refine lv_aload_n hx hb dX6_partsOf_32 rfl (lv_at hl 0 rfl) ?_
      refine w_get C hw uw_X6 0 rO rfl 20 (by decide) fl_X6_58 rfl dX6_partsOf_33 ?_
      refine lv_iload_n hx hb dX6_partsOf_36 rfl (lv_at hl 2 rfl) ?_
      refine lv_dup2_11 hx hb dX6_partsOf_37 rfl rfl ?_
      obtain ⟨hin, hq⟩ := hq
      refine w_ild C hw 17 0 rI_16 rfl hin dX6_partsOf_38 ?_
      refine lv_aload_n hx hb dX6_partsOf_39 rfl (lv_at hl 0 rfl) ?_
      refine w_get C hw uw_X6 0 rO rfl 19 (by decide) fl_X6_55 rfl dX6_partsOf_40 ?_
      refine lv_iload_n hx hb dX6_partsOf_43 rfl (lv_at hl 3 rfl) ?_
      obtain ⟨hin, hq⟩ := hq
      refine w_ild C hw 16 0 rI_15 rfl hin dX6_partsOf_44 ?_
      refine lv_bipush (v := 12) hx hb dX6_partsOf_45 (by decide) ?_
      refine lv_icmp_ge (tgt := 61) hx hb dX6_partsOf_47 (by decide) (fun hc => ?_) (fun hc => ?_)
      · replace hq := hq.1 hc
        refine lv_aload_n hx hb dX6_partsOf_61 rfl (lv_at hl 0 rfl) ?_
        refine w_get C hw uw_X6 0 rO rfl 20 (by decide) fl_X6_58 rfl dX6_partsOf_62 ?_
        refine lv_aload_n hx hb dX6_partsOf_65 rfl (lv_at hl 0 rfl) ?_
        refine w_get C hw uw_X6 0 rO rfl 19 (by decide) fl_X6_55 rfl dX6_partsOf_66 ?_
        refine lv_iload_n hx hb dX6_partsOf_69 rfl (lv_at hl 3 rfl) ?_
        obtain ⟨hin, hq⟩ := hq
        refine w_ild C hw 16 0 rI_15 rfl hin dX6_partsOf_70 ?_
        refine lv_bipush (v := 12) hx hb dX6_partsOf_71 (by decide) ?_
        refine lv_isub hx hb dX6_partsOf_73 ?_
        obtain ⟨hin, hq⟩ := hq
        refine w_ild C hw 17 0 rI_16 rfl hin dX6_partsOf_74 ?_
        exact kJX6_partsOf_75 C S x1 x2 x3 x2 (S.1 16 x2.toNatClampNeg) (S.1 16 ((S.1 15 x3.toNatClampNeg) - 12).toNatClampNeg) _ K Q hq _ _ _ hw (lv_sub hl [0, 1, 2, 3] rfl) (fun S a3 H locs ls hq hw hl => ih S a3 hq H locs ls hw hl) hK
      · replace hq := hq.2 hc
        refine lv_iconst (v := 1) hx hb dX6_partsOf_50 (by decide) ?_
        refine lv_aload_n hx hb dX6_partsOf_51 rfl (lv_at hl 0 rfl) ?_
        refine w_get C hw uw_X6 0 rO rfl 19 (by decide) fl_X6_55 rfl dX6_partsOf_52 ?_
        refine lv_iload_n hx hb dX6_partsOf_55 rfl (lv_at hl 3 rfl) ?_
        obtain ⟨hin, hq⟩ := hq
        refine w_ild C hw 16 0 rI_15 rfl hin dX6_partsOf_56 ?_
        refine lv_ishl hx hb dX6_partsOf_57 ?_
        refine lv_goto (tgt := 75) hx hb dX6_partsOf_58 (by decide) ?_
        exact kJX6_partsOf_75 C S x1 x2 x3 x2 (S.1 16 x2.toNatClampNeg) ((1 : Int32) <<< ((S.1 15 x3.toNatClampNeg) &&& 31)) _ K Q hq _ _ _ hw (lv_sub hl [0, 1, 2, 3] rfl) (fun S a3 H locs ls hq hw hl => ih S a3 hq H locs ls hw hl) hK
set_option maxHeartbeats 4000000 in
set_option maxRecDepth 100000 in
theorem kLX6_partsOf_2 {p : Program} {l : Launch} {e : Env} {s : State} {m : MethodId} {args : Array Value} {below : List Frame} {meth : Method} {c : Code} {D : va_G} {ad : Nat → Nat} {cI cL : ClassId} {A : Nat → Prop} (C : Cx p s m args meth c yX6_partsOf.cls cX6_partsOf 4 (some .int)) (x1 : Int32) (K : MS → Prop) (Q : Int32 → MS → Prop) (hK : ∀ (S : MS) (H : Heap) (locs : List Loc) (ls : Array Slot), K S  → WW D (rtys cI cL) (rw_ ad cI cL S) A s H locs → lv_has ls 4 [(0, .ref (ad 0)), (1, .int x1)] → W p l e { frames := 0, cells := 0, slots := 0, locals := 0 } s m args below meth c H locs 0 0 (Zi D (rtys cI cL) (rw_ ad cI cL) A below args s Q) (F0 m 89 ls [])) : ∀ (n : Nat) (S : MS) (x2 : Int32) (_ : LX6_partsOf_2 x1 K Q n S x2) (H : Heap) (locs : List Loc) (ls : Array Slot), WW D (rtys cI cL) (rw_ ad cI cL S) A s H locs → lv_has ls 4 [(0, .ref (ad 0)), (1, .int x1), (2, .int x2)] → W p l e { frames := 0, cells := 0, slots := 0, locals := 0 } s m args below meth c H locs 0 0 (Zi D (rtys cI cL) (rw_ ad cI cL) A below args s Q) (F0 m 2 ls []) := by
  have hx := C.1
  have hb := C.2.1
  intro n
  induction n with
  | zero => intro S x2 hq; exact absurd hq (by rw [LX6_partsOf_2]; exact id)
  | succ n ih =>
    intro S x2 hq H locs ls hw hl
    rw [LX6_partsOf_2] at hq
    refine lv_iload_n hx hb dX6_partsOf_2 rfl (lv_at hl 2 rfl) ?_
    refine lv_iload_n hx hb dX6_partsOf_3 rfl (lv_at hl 1 rfl) ?_
    refine lv_icmp_gt (tgt := 89) hx hb dX6_partsOf_4 (by decide) (fun hc => ?_) (fun hc => ?_)
    · replace hq := hq.1 hc
      exact hK S  _ _ _ hq hw (lv_sub hl [0, 1] rfl)
    · replace hq := hq.2 hc
      refine lv_aload_n hx hb dX6_partsOf_7 rfl (lv_at hl 0 rfl) ?_
      refine w_get C hw uw_X6 0 rO rfl 20 (by decide) fl_X6_58 rfl dX6_partsOf_8 ?_
      refine lv_iload_n hx hb dX6_partsOf_11 rfl (lv_at hl 2 rfl) ?_
      refine lv_iconst (v := 0) hx hb dX6_partsOf_12 (by decide) ?_
      obtain ⟨hin, hq⟩ := hq
      obtain ⟨S_1, eS_1⟩ : ∃ z, z = uI S 16 x2.toNatClampNeg 0 := ⟨_, rfl⟩
      replace hq := hq S_1 eS_1
      refine w_ist (ws' := rw_ ad cI cL S_1) C hw 17 0 rI_16 rfl hin dX6_partsOf_13 (by rw [eS_1]; exact rIs_16) (fun H locs hw => ?_)
      refine lv_iconst (v := 4) hx hb dX6_partsOf_14 (by decide) ?_
      refine lv_iload_n hx hb dX6_partsOf_15 rfl (lv_at hl 2 rfl) ?_
      refine lv_imul hx hb dX6_partsOf_16 ?_
      refine lv_istore_n (lv' := [(3, .int (4 * x2)), (0, .ref (ad 0)), (1, .int x1), (2, .int x2)]) hx hb dX6_partsOf_17 rfl hl (by decide) rfl (fun ls hl => ?_)
      obtain ⟨n0, hq⟩ := hq
      refine kLX6_partsOf_18 C x1 x2 _ Q ?_ n0 S_1 (4 * x2) hq _ _ _ hw (lv_sub hl [1, 2, 3, 0] rfl)
      clear hw hl hq
      intro S_2 H locs ls hq hw hl
      refine lv_iinc (v := x2 + 1) (lv' := [(2, .int (x2 + 1)), (0, .ref (ad 0)), (1, .int x1)]) hx hb dX6_partsOf_83 hl (k := 2) rfl rfl (by decide) rfl (fun ls hl => ?_)
      refine lv_goto (tgt := 2) hx hb dX6_partsOf_86 (by decide) ?_
      exact ih S_2 (x2 + 1) hq _ _ _ hw (lv_sub hl [1, 2, 0] rfl)
set_option maxHeartbeats 4000000 in
set_option maxRecDepth 100000 in
theorem mX6_partsOf (l : Launch) (D : va_G) (ad : Nat → Nat) (cI cL : ClassId) (S : MS) (x1 : Int32) (Q : Int32 → MS → Prop) (hq : wX6_partsOf S x1 Q) : Mi l yX6_partsOf cX6_partsOf 4 (some .int) { frames := 0, cells := 0, slots := 0, locals := 0 } D (rtys cI cL) (rw_ ad cI cL) [.ref (ad 0), .int x1] S Q := by
  refine Mi.of (by decide +kernel) (Nat.le_of_ble_eq_true rfl) ?_
  intro p e s m args below meth c A ls C hw hl
  have hx := C.1
  have hb := C.2.1
  have hl : lv_has ls 4 [(0, .ref (ad 0)), (1, .int x1)] := hl
  have hw : WW D (rtys cI cL) (rw_ ad cI cL S) A s s.heap [] := hw
  unfold wX6_partsOf at hq
  refine lv_iconst (v := 0) hx hb dX6_partsOf_0 (by decide) ?_
  refine lv_istore_n (lv' := [(2, .int 0), (0, .ref (ad 0)), (1, .int x1)]) hx hb dX6_partsOf_1 rfl hl (by decide) rfl (fun ls hl => ?_)
  obtain ⟨n0, hq⟩ := hq
  refine kLX6_partsOf_2 C x1 _ Q ?_ n0 S 0 hq _ _ _ hw (lv_sub hl [1, 2, 0] rfl)
  clear hw hl hq
  intro S_1 H locs ls hq hw hl
  refine lv_aload_n hx hb dX6_partsOf_89 rfl (lv_at hl 0 rfl) ?_
  refine w_get C hw uw_X6 0 rO rfl 20 (by decide) fl_X6_58 rfl dX6_partsOf_90 ?_
  refine lv_iload_n hx hb dX6_partsOf_93 rfl (lv_at hl 1 rfl) ?_
  obtain ⟨hin, hq⟩ := hq
  refine w_ild C hw 17 0 rI_16 rfl hin dX6_partsOf_94 ?_
  exact w_iret C hw hq dX6_partsOf_95
set_option maxHeartbeats 4000000 in
set_option maxRecDepth 100000 in
theorem kJX6_groupsOf_31 {p : Program} {l : Launch} {e : Env} {s : State} {m : MethodId} {args : Array Value} {below : List Frame} {meth : Method} {c : Code} {D : va_G} {ad : Nat → Nat} {cI cL : ClassId} {A : Nat → Prop} (C : Cx p s m args meth c yX6_groupsOf.cls cX6_groupsOf 4 (some .int)) (S : MS) (x1 : Int32) (x3 : Int32) (t0 : Int32) (t1 : Int32) (Hd : MS → Int32 → Int32 → Prop) (K : MS → Int32 → Prop) (Q : Int32 → MS → Prop) (hq : JX6_groupsOf_31 S x1 x3 t0 t1 Hd K Q) (H : Heap) (locs : List Loc) (ls : Array Slot) (hw : WW D (rtys cI cL) (rw_ ad cI cL S) A s H locs) (hl : lv_has ls 4 [(0, .ref (ad 0)), (1, .int x1), (3, .int x3)]) (hH : ∀ (S : MS) (z2 : Int32) (z3 : Int32) (H : Heap) (locs : List Loc) (ls : Array Slot), Hd S z2 z3 → WW D (rtys cI cL) (rw_ ad cI cL S) A s H locs → lv_has ls 4 [(0, .ref (ad 0)), (1, .int x1), (2, .int z2), (3, .int z3)] → W p l e { frames := 0, cells := 0, slots := 0, locals := 0 } s m args below meth c H locs 0 0 (Zi D (rtys cI cL) (rw_ ad cI cL) A below args s Q) (F0 m 4 ls [])) (hK : ∀ (S : MS) (z2 : Int32) (H : Heap) (locs : List Loc) (ls : Array Slot), K S z2 → WW D (rtys cI cL) (rw_ ad cI cL S) A s H locs → lv_has ls 4 [(2, .int z2)] → W p l e { frames := 0, cells := 0, slots := 0, locals := 0 } s m args below meth c H locs 0 0 (Zi D (rtys cI cL) (rw_ ad cI cL) A below args s Q) (F0 m 39 ls [])) : W p l e { frames := 0, cells := 0, slots := 0, locals := 0 } s m args below meth c H locs 0 0 (Zi D (rtys cI cL) (rw_ ad cI cL) A below args s Q) (F0 m 31 ls [.int t1, .int t0]) := by
  have hx := C.1
  have hb := C.2.1
  unfold JX6_groupsOf_31 at hq
  refine lv_ior hx hb dX6_groupsOf_31 ?_
  refine lv_istore_n (lv' := [(2, .int (t0 ||| t1)), (0, .ref (ad 0)), (1, .int x1), (3, .int x3)]) hx hb dX6_groupsOf_32 rfl hl (by decide) rfl (fun ls hl => ?_)
  refine lv_iinc (v := x3 + 1) (lv' := [(3, .int (x3 + 1)), (2, .int (t0 ||| t1)), (0, .ref (ad 0)), (1, .int x1)]) hx hb dX6_groupsOf_33 hl (k := 3) rfl rfl (by decide) rfl (fun ls hl => ?_)
  refine lv_goto (tgt := 4) hx hb dX6_groupsOf_36 (by decide) ?_
  exact hH S (t0 ||| t1) (x3 + 1) _ _ _ hq hw (lv_sub hl [2, 3, 1, 0] rfl)
set_option maxHeartbeats 4000000 in
set_option maxRecDepth 100000 in
theorem kLX6_groupsOf_4 {p : Program} {l : Launch} {e : Env} {s : State} {m : MethodId} {args : Array Value} {below : List Frame} {meth : Method} {c : Code} {D : va_G} {ad : Nat → Nat} {cI cL : ClassId} {A : Nat → Prop} (C : Cx p s m args meth c yX6_groupsOf.cls cX6_groupsOf 4 (some .int)) (x1 : Int32) (K : MS → Int32 → Prop) (Q : Int32 → MS → Prop) (hK : ∀ (S : MS) (z2 : Int32) (H : Heap) (locs : List Loc) (ls : Array Slot), K S z2 → WW D (rtys cI cL) (rw_ ad cI cL S) A s H locs → lv_has ls 4 [(2, .int z2)] → W p l e { frames := 0, cells := 0, slots := 0, locals := 0 } s m args below meth c H locs 0 0 (Zi D (rtys cI cL) (rw_ ad cI cL) A below args s Q) (F0 m 39 ls [])) : ∀ (n : Nat) (S : MS) (x2 : Int32) (x3 : Int32) (_ : LX6_groupsOf_4 x1 K Q n S x2 x3) (H : Heap) (locs : List Loc) (ls : Array Slot), WW D (rtys cI cL) (rw_ ad cI cL S) A s H locs → lv_has ls 4 [(0, .ref (ad 0)), (1, .int x1), (2, .int x2), (3, .int x3)] → W p l e { frames := 0, cells := 0, slots := 0, locals := 0 } s m args below meth c H locs 0 0 (Zi D (rtys cI cL) (rw_ ad cI cL) A below args s Q) (F0 m 4 ls []) := by
  have hx := C.1
  have hb := C.2.1
  intro n
  induction n with
  | zero => intro S x2 x3 hq; exact absurd hq (by rw [LX6_groupsOf_4]; exact id)
  | succ n ih =>
    intro S x2 x3 hq H locs ls hw hl
    rw [LX6_groupsOf_4] at hq
    refine lv_iload_n hx hb dX6_groupsOf_4 rfl (lv_at hl 3 rfl) ?_
    refine lv_aload_n hx hb dX6_groupsOf_5 rfl (lv_at hl 0 rfl) ?_
    refine w_get C hw uw_X6 0 rO rfl 13 (by decide) fl_X6_110 rfl dX6_groupsOf_6 ?_
    refine lv_icmp_ge (tgt := 39) hx hb dX6_groupsOf_9 (by decide) (fun hc => ?_) (fun hc => ?_)
    · replace hq := hq.1 hc
      exact hK S x2 _ _ _ hq hw (lv_sub hl [2] rfl)
    · replace hq := hq.2 hc
      refine lv_iload_n hx hb dX6_groupsOf_12 rfl (lv_at hl 2 rfl) ?_
      refine lv_aload_n hx hb dX6_groupsOf_13 rfl (lv_at hl 0 rfl) ?_
      refine w_get C hw uw_X6 0 rO rfl 15 (by decide) fl_X6_46 rfl dX6_groupsOf_14 ?_
      refine lv_iload_n hx hb dX6_groupsOf_17 rfl (lv_at hl 3 rfl) ?_
      obtain ⟨hin, hq⟩ := hq
      refine w_ild C hw 13 0 rI_12 rfl hin dX6_groupsOf_18 ?_
      refine lv_iload_n hx hb dX6_groupsOf_19 rfl (lv_at hl 1 rfl) ?_
      refine lv_iand hx hb dX6_groupsOf_20 ?_
      refine lv_if_eq (tgt := 30) hx hb dX6_groupsOf_21 (by decide) (fun hc => ?_) (fun hc => ?_)
      · replace hq := hq.1 hc
        refine lv_iconst (v := 0) hx hb dX6_groupsOf_30 (by decide) ?_
        exact kJX6_groupsOf_31 C S x1 x3 x2 0 _ K Q hq _ _ _ hw (lv_sub hl [0, 1, 3] rfl) (fun S a2 a3 H locs ls hq hw hl => ih S a2 a3 hq H locs ls hw hl) hK
      · replace hq := hq.2 hc
        refine lv_iconst (v := 1) hx hb dX6_groupsOf_24 (by decide) ?_
        refine lv_iload_n hx hb dX6_groupsOf_25 rfl (lv_at hl 3 rfl) ?_
        refine lv_ishl hx hb dX6_groupsOf_26 ?_
        refine lv_goto (tgt := 31) hx hb dX6_groupsOf_27 (by decide) ?_
        exact kJX6_groupsOf_31 C S x1 x3 x2 ((1 : Int32) <<< (x3 &&& 31)) _ K Q hq _ _ _ hw (lv_sub hl [0, 1, 3] rfl) (fun S a2 a3 H locs ls hq hw hl => ih S a2 a3 hq H locs ls hw hl) hK
set_option maxHeartbeats 4000000 in
set_option maxRecDepth 100000 in
theorem mX6_groupsOf (l : Launch) (D : va_G) (ad : Nat → Nat) (cI cL : ClassId) (S : MS) (x1 : Int32) (Q : Int32 → MS → Prop) (hq : wX6_groupsOf S x1 Q) : Mi l yX6_groupsOf cX6_groupsOf 4 (some .int) { frames := 0, cells := 0, slots := 0, locals := 0 } D (rtys cI cL) (rw_ ad cI cL) [.ref (ad 0), .int x1] S Q := by
  refine Mi.of (by decide +kernel) (Nat.le_of_ble_eq_true rfl) ?_
  intro p e s m args below meth c A ls C hw hl
  have hx := C.1
  have hb := C.2.1
  have hl : lv_has ls 4 [(0, .ref (ad 0)), (1, .int x1)] := hl
  have hw : WW D (rtys cI cL) (rw_ ad cI cL S) A s s.heap [] := hw
  unfold wX6_groupsOf at hq
  refine lv_iconst (v := 0) hx hb dX6_groupsOf_0 (by decide) ?_
  refine lv_istore_n (lv' := [(2, .int 0), (0, .ref (ad 0)), (1, .int x1)]) hx hb dX6_groupsOf_1 rfl hl (by decide) rfl (fun ls hl => ?_)
  refine lv_iconst (v := 0) hx hb dX6_groupsOf_2 (by decide) ?_
  refine lv_istore_n (lv' := [(3, .int 0), (2, .int 0), (0, .ref (ad 0)), (1, .int x1)]) hx hb dX6_groupsOf_3 rfl hl (by decide) rfl (fun ls hl => ?_)
  obtain ⟨n0, hq⟩ := hq
  refine kLX6_groupsOf_4 C x1 _ Q ?_ n0 S 0 0 hq _ _ _ hw (lv_sub hl [2, 3, 1, 0] rfl)
  clear hw hl hq
  intro S_1 y_2 H locs ls hq hw hl
  refine lv_iload_n hx hb dX6_groupsOf_39 rfl (lv_at hl 0 rfl) ?_
  exact w_iret C hw hq dX6_groupsOf_40
set_option maxHeartbeats 4000000 in
set_option maxRecDepth 100000 in
theorem mX6_eventsOf (l : Launch) (D : va_G) (ad : Nat → Nat) (cI cL : ClassId) (S : MS) (x1 : Int32) (Q : Int32 → MS → Prop) (hq : wX6_eventsOf S x1 Q) : Mi l yX6_eventsOf cX6_eventsOf 3 (some .int) { frames := 1, cells := 0, slots := 0, locals := 23 } D (rtys cI cL) (rw_ ad cI cL) [.ref (ad 0), .int x1] S Q := by
  refine Mi.of (by decide +kernel) (Nat.le_of_ble_eq_true rfl) ?_
  intro p e s m args below meth c A ls C hw hl
  have hx := C.1
  have hb := C.2.1
  have hl : lv_has ls 3 [(0, .ref (ad 0)), (1, .int x1)] := hl
  have hw : WW D (rtys cI cL) (rw_ ad cI cL S) A s s.heap [] := hw
  unfold wX6_eventsOf at hq
  refine lv_aload_n hx hb dX6_eventsOf_0 rfl (lv_at hl 0 rfl) ?_
  refine lv_iload_n hx hb dX6_eventsOf_1 rfl (lv_at hl 1 rfl) ?_
  refine w_calli hw (w_runV (rest := []) C hw (mX6_partsOf l D ad cI cL S x1 _ hq _) kc_X6_partsOf ml_X6_124 0 rO rfl rfl ⟨rfl, rfl, Nat.le_of_ble_eq_true rfl, Nat.le_of_ble_eq_true rfl⟩ rfl rfl (Nat.le_of_ble_eq_true rfl) hl.1 dX6_eventsOf_2) ?_
  clear hw hq
  intro r_2 S_1 H locs hq hw
  refine lv_istore_n (lv' := [(2, .int r_2), (0, .ref (ad 0)), (1, .int x1)]) hx hb dX6_eventsOf_5 rfl hl (by decide) rfl (fun ls hl => ?_)
  refine lv_iload_n hx hb dX6_eventsOf_6 rfl (lv_at hl 0 rfl) ?_
  refine w_calli hw (w_runS (rest := []) C hw (mX6_bits l D ad cI cL S_1 r_2 _ hq _) kc_X6_bits ml_X6_106 ⟨rfl, rfl, Nat.le_of_ble_eq_true rfl, Nat.le_of_ble_eq_true rfl⟩ rfl rfl (Nat.le_of_ble_eq_true rfl) hl.1 dX6_eventsOf_7) ?_
  clear hw hq
  intro r_4 S_3 H locs hq hw
  refine lv_aload_n hx hb dX6_eventsOf_10 rfl (lv_at hl 1 rfl) ?_
  refine lv_iload_n hx hb dX6_eventsOf_11 rfl (lv_at hl 0 rfl) ?_
  refine w_calli hw (w_runV (rest := [.int r_4]) C hw (mX6_groupsOf l D ad cI cL S_3 r_2 _ hq _) kc_X6_groupsOf ml_X6_127 0 rO rfl rfl ⟨rfl, rfl, Nat.le_of_ble_eq_true rfl, Nat.le_of_ble_eq_true rfl⟩ rfl rfl (Nat.le_of_ble_eq_true rfl) hl.1 dX6_eventsOf_12) ?_
  clear hw hq
  intro r_6 S_5 H locs hq hw
  refine w_calli hw (w_runS (rest := [.int r_4]) C hw (mX6_bits l D ad cI cL S_5 r_6 _ hq _) kc_X6_bits ml_X6_106 ⟨rfl, rfl, Nat.le_of_ble_eq_true rfl, Nat.le_of_ble_eq_true rfl⟩ rfl rfl (Nat.le_of_ble_eq_true rfl) hl.1 dX6_eventsOf_15) ?_
  clear hw hq
  intro r_8 S_7 H locs hq hw
  refine lv_iadd hx hb dX6_eventsOf_18 ?_
  exact w_iret C hw hq dX6_eventsOf_19
set_option maxHeartbeats 4000000 in
set_option maxRecDepth 100000 in
theorem mX6_below (l : Launch) (D : va_G) (ad : Nat → Nat) (cI cL : ClassId) (S : MS) (x1 : Int32) (x2 : Int32) (Q : Int32 → MS → Prop) (hq : wX6_below S x1 x2 Q) : Mi l yX6_below cX6_below 4 (some .int) { frames := 2, cells := 0, slots := 0, locals := 46 } D (rtys cI cL) (rw_ ad cI cL) [.ref (ad 0), .int x1, .int x2] S Q := by
  refine Mi.of (by decide +kernel) (Nat.le_of_ble_eq_true rfl) ?_
  intro p e s m args below meth c A ls C hw hl
  have hx := C.1
  have hb := C.2.1
  have hl : lv_has ls 4 [(0, .ref (ad 0)), (1, .int x1), (2, .int x2)] := hl
  have hw : WW D (rtys cI cL) (rw_ ad cI cL S) A s s.heap [] := hw
  unfold wX6_below at hq
  refine lv_aload_n hx hb dX6_below_0 rfl (lv_at hl 0 rfl) ?_
  refine lv_iload_n hx hb dX6_below_1 rfl (lv_at hl 1 rfl) ?_
  refine w_calli hw (w_runV (rest := []) C hw (mX6_isVote l D ad cI cL S x1 _ hq _) kc_X6_isVote ml_X6_130 0 rO rfl rfl ⟨rfl, rfl, Nat.le_of_ble_eq_true rfl, Nat.le_of_ble_eq_true rfl⟩ rfl rfl (Nat.le_of_ble_eq_true rfl) hl.1 dX6_below_2) ?_
  clear hw hq
  intro r_2 S_1 H locs hq hw
  refine lv_if_eq (tgt := 20) hx hb dX6_below_5 (by decide) (fun hc => ?_) (fun hc => ?_)
  · replace hq := hq.1 hc
    refine lv_iconst (v := (-1)) hx hb dX6_below_20 (by decide) ?_
    exact w_iret C hw hq dX6_below_21
  · replace hq := hq.2 hc
    refine lv_iload_n hx hb dX6_below_8 rfl (lv_at hl 2 rfl) ?_
    refine lv_i2l (v := x2.toInt64) hx hb dX6_below_9 rfl ?_
    refine lv_lconst (v := 0) hx hb dX6_below_10 (by decide) ?_
    refine lv_ldc2 hx hb C.2.2.2.2.1 (C.w kk_X6_133 rfl) dX6_below_11 ?_
    refine w_calli hw (w_runS (rest := []) C hw (mX6_in l D ad cI cL S_1 x2.toInt64 0 2 _ hq _) kc_X6_in ml_X6_78 ⟨rfl, rfl, Nat.le_of_ble_eq_true rfl, Nat.le_of_ble_eq_true rfl⟩ rfl rfl (Nat.le_of_ble_eq_true rfl) hl.1 dX6_below_14) ?_
    clear hw hq
    intro r_4 S_3 H locs hq hw
    refine lv_if_ne (tgt := 22) hx hb dX6_below_17 (by decide) (fun hc => ?_) (fun hc => ?_)
    · replace hq := hq.2 hc
      refine lv_aload_n hx hb dX6_below_22 rfl (lv_at hl 0 rfl) ?_
      refine lv_iload_n hx hb dX6_below_23 rfl (lv_at hl 1 rfl) ?_
      refine w_calli hw (w_runV (rest := []) C hw (mX6_partsOf l D ad cI cL S_3 x1 _ hq _) kc_X6_partsOf ml_X6_124 0 rO rfl rfl ⟨rfl, rfl, Nat.le_of_ble_eq_true rfl, Nat.le_of_ble_eq_true rfl⟩ rfl rfl (Nat.le_of_ble_eq_true rfl) hl.1 dX6_below_24) ?_
      clear hw hq
      intro r_6 S_5 H locs hq hw
      refine lv_istore_n (lv' := [(3, .int r_6), (0, .ref (ad 0)), (1, .int x1), (2, .int x2)]) hx hb dX6_below_27 rfl hl (by decide) rfl (fun ls hl => ?_)
      refine lv_iload_n hx hb dX6_below_28 rfl (lv_at hl 3 rfl) ?_
      refine lv_if_ne (tgt := 36) hx hb dX6_below_29 (by decide) (fun hc => ?_) (fun hc => ?_)
      · replace hq := hq.2 hc
        refine lv_iload_n hx hb dX6_below_36 rfl (lv_at hl 3 rfl) ?_
        refine lv_iconst (v := 1) hx hb dX6_below_37 (by decide) ?_
        refine lv_icmp_ne (tgt := 49) hx hb dX6_below_38 (by decide) (fun hc => ?_) (fun hc => ?_)
        · replace hq := hq.2 hc
          refine lv_aload_n hx hb dX6_below_49 rfl (lv_at hl 1 rfl) ?_
          refine lv_iload_n hx hb dX6_below_50 rfl (lv_at hl 2 rfl) ?_
          refine w_calli hw (w_runV (rest := []) C hw (mX6_eventsOf l D ad cI cL S_5 x1 _ hq _) kc_X6_eventsOf ml_X6_135 0 rO rfl rfl ⟨rfl, rfl, Nat.le_of_ble_eq_true rfl, Nat.le_of_ble_eq_true rfl⟩ rfl rfl (Nat.le_of_ble_eq_true rfl) hl.1 dX6_below_51) ?_
          clear hw hq
          intro r_8 S_7 H locs hq hw
          exact w_iret C hw hq dX6_below_54
        · replace hq := hq.1 hc
          refine lv_aload_n hx hb dX6_below_41 rfl (lv_at hl 1 rfl) ?_
          refine lv_iload_n hx hb dX6_below_42 rfl (lv_at hl 0 rfl) ?_
          refine w_calli hw (w_runV (rest := []) C hw (mX6_groupsOf l D ad cI cL S_5 r_6 _ hq _) kc_X6_groupsOf ml_X6_127 0 rO rfl rfl ⟨rfl, rfl, Nat.le_of_ble_eq_true rfl, Nat.le_of_ble_eq_true rfl⟩ rfl rfl (Nat.le_of_ble_eq_true rfl) hl.1 dX6_below_43) ?_
          clear hw hq
          intro r_10 S_9 H locs hq hw
          refine lv_goto (tgt := 54) hx hb dX6_below_46 (by decide) ?_
          exact w_iret C hw hq dX6_below_54
      · replace hq := hq.1 hc
        refine lv_iload_n hx hb dX6_below_32 rfl (lv_at hl 0 rfl) ?_
        refine lv_goto (tgt := 54) hx hb dX6_below_33 (by decide) ?_
        exact w_iret C hw hq dX6_below_54
    · replace hq := hq.1 hc
      refine lv_iconst (v := (-1)) hx hb dX6_below_20 (by decide) ?_
      exact w_iret C hw hq dX6_below_21
set_option maxHeartbeats 4000000 in
set_option maxRecDepth 100000 in
theorem mX6_shared (l : Launch) (D : va_G) (ad : Nat → Nat) (cI cL : ClassId) (S : MS) (x1 : Int32) (x2 : Int32) (Q : Int32 → MS → Prop) (hq : wX6_shared S x1 x2 Q) : Mi l yX6_shared cX6_shared 5 (some .int) { frames := 2, cells := 0, slots := 0, locals := 46 } D (rtys cI cL) (rw_ ad cI cL) [.ref (ad 0), .int x1, .int x2] S Q := by
  refine Mi.of (by decide +kernel) (Nat.le_of_ble_eq_true rfl) ?_
  intro p e s m args below meth c A ls C hw hl
  have hx := C.1
  have hb := C.2.1
  have hl : lv_has ls 5 [(0, .ref (ad 0)), (1, .int x1), (2, .int x2)] := hl
  have hw : WW D (rtys cI cL) (rw_ ad cI cL S) A s s.heap [] := hw
  unfold wX6_shared at hq
  refine lv_aload_n hx hb dX6_shared_0 rfl (lv_at hl 0 rfl) ?_
  refine lv_iload_n hx hb dX6_shared_1 rfl (lv_at hl 1 rfl) ?_
  refine w_calli hw (w_runV (rest := []) C hw (mX6_isVote l D ad cI cL S x1 _ hq _) kc_X6_isVote ml_X6_130 0 rO rfl rfl ⟨rfl, rfl, Nat.le_of_ble_eq_true rfl, Nat.le_of_ble_eq_true rfl⟩ rfl rfl (Nat.le_of_ble_eq_true rfl) hl.1 dX6_shared_2) ?_
  clear hw hq
  intro r_2 S_1 H locs hq hw
  refine lv_if_eq (tgt := 16) hx hb dX6_shared_5 (by decide) (fun hc => ?_) (fun hc => ?_)
  · replace hq := hq.1 hc
    refine lv_iconst (v := (-1)) hx hb dX6_shared_16 (by decide) ?_
    exact w_iret C hw hq dX6_shared_17
  · replace hq := hq.2 hc
    refine lv_aload_n hx hb dX6_shared_8 rfl (lv_at hl 0 rfl) ?_
    refine lv_iload_n hx hb dX6_shared_9 rfl (lv_at hl 2 rfl) ?_
    refine w_calli hw (w_runV (rest := []) C hw (mX6_isVote l D ad cI cL S_1 x2 _ hq _) kc_X6_isVote ml_X6_130 0 rO rfl rfl ⟨rfl, rfl, Nat.le_of_ble_eq_true rfl, Nat.le_of_ble_eq_true rfl⟩ rfl rfl (Nat.le_of_ble_eq_true rfl) hl.1 dX6_shared_10) ?_
    clear hw hq
    intro r_4 S_3 H locs hq hw
    refine lv_if_ne (tgt := 18) hx hb dX6_shared_13 (by decide) (fun hc => ?_) (fun hc => ?_)
    · replace hq := hq.2 hc
      refine lv_aload_n hx hb dX6_shared_18 rfl (lv_at hl 0 rfl) ?_
      refine lv_iload_n hx hb dX6_shared_19 rfl (lv_at hl 1 rfl) ?_
      refine w_calli hw (w_runV (rest := []) C hw (mX6_partsOf l D ad cI cL S_3 x1 _ hq _) kc_X6_partsOf ml_X6_124 0 rO rfl rfl ⟨rfl, rfl, Nat.le_of_ble_eq_true rfl, Nat.le_of_ble_eq_true rfl⟩ rfl rfl (Nat.le_of_ble_eq_true rfl) hl.1 dX6_shared_20) ?_
      clear hw hq
      intro r_6 S_5 H locs hq hw
      refine lv_istore_n (lv' := [(3, .int r_6), (0, .ref (ad 0)), (1, .int x1), (2, .int x2)]) hx hb dX6_shared_23 rfl hl (by decide) rfl (fun ls hl => ?_)
      refine lv_aload_n hx hb dX6_shared_24 rfl (lv_at hl 1 rfl) ?_
      refine lv_iload_n hx hb dX6_shared_25 rfl (lv_at hl 3 rfl) ?_
      refine w_calli hw (w_runV (rest := []) C hw (mX6_partsOf l D ad cI cL S_5 x2 _ hq _) kc_X6_partsOf ml_X6_124 0 rO rfl rfl ⟨rfl, rfl, Nat.le_of_ble_eq_true rfl, Nat.le_of_ble_eq_true rfl⟩ rfl rfl (Nat.le_of_ble_eq_true rfl) hl.1 dX6_shared_26) ?_
      clear hw hq
      intro r_8 S_7 H locs hq hw
      refine lv_istore (lv' := [(4, .int r_8), (3, .int r_6), (0, .ref (ad 0)), (1, .int x1), (2, .int x2)]) hx hb dX6_shared_29 hl (by decide) rfl (fun ls hl => ?_)
      refine lv_iload_n hx hb dX6_shared_31 rfl (lv_at hl 1 rfl) ?_
      refine lv_iload hx hb dX6_shared_32 (lv_at hl 0 rfl) ?_
      refine lv_iand hx hb dX6_shared_34 ?_
      refine lv_aload_n hx hb dX6_shared_35 rfl (lv_at hl 2 rfl) ?_
      refine lv_iload_n hx hb dX6_shared_36 rfl (lv_at hl 1 rfl) ?_
      refine w_calli hw (w_runV (rest := [.int (r_6 &&& r_8)]) C hw (mX6_groupsOf l D ad cI cL S_7 r_6 _ hq _) kc_X6_groupsOf ml_X6_127 0 rO rfl rfl ⟨rfl, rfl, Nat.le_of_ble_eq_true rfl, Nat.le_of_ble_eq_true rfl⟩ rfl rfl (Nat.le_of_ble_eq_true rfl) hl.1 dX6_shared_37) ?_
      clear hw hq
      intro r_10 S_9 H locs hq hw
      refine lv_aload_n hx hb dX6_shared_40 rfl (lv_at hl 2 rfl) ?_
      refine lv_iload hx hb dX6_shared_41 (lv_at hl 0 rfl) ?_
      refine w_calli hw (w_runV (rest := [.int r_10, .int (r_6 &&& r_8)]) C hw (mX6_groupsOf l D ad cI cL S_9 r_8 _ hq _) kc_X6_groupsOf ml_X6_127 0 rO rfl rfl ⟨rfl, rfl, Nat.le_of_ble_eq_true rfl, Nat.le_of_ble_eq_true rfl⟩ rfl rfl (Nat.le_of_ble_eq_true rfl) hl.1 dX6_shared_43) ?_
      clear hw hq
      intro r_12 S_11 H locs hq hw
      refine lv_iand hx hb dX6_shared_46 ?_
      refine lv_bipush (v := 12) hx hb dX6_shared_47 (by decide) ?_
      refine lv_ishl hx hb dX6_shared_49 ?_
      refine lv_ior hx hb dX6_shared_50 ?_
      exact w_iret C hw hq dX6_shared_51
    · replace hq := hq.1 hc
      refine lv_iconst (v := (-1)) hx hb dX6_shared_16 (by decide) ?_
      exact w_iret C hw hq dX6_shared_17
set_option maxHeartbeats 4000000 in
set_option maxRecDepth 100000 in
theorem kJX6_does_94 {p : Program} {l : Launch} {e : Env} {s : State} {m : MethodId} {args : Array Value} {below : List Frame} {meth : Method} {c : Code} {D : va_G} {ad : Nat → Nat} {cI cL : ClassId} {A : Nat → Prop} (C : Cx p s m args meth c yX6_does.cls cX6_does 7 (some .boolean)) (S : MS) (x1 : Int32) (x2 : Int32) (x3 : Int32) (x5 : Int32) (t0 : Int32) (t1 : Int32) (Hd : MS → Int32 → Int32 → Prop) (K : MS → Int32 → Prop) (Q : Int32 → MS → Prop) (hq : JX6_does_94 S x1 x2 x3 x5 t0 t1 Hd K Q) (H : Heap) (locs : List Loc) (ls : Array Slot) (hw : WW D (rtys cI cL) (rw_ ad cI cL S) A s H locs) (hl : lv_has ls 7 [(0, .ref (ad 0)), (1, .int x1), (2, .int x2), (3, .int x3), (5, .int x5)]) (hH : ∀ (S : MS) (z4 : Int32) (z5 : Int32) (H : Heap) (locs : List Loc) (ls : Array Slot), Hd S z4 z5 → WW D (rtys cI cL) (rw_ ad cI cL S) A s H locs → lv_has ls 7 [(0, .ref (ad 0)), (1, .int x1), (2, .int x2), (3, .int x3), (4, .int z4), (5, .int z5)] → W p l e { frames := 0, cells := 0, slots := 0, locals := 0 } s m args below meth c H locs 0 0 (Zi D (rtys cI cL) (rw_ ad cI cL) A below args s Q) (F0 m 15 ls [])) (hK : ∀ (S : MS) (z4 : Int32) (H : Heap) (locs : List Loc) (ls : Array Slot), K S z4 → WW D (rtys cI cL) (rw_ ad cI cL S) A s H locs → lv_has ls 7 [(0, .ref (ad 0)), (1, .int x1), (2, .int x2), (3, .int x3), (4, .int z4)] → W p l e { frames := 0, cells := 0, slots := 0, locals := 0 } s m args below meth c H locs 0 0 (Zi D (rtys cI cL) (rw_ ad cI cL) A below args s Q) (F0 m 103 ls [])) : W p l e { frames := 0, cells := 0, slots := 0, locals := 0 } s m args below meth c H locs 0 0 (Zi D (rtys cI cL) (rw_ ad cI cL) A below args s Q) (F0 m 94 ls [.int t1, .int t0]) := by
  have hx := C.1
  have hb := C.2.1
  unfold JX6_does_94 at hq
  refine lv_iadd hx hb dX6_does_94 ?_
  refine lv_istore (lv' := [(4, .int (t0 + t1)), (0, .ref (ad 0)), (1, .int x1), (2, .int x2), (3, .int x3), (5, .int x5)]) hx hb dX6_does_95 hl (by decide) rfl (fun ls hl => ?_)
  refine lv_iinc (v := x5 + 1) (lv' := [(5, .int (x5 + 1)), (4, .int (t0 + t1)), (0, .ref (ad 0)), (1, .int x1), (2, .int x2), (3, .int x3)]) hx hb dX6_does_97 hl (k := 5) rfl rfl (by decide) rfl (fun ls hl => ?_)
  refine lv_goto (tgt := 15) hx hb dX6_does_100 (by decide) ?_
  exact hH S (t0 + t1) (x5 + 1) _ _ _ hq hw (lv_sub hl [2, 3, 4, 5, 1, 0] rfl)
set_option maxHeartbeats 4000000 in
set_option maxRecDepth 100000 in
theorem kJX6_does_80 {p : Program} {l : Launch} {e : Env} {s : State} {m : MethodId} {args : Array Value} {below : List Frame} {meth : Method} {c : Code} {D : va_G} {ad : Nat → Nat} {cI cL : ClassId} {A : Nat → Prop} (C : Cx p s m args meth c yX6_does.cls cX6_does 7 (some .boolean)) (S : MS) (x1 : Int32) (x2 : Int32) (x3 : Int32) (x4 : Int32) (x5 : Int32) (t0 : Int32) (Hd : MS → Int32 → Int32 → Prop) (K : MS → Int32 → Prop) (Q : Int32 → MS → Prop) (hq : JX6_does_80 S x1 x2 x3 x4 x5 t0 Hd K Q) (H : Heap) (locs : List Loc) (ls : Array Slot) (hw : WW D (rtys cI cL) (rw_ ad cI cL S) A s H locs) (hl : lv_has ls 7 [(0, .ref (ad 0)), (1, .int x1), (2, .int x2), (3, .int x3), (4, .int x4), (5, .int x5)]) (hH : ∀ (S : MS) (z4 : Int32) (z5 : Int32) (H : Heap) (locs : List Loc) (ls : Array Slot), Hd S z4 z5 → WW D (rtys cI cL) (rw_ ad cI cL S) A s H locs → lv_has ls 7 [(0, .ref (ad 0)), (1, .int x1), (2, .int x2), (3, .int x3), (4, .int z4), (5, .int z5)] → W p l e { frames := 0, cells := 0, slots := 0, locals := 0 } s m args below meth c H locs 0 0 (Zi D (rtys cI cL) (rw_ ad cI cL) A below args s Q) (F0 m 15 ls [])) (hK : ∀ (S : MS) (z4 : Int32) (H : Heap) (locs : List Loc) (ls : Array Slot), K S z4 → WW D (rtys cI cL) (rw_ ad cI cL S) A s H locs → lv_has ls 7 [(0, .ref (ad 0)), (1, .int x1), (2, .int x2), (3, .int x3), (4, .int z4)] → W p l e { frames := 0, cells := 0, slots := 0, locals := 0 } s m args below meth c H locs 0 0 (Zi D (rtys cI cL) (rw_ ad cI cL) A below args s Q) (F0 m 103 ls [])) : W p l e { frames := 0, cells := 0, slots := 0, locals := 0 } s m args below meth c H locs 0 0 (Zi D (rtys cI cL) (rw_ ad cI cL) A below args s Q) (F0 m 80 ls [.int t0]) := by
  have hx := C.1
  have hb := C.2.1
  unfold JX6_does_80 at hq
  refine lv_istore (lv' := [(6, .int t0), (0, .ref (ad 0)), (1, .int x1), (2, .int x2), (3, .int x3), (4, .int x4), (5, .int x5)]) hx hb dX6_does_80 hl (by decide) rfl (fun ls hl => ?_)
  refine lv_iload hx hb dX6_does_82 (lv_at hl 5 rfl) ?_
  refine lv_iload hx hb dX6_does_84 (lv_at hl 0 rfl) ?_
  refine lv_if_eq (tgt := 93) hx hb dX6_does_86 (by decide) (fun hc => ?_) (fun hc => ?_)
  · replace hq := hq.1 hc
    refine lv_iconst (v := 0) hx hb dX6_does_93 (by decide) ?_
    exact kJX6_does_94 C S x1 x2 x3 x5 x4 0 Hd K Q hq _ _ _ hw (lv_sub hl [1, 2, 3, 4, 6] rfl) hH hK
  · replace hq := hq.2 hc
    refine lv_iconst (v := 1) hx hb dX6_does_89 (by decide) ?_
    refine lv_goto (tgt := 94) hx hb dX6_does_90 (by decide) ?_
    exact kJX6_does_94 C S x1 x2 x3 x5 x4 1 Hd K Q hq _ _ _ hw (lv_sub hl [1, 2, 3, 4, 6] rfl) hH hK
set_option maxHeartbeats 4000000 in
set_option maxRecDepth 100000 in
theorem kLX6_does_15 {p : Program} {l : Launch} {e : Env} {s : State} {m : MethodId} {args : Array Value} {below : List Frame} {meth : Method} {c : Code} {D : va_G} {ad : Nat → Nat} {cI cL : ClassId} {A : Nat → Prop} (C : Cx p s m args meth c yX6_does.cls cX6_does 7 (some .boolean)) (x1 : Int32) (x2 : Int32) (x3 : Int32) (K : MS → Int32 → Prop) (Q : Int32 → MS → Prop) (hK : ∀ (S : MS) (z4 : Int32) (H : Heap) (locs : List Loc) (ls : Array Slot), K S z4 → WW D (rtys cI cL) (rw_ ad cI cL S) A s H locs → lv_has ls 7 [(0, .ref (ad 0)), (1, .int x1), (2, .int x2), (3, .int x3), (4, .int z4)] → W p l e { frames := 0, cells := 0, slots := 0, locals := 0 } s m args below meth c H locs 0 0 (Zi D (rtys cI cL) (rw_ ad cI cL) A below args s Q) (F0 m 103 ls [])) : ∀ (n : Nat) (S : MS) (x4 : Int32) (x5 : Int32) (_ : LX6_does_15 x1 x2 x3 K Q n S x4 x5) (H : Heap) (locs : List Loc) (ls : Array Slot), WW D (rtys cI cL) (rw_ ad cI cL S) A s H locs → lv_has ls 7 [(0, .ref (ad 0)), (1, .int x1), (2, .int x2), (3, .int x3), (4, .int x4), (5, .int x5)] → W p l e { frames := 0, cells := 0, slots := 0, locals := 0 } s m args below meth c H locs 0 0 (Zi D (rtys cI cL) (rw_ ad cI cL) A below args s Q) (F0 m 15 ls []) := by
  have hx := C.1
  have hb := C.2.1
  intro n
  induction n with
  | zero => intro S x4 x5 hq; exact absurd hq (by rw [LX6_does_15]; exact id)
  | succ n ih =>
    intro S x4 x5 hq H locs ls hw hl
    rw [LX6_does_15] at hq
    refine lv_iload hx hb dX6_does_15 (lv_at hl 5 rfl) ?_
    refine lv_iconst (v := 4) hx hb dX6_does_17 (by decide) ?_
    refine lv_iload_n hx hb dX6_does_18 rfl (lv_at hl 3 rfl) ?_
    refine lv_imul hx hb dX6_does_19 ?_
    refine lv_aload_n hx hb dX6_does_20 rfl (lv_at hl 0 rfl) ?_
    refine w_get C hw uw_X6 0 rO rfl 18 (by decide) fl_X6_52 rfl dX6_does_21 ?_
    refine lv_iload_n hx hb dX6_does_24 rfl (lv_at hl 3 rfl) ?_
    obtain ⟨hin, hq⟩ := hq
    refine w_ild C hw 15 0 rI_14 rfl hin dX6_does_25 ?_
    refine lv_iadd hx hb dX6_does_26 ?_
    refine lv_icmp_ge (tgt := 103) hx hb dX6_does_27 (by decide) (fun hc => ?_) (fun hc => ?_)
    · replace hq := hq.1 hc
      exact hK S x4 _ _ _ hq hw (lv_sub hl [0, 1, 2, 3, 4] rfl)
    · replace hq := hq.2 hc
      refine lv_aload_n hx hb dX6_does_30 rfl (lv_at hl 0 rfl) ?_
      refine w_get C hw uw_X6 0 rO rfl 19 (by decide) fl_X6_55 rfl dX6_does_31 ?_
      refine lv_iload hx hb dX6_does_34 (lv_at hl 5 rfl) ?_
      obtain ⟨hin, hq⟩ := hq
      refine w_ild C hw 16 0 rI_15 rfl hin dX6_does_36 ?_
      refine lv_bipush (v := 12) hx hb dX6_does_37 (by decide) ?_
      refine lv_icmp_ge (tgt := 65) hx hb dX6_does_39 (by decide) (fun hc => ?_) (fun hc => ?_)
      · replace hq := hq.1 hc
        refine lv_aload_n hx hb dX6_does_65 rfl (lv_at hl 0 rfl) ?_
        refine w_get C hw uw_X6 0 rO rfl 21 (by decide) fl_X6_61 rfl dX6_does_66 ?_
        refine lv_aload_n hx hb dX6_does_69 rfl (lv_at hl 0 rfl) ?_
        refine w_get C hw uw_X6 0 rO rfl 19 (by decide) fl_X6_55 rfl dX6_does_70 ?_
        refine lv_iload hx hb dX6_does_73 (lv_at hl 5 rfl) ?_
        obtain ⟨hin, hq⟩ := hq
        refine w_ild C hw 16 0 rI_15 rfl hin dX6_does_75 ?_
        refine lv_bipush (v := 12) hx hb dX6_does_76 (by decide) ?_
        refine lv_isub hx hb dX6_does_78 ?_
        obtain ⟨hin, hq⟩ := hq
        refine w_zld C hw 21 1 rI_20 rfl hin dX6_does_79 ?_
        exact kJX6_does_80 C S x1 x2 x3 x4 x5 (S.1 20 ((S.1 15 x5.toNatClampNeg) - 12).toNatClampNeg) _ K Q hq _ _ _ hw (lv_sub hl [0, 1, 2, 3, 4, 5] rfl) (fun S a4 a5 H locs ls hq hw hl => ih S a4 a5 hq H locs ls hw hl) hK
      · replace hq := hq.2 hc
        refine lv_iload_n hx hb dX6_does_42 rfl (lv_at hl 2 rfl) ?_
        refine lv_aload_n hx hb dX6_does_43 rfl (lv_at hl 0 rfl) ?_
        refine w_get C hw uw_X6 0 rO rfl 19 (by decide) fl_X6_55 rfl dX6_does_44 ?_
        refine lv_iload hx hb dX6_does_47 (lv_at hl 5 rfl) ?_
        obtain ⟨hin, hq⟩ := hq
        refine w_ild C hw 16 0 rI_15 rfl hin dX6_does_49 ?_
        refine lv_ishr hx hb dX6_does_50 ?_
        refine lv_iconst (v := 1) hx hb dX6_does_51 (by decide) ?_
        refine lv_iand hx hb dX6_does_52 ?_
        refine lv_iconst (v := 1) hx hb dX6_does_53 (by decide) ?_
        refine lv_icmp_ne (tgt := 61) hx hb dX6_does_54 (by decide) (fun hc => ?_) (fun hc => ?_)
        · replace hq := hq.2 hc
          refine lv_iconst (v := 0) hx hb dX6_does_61 (by decide) ?_
          refine lv_goto (tgt := 80) hx hb dX6_does_62 (by decide) ?_
          exact kJX6_does_80 C S x1 x2 x3 x4 x5 0 _ K Q hq _ _ _ hw (lv_sub hl [0, 1, 2, 3, 4, 5] rfl) (fun S a4 a5 H locs ls hq hw hl => ih S a4 a5 hq H locs ls hw hl) hK
        · replace hq := hq.1 hc
          refine lv_iconst (v := 1) hx hb dX6_does_57 (by decide) ?_
          refine lv_goto (tgt := 80) hx hb dX6_does_58 (by decide) ?_
          exact kJX6_does_80 C S x1 x2 x3 x4 x5 1 _ K Q hq _ _ _ hw (lv_sub hl [0, 1, 2, 3, 4, 5] rfl) (fun S a4 a5 H locs ls hq hw hl => ih S a4 a5 hq H locs ls hw hl) hK
set_option maxHeartbeats 4000000 in
set_option maxRecDepth 100000 in
theorem kJX6_does_124 {p : Program} {l : Launch} {e : Env} {s : State} {m : MethodId} {args : Array Value} {below : List Frame} {meth : Method} {c : Code} {D : va_G} {ad : Nat → Nat} {cI cL : ClassId} {A : Nat → Prop} (C : Cx p s m args meth c yX6_does.cls cX6_does 7 (some .boolean)) (S : MS) (x1 : Int32) (x2 : Int32) (x3 : Int32) (t0 : Int32) (t1 : Int32) (Hd : MS → Int32 → Prop) (K : MS → Prop) (Q : Int32 → MS → Prop) (hq : JX6_does_124 S x1 x2 x3 t0 t1 Hd K Q) (H : Heap) (locs : List Loc) (ls : Array Slot) (hw : WW D (rtys cI cL) (rw_ ad cI cL S) A s H locs) (hl : lv_has ls 7 [(0, .ref (ad 0)), (1, .int x1), (2, .int x2), (3, .int x3)]) (hH : ∀ (S : MS) (z3 : Int32) (H : Heap) (locs : List Loc) (ls : Array Slot), Hd S z3 → WW D (rtys cI cL) (rw_ ad cI cL S) A s H locs → lv_has ls 7 [(0, .ref (ad 0)), (1, .int x1), (2, .int x2), (3, .int z3)] → W p l e { frames := 0, cells := 0, slots := 0, locals := 0 } s m args below meth c H locs 0 0 (Zi D (rtys cI cL) (rw_ ad cI cL) A below args s Q) (F0 m 2 ls [])) (hK : ∀ (S : MS) (H : Heap) (locs : List Loc) (ls : Array Slot), K S  → WW D (rtys cI cL) (rw_ ad cI cL S) A s H locs → lv_has ls 7 [(0, .ref (ad 0)), (1, .int x1)] → W p l e { frames := 0, cells := 0, slots := 0, locals := 0 } s m args below meth c H locs 0 0 (Zi D (rtys cI cL) (rw_ ad cI cL) A below args s Q) (F0 m 131 ls [])) : W p l e { frames := 0, cells := 0, slots := 0, locals := 0 } s m args below meth c H locs 0 0 (Zi D (rtys cI cL) (rw_ ad cI cL) A below args s Q) (F0 m 124 ls [.int t1, .int t0, .ref (ad 21)]) := by
  have hx := C.1
  have hb := C.2.1
  unfold JX6_does_124 at hq
  obtain ⟨hin, hq⟩ := hq
  obtain ⟨S_2, eS_2⟩ : ∃ z, z = uI S 20 t0.toNatClampNeg (vp_nar .boolean t1) := ⟨_, rfl⟩
  replace hq := hq S_2 eS_2
  refine w_zst (ws' := rw_ ad cI cL S_2) C hw 21 1 rI_20 rfl hin dX6_does_124 (by rw [eS_2]; exact rIs_20) (fun H locs hw => ?_)
  refine lv_iinc (v := x3 + 1) (lv' := [(3, .int (x3 + 1)), (0, .ref (ad 0)), (1, .int x1), (2, .int x2)]) hx hb dX6_does_125 hl (k := 3) rfl rfl (by decide) rfl (fun ls hl => ?_)
  refine lv_goto (tgt := 2) hx hb dX6_does_128 (by decide) ?_
  exact hH S_2 (x3 + 1) _ _ _ hq hw (lv_sub hl [1, 2, 3, 0] rfl)
set_option maxHeartbeats 4000000 in
set_option maxRecDepth 100000 in
theorem kLX6_does_2 {p : Program} {l : Launch} {e : Env} {s : State} {m : MethodId} {args : Array Value} {below : List Frame} {meth : Method} {c : Code} {D : va_G} {ad : Nat → Nat} {cI cL : ClassId} {A : Nat → Prop} (C : Cx p s m args meth c yX6_does.cls cX6_does 7 (some .boolean)) (x1 : Int32) (x2 : Int32) (K : MS → Prop) (Q : Int32 → MS → Prop) (hK : ∀ (S : MS) (H : Heap) (locs : List Loc) (ls : Array Slot), K S  → WW D (rtys cI cL) (rw_ ad cI cL S) A s H locs → lv_has ls 7 [(0, .ref (ad 0)), (1, .int x1)] → W p l e { frames := 0, cells := 0, slots := 0, locals := 0 } s m args below meth c H locs 0 0 (Zi D (rtys cI cL) (rw_ ad cI cL) A below args s Q) (F0 m 131 ls [])) : ∀ (n : Nat) (S : MS) (x3 : Int32) (_ : LX6_does_2 x1 x2 K Q n S x3) (H : Heap) (locs : List Loc) (ls : Array Slot), WW D (rtys cI cL) (rw_ ad cI cL S) A s H locs → lv_has ls 7 [(0, .ref (ad 0)), (1, .int x1), (2, .int x2), (3, .int x3)] → W p l e { frames := 0, cells := 0, slots := 0, locals := 0 } s m args below meth c H locs 0 0 (Zi D (rtys cI cL) (rw_ ad cI cL) A below args s Q) (F0 m 2 ls []) := by
  have hx := C.1
  have hb := C.2.1
  intro n
  induction n with
  | zero => intro S x3 hq; exact absurd hq (by rw [LX6_does_2]; exact id)
  | succ n ih =>
    intro S x3 hq H locs ls hw hl
    rw [LX6_does_2] at hq
    refine lv_iload_n hx hb dX6_does_2 rfl (lv_at hl 3 rfl) ?_
    refine lv_iload_n hx hb dX6_does_3 rfl (lv_at hl 1 rfl) ?_
    refine lv_icmp_gt (tgt := 131) hx hb dX6_does_4 (by decide) (fun hc => ?_) (fun hc => ?_)
    · replace hq := hq.1 hc
      exact hK S  _ _ _ hq hw (lv_sub hl [0, 1] rfl)
    · replace hq := hq.2 hc
      refine lv_iconst (v := 0) hx hb dX6_does_7 (by decide) ?_
      refine lv_istore (lv' := [(4, .int 0), (0, .ref (ad 0)), (1, .int x1), (2, .int x2), (3, .int x3)]) hx hb dX6_does_8 hl (by decide) rfl (fun ls hl => ?_)
      refine lv_iconst (v := 4) hx hb dX6_does_10 (by decide) ?_
      refine lv_iload_n hx hb dX6_does_11 rfl (lv_at hl 4 rfl) ?_
      refine lv_imul hx hb dX6_does_12 ?_
      refine lv_istore (lv' := [(5, .int (4 * x3)), (4, .int 0), (0, .ref (ad 0)), (1, .int x1), (2, .int x2), (3, .int x3)]) hx hb dX6_does_13 hl (by decide) rfl (fun ls hl => ?_)
      obtain ⟨n0, hq⟩ := hq
      refine kLX6_does_15 C x1 x2 x3 _ Q ?_ n0 S 0 (4 * x3) hq _ _ _ hw (lv_sub hl [2, 3, 4, 5, 1, 0] rfl)
      clear hw hl hq
      intro S_1 y_2 H locs ls hq hw hl
      refine lv_aload_n hx hb dX6_does_103 rfl (lv_at hl 0 rfl) ?_
      refine w_get C hw uw_X6 0 rO rfl 21 (by decide) fl_X6_61 rfl dX6_does_104 ?_
      refine lv_iload_n hx hb dX6_does_107 rfl (lv_at hl 3 rfl) ?_
      refine lv_iload hx hb dX6_does_108 (lv_at hl 4 rfl) ?_
      refine lv_aload_n hx hb dX6_does_110 rfl (lv_at hl 0 rfl) ?_
      refine w_get C hw uw_X6 0 rO rfl 17 (by decide) fl_X6_49 rfl dX6_does_111 ?_
      refine lv_iload_n hx hb dX6_does_114 rfl (lv_at hl 3 rfl) ?_
      obtain ⟨hin, hq⟩ := hq
      refine w_ild C hw 14 0 rI_13 rfl hin dX6_does_115 ?_
      refine lv_icmp_lt (tgt := 123) hx hb dX6_does_116 (by decide) (fun hc => ?_) (fun hc => ?_)
      · replace hq := hq.1 hc
        refine lv_iconst (v := 0) hx hb dX6_does_123 (by decide) ?_
        exact kJX6_does_124 C S_1 x1 x2 x3 x3 0 _ K Q hq _ _ _ hw (lv_sub hl [0, 1, 2, 3] rfl) (fun S a3 H locs ls hq hw hl => ih S a3 hq H locs ls hw hl) hK
      · replace hq := hq.2 hc
        refine lv_iconst (v := 1) hx hb dX6_does_119 (by decide) ?_
        refine lv_goto (tgt := 124) hx hb dX6_does_120 (by decide) ?_
        exact kJX6_does_124 C S_1 x1 x2 x3 x3 1 _ K Q hq _ _ _ hw (lv_sub hl [0, 1, 2, 3] rfl) (fun S a3 H locs ls hq hw hl => ih S a3 hq H locs ls hw hl) hK
set_option maxHeartbeats 4000000 in
set_option maxRecDepth 100000 in
theorem mX6_does (l : Launch) (D : va_G) (ad : Nat → Nat) (cI cL : ClassId) (S : MS) (x1 : Int32) (x2 : Int32) (Q : Int32 → MS → Prop) (hq : wX6_does S x1 x2 Q) : Mi l yX6_does cX6_does 7 (some .boolean) { frames := 0, cells := 0, slots := 0, locals := 0 } D (rtys cI cL) (rw_ ad cI cL) [.ref (ad 0), .int x1, .int x2] S Q := by
  refine Mi.of (by decide +kernel) (Nat.le_of_ble_eq_true rfl) ?_
  intro p e s m args below meth c A ls C hw hl
  have hx := C.1
  have hb := C.2.1
  have hl : lv_has ls 7 [(0, .ref (ad 0)), (1, .int x1), (2, .int x2)] := hl
  have hw : WW D (rtys cI cL) (rw_ ad cI cL S) A s s.heap [] := hw
  unfold wX6_does at hq
  refine lv_iconst (v := 0) hx hb dX6_does_0 (by decide) ?_
  refine lv_istore_n (lv' := [(3, .int 0), (0, .ref (ad 0)), (1, .int x1), (2, .int x2)]) hx hb dX6_does_1 rfl hl (by decide) rfl (fun ls hl => ?_)
  obtain ⟨n0, hq⟩ := hq
  refine kLX6_does_2 C x1 x2 _ Q ?_ n0 S 0 hq _ _ _ hw (lv_sub hl [1, 2, 3, 0] rfl)
  clear hw hl hq
  intro S_1 H locs ls hq hw hl
  refine lv_aload_n hx hb dX6_does_131 rfl (lv_at hl 0 rfl) ?_
  refine w_get C hw uw_X6 0 rO rfl 21 (by decide) fl_X6_61 rfl dX6_does_132 ?_
  refine lv_iload_n hx hb dX6_does_135 rfl (lv_at hl 1 rfl) ?_
  obtain ⟨hin, hq⟩ := hq
  refine w_zld C hw 21 1 rI_20 rfl hin dX6_does_136 ?_
  exact w_zret C hw hq.1 hq.2 dX6_does_137
set_option maxHeartbeats 4000000 in
set_option maxRecDepth 100000 in
theorem mX6_adds (l : Launch) (D : va_G) (ad : Nat → Nat) (cI cL : ClassId) (S : MS) (x1 : Int32) (x2 : Int32) (Q : MS → Prop) (hq : wX6_adds S x1 x2 Q) : Mv l yX6_adds cX6_adds 3 none { frames := 0, cells := 0, slots := 0, locals := 0 } D (rtys cI cL) (rw_ ad cI cL) [.ref (ad 0), .int x1, .int x2] S Q := by
  refine Mv.of (by decide +kernel) (Nat.le_of_ble_eq_true rfl) ?_
  intro p e s m args below meth c A ls C hw hl
  have hx := C.1
  have hb := C.2.1
  have hl : lv_has ls 3 [(0, .ref (ad 0)), (1, .int x1), (2, .int x2)] := hl
  have hw : WW D (rtys cI cL) (rw_ ad cI cL S) A s s.heap [] := hw
  unfold wX6_adds at hq
  refine lv_aload_n hx hb dX6_adds_0 rfl (lv_at hl 0 rfl) ?_
  refine w_get C hw uw_X6 0 rO rfl 23 (by decide) fl_X6_65 rfl dX6_adds_1 ?_
  refine lv_aload_n hx hb dX6_adds_4 rfl (lv_at hl 0 rfl) ?_
  refine w_get C hw uw_X6 0 rO rfl 22 (by decide) fl_X6_138 rfl dX6_adds_5 ?_
  refine lv_iload_n hx hb dX6_adds_8 rfl (lv_at hl 1 rfl) ?_
  obtain ⟨hin, hq⟩ := hq
  obtain ⟨S_1, eS_1⟩ : ∃ z, z = uI S 17 (S.2.2 4).toNatClampNeg x1 := ⟨_, rfl⟩
  replace hq := hq S_1 eS_1
  refine w_ist (ws' := rw_ ad cI cL S_1) C hw 18 0 rI_17 rfl hin dX6_adds_9 (by rw [eS_1]; exact rIs_17) (fun H locs hw => ?_)
  refine lv_aload_n hx hb dX6_adds_10 rfl (lv_at hl 0 rfl) ?_
  refine w_get C hw uw_X6 0 rO rfl 24 (by decide) fl_X6_68 rfl dX6_adds_11 ?_
  refine lv_aload_n hx hb dX6_adds_14 rfl (lv_at hl 0 rfl) ?_
  refine w_get C hw uw_X6 0 rO rfl 22 (by decide) fl_X6_138 rfl dX6_adds_15 ?_
  refine lv_iload_n hx hb dX6_adds_18 rfl (lv_at hl 2 rfl) ?_
  obtain ⟨hin, hq⟩ := hq
  obtain ⟨S_2, eS_2⟩ : ∃ z, z = uI S_1 18 (S_1.2.2 4).toNatClampNeg x2 := ⟨_, rfl⟩
  replace hq := hq S_2 eS_2
  refine w_ist (ws' := rw_ ad cI cL S_2) C hw 19 0 rI_18 rfl hin dX6_adds_19 (by rw [eS_2]; exact rIs_18) (fun H locs hw => ?_)
  refine lv_aload_n hx hb dX6_adds_20 rfl (lv_at hl 0 rfl) ?_
  refine lv_dup hx hb dX6_adds_21 rfl ?_
  refine w_get C hw uw_X6 0 rO rfl 22 (by decide) fl_X6_138 rfl dX6_adds_22 ?_
  refine lv_iconst (v := 1) hx hb dX6_adds_25 (by decide) ?_
  refine lv_iadd hx hb dX6_adds_26 ?_
  obtain ⟨S_3, eS_3⟩ : ∃ z, z = uF S_2 4 ((S_2.2.2 4) + 1) := ⟨_, rfl⟩
  replace hq := hq S_3 eS_3
  refine w_put (ws' := rw_ ad cI cL S_3) C hw uw_X6 tyX6 tyX6_ok nmX6 0 rO rfl 22 (by decide) fl_X6_138 rfl (by decide +kernel) (Nat.le_of_ble_eq_true rfl) dX6_adds_27 (by rw [eS_3]; exact rFs_4) (fun H locs hw => ?_)
  exact w_vret C hw hq dX6_adds_30
set_option maxHeartbeats 4000000 in
set_option maxRecDepth 100000 in
theorem kJX6_sums_102 {p : Program} {l : Launch} {e : Env} {s : State} {m : MethodId} {args : Array Value} {below : List Frame} {meth : Method} {c : Code} {D : va_G} {ad : Nat → Nat} {cI cL : ClassId} {A : Nat → Prop} (C : Cx p s m args meth c yX6_sums.cls cX6_sums 11 (some .long)) (S : MS) (x1 : Int32) (x2 : Int32) (x3 : Int64) (x5 : Int32) (x6 : Int32) (x9 : Int32) (t0 : Int64) (t1 : Int64) (Hd : MS → Int32 → Int64 → Int32 → Prop) (K : MS → Int32 → Int64 → Prop) (Q : Int64 → MS → Prop) (hq : JX6_sums_102 S x1 x2 x3 x5 x6 x9 t0 t1 Hd K Q) (H : Heap) (locs : List Loc) (ls : Array Slot) (hw : WW D (rtys cI cL) (rw_ ad cI cL S) A s H locs) (hl : lv_has ls 11 [(0, .ref (ad 0)), (1, .int x1), (2, .int x2), (3, .long x3), (5, .int x5), (6, .int x6), (9, .int x9)]) (hH : ∀ (S : MS) (z6 : Int32) (z7 : Int64) (z9 : Int32) (H : Heap) (locs : List Loc) (ls : Array Slot), Hd S z6 z7 z9 → WW D (rtys cI cL) (rw_ ad cI cL S) A s H locs → lv_has ls 11 [(0, .ref (ad 0)), (1, .int x1), (2, .int x2), (3, .long x3), (5, .int x5), (6, .int z6), (7, .long z7), (9, .int z9)] → W p l e { frames := 1, cells := 0, slots := 0, locals := 26 } s m args below meth c H locs 0 0 (Zl D (rtys cI cL) (rw_ ad cI cL) A below args s Q) (F0 m 25 ls [])) (hK : ∀ (S : MS) (z6 : Int32) (z7 : Int64) (H : Heap) (locs : List Loc) (ls : Array Slot), K S z6 z7 → WW D (rtys cI cL) (rw_ ad cI cL S) A s H locs → lv_has ls 11 [(0, .ref (ad 0)), (1, .int x1), (2, .int x2), (3, .long x3), (5, .int x5), (6, .int z6), (7, .long z7)] → W p l e { frames := 1, cells := 0, slots := 0, locals := 26 } s m args below meth c H locs 0 0 (Zl D (rtys cI cL) (rw_ ad cI cL) A below args s Q) (F0 m 111 ls [])) : W p l e { frames := 1, cells := 0, slots := 0, locals := 26 } s m args below meth c H locs 0 0 (Zl D (rtys cI cL) (rw_ ad cI cL) A below args s Q) (F0 m 102 ls [.long t1, .long t0]) := by
  have hx := C.1
  have hb := C.2.1
  unfold JX6_sums_102 at hq
  refine lv_lmul hx hb dX6_sums_102 ?_
  refine lv_lstore (lv' := [(7, .long (t0 * t1)), (0, .ref (ad 0)), (1, .int x1), (2, .int x2), (3, .long x3), (5, .int x5), (6, .int x6), (9, .int x9)]) hx hb dX6_sums_103 hl (by decide) rfl (fun ls hl => ?_)
  refine lv_iinc (v := x9 + 1) (lv' := [(9, .int (x9 + 1)), (7, .long (t0 * t1)), (0, .ref (ad 0)), (1, .int x1), (2, .int x2), (3, .long x3), (5, .int x5), (6, .int x6)]) hx hb dX6_sums_105 hl (k := 7) rfl rfl (by decide) rfl (fun ls hl => ?_)
  refine lv_goto (tgt := 25) hx hb dX6_sums_108 (by decide) ?_
  exact hH S x6 (t0 * t1) (x9 + 1) _ _ _ hq hw (lv_sub hl [2, 3, 4, 5, 6, 7, 1, 0] rfl)
set_option maxHeartbeats 4000000 in
set_option maxRecDepth 100000 in
theorem kJX6_sums_70 {p : Program} {l : Launch} {e : Env} {s : State} {m : MethodId} {args : Array Value} {below : List Frame} {meth : Method} {c : Code} {D : va_G} {ad : Nat → Nat} {cI cL : ClassId} {A : Nat → Prop} (C : Cx p s m args meth c yX6_sums.cls cX6_sums 11 (some .long)) (S : MS) (x1 : Int32) (x2 : Int32) (x3 : Int64) (x5 : Int32) (x7 : Int64) (x9 : Int32) (x10 : Int32) (t0 : Int32) (t1 : Int32) (Hd : MS → Int32 → Int64 → Int32 → Prop) (K : MS → Int32 → Int64 → Prop) (Q : Int64 → MS → Prop) (hq : JX6_sums_70 S x1 x2 x3 x5 x7 x9 x10 t0 t1 Hd K Q) (H : Heap) (locs : List Loc) (ls : Array Slot) (hw : WW D (rtys cI cL) (rw_ ad cI cL S) A s H locs) (hl : lv_has ls 11 [(0, .ref (ad 0)), (1, .int x1), (2, .int x2), (3, .long x3), (5, .int x5), (7, .long x7), (9, .int x9), (10, .int x10)]) (hH : ∀ (S : MS) (z6 : Int32) (z7 : Int64) (z9 : Int32) (H : Heap) (locs : List Loc) (ls : Array Slot), Hd S z6 z7 z9 → WW D (rtys cI cL) (rw_ ad cI cL S) A s H locs → lv_has ls 11 [(0, .ref (ad 0)), (1, .int x1), (2, .int x2), (3, .long x3), (5, .int x5), (6, .int z6), (7, .long z7), (9, .int z9)] → W p l e { frames := 1, cells := 0, slots := 0, locals := 26 } s m args below meth c H locs 0 0 (Zl D (rtys cI cL) (rw_ ad cI cL) A below args s Q) (F0 m 25 ls [])) (hK : ∀ (S : MS) (z6 : Int32) (z7 : Int64) (H : Heap) (locs : List Loc) (ls : Array Slot), K S z6 z7 → WW D (rtys cI cL) (rw_ ad cI cL S) A s H locs → lv_has ls 11 [(0, .ref (ad 0)), (1, .int x1), (2, .int x2), (3, .long x3), (5, .int x5), (6, .int z6), (7, .long z7)] → W p l e { frames := 1, cells := 0, slots := 0, locals := 26 } s m args below meth c H locs 0 0 (Zl D (rtys cI cL) (rw_ ad cI cL) A below args s Q) (F0 m 111 ls [])) : W p l e { frames := 1, cells := 0, slots := 0, locals := 26 } s m args below meth c H locs 0 0 (Zl D (rtys cI cL) (rw_ ad cI cL) A below args s Q) (F0 m 70 ls [.int t1, .int t0]) := by
  have hx := C.1
  have hb := C.2.1
  unfold JX6_sums_70 at hq
  refine lv_ior hx hb dX6_sums_70 ?_
  refine lv_istore (lv' := [(6, .int (t0 ||| t1)), (0, .ref (ad 0)), (1, .int x1), (2, .int x2), (3, .long x3), (5, .int x5), (7, .long x7), (9, .int x9), (10, .int x10)]) hx hb dX6_sums_71 hl (by decide) rfl (fun ls hl => ?_)
  refine lv_lload hx hb dX6_sums_73 (lv_at hl 6 rfl) ?_
  refine lv_iload hx hb dX6_sums_75 (lv_at hl 8 rfl) ?_
  refine lv_if_eq (tgt := 91) hx hb dX6_sums_77 (by decide) (fun hc => ?_) (fun hc => ?_)
  · replace hq := hq.1 hc
    refine lv_bipush (v := 64) hx hb dX6_sums_91 (by decide) ?_
    refine lv_aload_n hx hb dX6_sums_93 rfl (lv_at hl 1 rfl) ?_
    refine w_get C hw uw_X6 0 rO rfl 23 (by decide) fl_X6_65 rfl dX6_sums_94 ?_
    refine lv_iload hx hb dX6_sums_97 (lv_at hl 7 rfl) ?_
    obtain ⟨hin, hq⟩ := hq
    refine w_ild C hw 18 0 rI_17 rfl hin dX6_sums_99 ?_
    refine lv_isub hx hb dX6_sums_100 ?_
    refine lv_i2l (v := (64 - (S.1 17 x9.toNatClampNeg)).toInt64) hx hb dX6_sums_101 rfl ?_
    exact kJX6_sums_102 C S x1 x2 x3 x5 (t0 ||| t1) x9 x7 ((64 - (S.1 17 x9.toNatClampNeg)).toInt64) Hd K Q hq _ _ _ hw (lv_sub hl [1, 2, 3, 4, 5, 0, 7] rfl) hH hK
  · replace hq := hq.2 hc
    refine lv_aload_n hx hb dX6_sums_80 rfl (lv_at hl 1 rfl) ?_
    refine w_get C hw uw_X6 0 rO rfl 23 (by decide) fl_X6_65 rfl dX6_sums_81 ?_
    refine lv_iload hx hb dX6_sums_84 (lv_at hl 7 rfl) ?_
    obtain ⟨hin, hq⟩ := hq
    refine w_ild C hw 18 0 rI_17 rfl hin dX6_sums_86 ?_
    refine lv_i2l (v := (S.1 17 x9.toNatClampNeg).toInt64) hx hb dX6_sums_87 rfl ?_
    refine lv_goto (tgt := 102) hx hb dX6_sums_88 (by decide) ?_
    exact kJX6_sums_102 C S x1 x2 x3 x5 (t0 ||| t1) x9 x7 ((S.1 17 x9.toNatClampNeg).toInt64) Hd K Q hq _ _ _ hw (lv_sub hl [1, 2, 3, 4, 5, 0, 7] rfl) hH hK
set_option maxHeartbeats 4000000 in
set_option maxRecDepth 100000 in
theorem kJX6_sums_50 {p : Program} {l : Launch} {e : Env} {s : State} {m : MethodId} {args : Array Value} {below : List Frame} {meth : Method} {c : Code} {D : va_G} {ad : Nat → Nat} {cI cL : ClassId} {A : Nat → Prop} (C : Cx p s m args meth c yX6_sums.cls cX6_sums 11 (some .long)) (S : MS) (x1 : Int32) (x2 : Int32) (x3 : Int64) (x5 : Int32) (x6 : Int32) (x7 : Int64) (x9 : Int32) (t0 : Int32) (Hd : MS → Int32 → Int64 → Int32 → Prop) (K : MS → Int32 → Int64 → Prop) (Q : Int64 → MS → Prop) (hq : JX6_sums_50 S x1 x2 x3 x5 x6 x7 x9 t0 Hd K Q) (H : Heap) (locs : List Loc) (ls : Array Slot) (hw : WW D (rtys cI cL) (rw_ ad cI cL S) A s H locs) (hl : lv_has ls 11 [(0, .ref (ad 0)), (1, .int x1), (2, .int x2), (3, .long x3), (5, .int x5), (6, .int x6), (7, .long x7), (9, .int x9)]) (hH : ∀ (S : MS) (z6 : Int32) (z7 : Int64) (z9 : Int32) (H : Heap) (locs : List Loc) (ls : Array Slot), Hd S z6 z7 z9 → WW D (rtys cI cL) (rw_ ad cI cL S) A s H locs → lv_has ls 11 [(0, .ref (ad 0)), (1, .int x1), (2, .int x2), (3, .long x3), (5, .int x5), (6, .int z6), (7, .long z7), (9, .int z9)] → W p l e { frames := 1, cells := 0, slots := 0, locals := 26 } s m args below meth c H locs 0 0 (Zl D (rtys cI cL) (rw_ ad cI cL) A below args s Q) (F0 m 25 ls [])) (hK : ∀ (S : MS) (z6 : Int32) (z7 : Int64) (H : Heap) (locs : List Loc) (ls : Array Slot), K S z6 z7 → WW D (rtys cI cL) (rw_ ad cI cL S) A s H locs → lv_has ls 11 [(0, .ref (ad 0)), (1, .int x1), (2, .int x2), (3, .long x3), (5, .int x5), (6, .int z6), (7, .long z7)] → W p l e { frames := 1, cells := 0, slots := 0, locals := 26 } s m args below meth c H locs 0 0 (Zl D (rtys cI cL) (rw_ ad cI cL) A below args s Q) (F0 m 111 ls [])) : W p l e { frames := 1, cells := 0, slots := 0, locals := 26 } s m args below meth c H locs 0 0 (Zl D (rtys cI cL) (rw_ ad cI cL) A below args s Q) (F0 m 50 ls [.int t0]) := by
  have hx := C.1
  have hb := C.2.1
  unfold JX6_sums_50 at hq
  refine lv_istore (lv' := [(10, .int t0), (0, .ref (ad 0)), (1, .int x1), (2, .int x2), (3, .long x3), (5, .int x5), (6, .int x6), (7, .long x7), (9, .int x9)]) hx hb dX6_sums_50 hl (by decide) rfl (fun ls hl => ?_)
  refine lv_iload hx hb dX6_sums_52 (lv_at hl 6 rfl) ?_
  refine lv_iload hx hb dX6_sums_54 (lv_at hl 0 rfl) ?_
  refine lv_if_eq (tgt := 69) hx hb dX6_sums_56 (by decide) (fun hc => ?_) (fun hc => ?_)
  · replace hq := hq.1 hc
    refine lv_iconst (v := 0) hx hb dX6_sums_69 (by decide) ?_
    exact kJX6_sums_70 C S x1 x2 x3 x5 x7 x9 t0 x6 0 Hd K Q hq _ _ _ hw (lv_sub hl [1, 2, 3, 4, 5, 7, 8, 0] rfl) hH hK
  · replace hq := hq.2 hc
    refine lv_aload_n hx hb dX6_sums_59 rfl (lv_at hl 1 rfl) ?_
    refine w_get C hw uw_X6 0 rO rfl 24 (by decide) fl_X6_68 rfl dX6_sums_60 ?_
    refine lv_iload hx hb dX6_sums_63 (lv_at hl 8 rfl) ?_
    obtain ⟨hin, hq⟩ := hq
    refine w_ild C hw 19 0 rI_18 rfl hin dX6_sums_65 ?_
    refine lv_goto (tgt := 70) hx hb dX6_sums_66 (by decide) ?_
    exact kJX6_sums_70 C S x1 x2 x3 x5 x7 x9 t0 x6 (S.1 18 x9.toNatClampNeg) Hd K Q hq _ _ _ hw (lv_sub hl [1, 2, 3, 4, 5, 7, 8, 0] rfl) hH hK
set_option maxHeartbeats 4000000 in
set_option maxRecDepth 100000 in
theorem kLX6_sums_25 {p : Program} {l : Launch} {e : Env} {s : State} {m : MethodId} {args : Array Value} {below : List Frame} {meth : Method} {c : Code} {D : va_G} {ad : Nat → Nat} {cI cL : ClassId} {A : Nat → Prop} (C : Cx p s m args meth c yX6_sums.cls cX6_sums 11 (some .long)) (x1 : Int32) (x2 : Int32) (x3 : Int64) (x5 : Int32) (K : MS → Int32 → Int64 → Prop) (Q : Int64 → MS → Prop) (hK : ∀ (S : MS) (z6 : Int32) (z7 : Int64) (H : Heap) (locs : List Loc) (ls : Array Slot), K S z6 z7 → WW D (rtys cI cL) (rw_ ad cI cL S) A s H locs → lv_has ls 11 [(0, .ref (ad 0)), (1, .int x1), (2, .int x2), (3, .long x3), (5, .int x5), (6, .int z6), (7, .long z7)] → W p l e { frames := 1, cells := 0, slots := 0, locals := 26 } s m args below meth c H locs 0 0 (Zl D (rtys cI cL) (rw_ ad cI cL) A below args s Q) (F0 m 111 ls [])) : ∀ (n : Nat) (S : MS) (x6 : Int32) (x7 : Int64) (x9 : Int32) (_ : LX6_sums_25 x1 x2 x3 x5 K Q n S x6 x7 x9) (H : Heap) (locs : List Loc) (ls : Array Slot), WW D (rtys cI cL) (rw_ ad cI cL S) A s H locs → lv_has ls 11 [(0, .ref (ad 0)), (1, .int x1), (2, .int x2), (3, .long x3), (5, .int x5), (6, .int x6), (7, .long x7), (9, .int x9)] → W p l e { frames := 1, cells := 0, slots := 0, locals := 26 } s m args below meth c H locs 0 0 (Zl D (rtys cI cL) (rw_ ad cI cL) A below args s Q) (F0 m 25 ls []) := by
  have hx := C.1
  have hb := C.2.1
  intro n
  induction n with
  | zero => intro S x6 x7 x9 hq; exact absurd hq (by rw [LX6_sums_25]; exact id)
  | succ n ih =>
    intro S x6 x7 x9 hq H locs ls hw hl
    rw [LX6_sums_25] at hq
    refine lv_iload hx hb dX6_sums_25 (lv_at hl 7 rfl) ?_
    refine lv_aload_n hx hb dX6_sums_27 rfl (lv_at hl 0 rfl) ?_
    refine w_get C hw uw_X6 0 rO rfl 22 (by decide) fl_X6_138 rfl dX6_sums_28 ?_
    refine lv_icmp_ge (tgt := 111) hx hb dX6_sums_31 (by decide) (fun hc => ?_) (fun hc => ?_)
    · replace hq := hq.1 hc
      exact hK S x6 x7 _ _ _ hq hw (lv_sub hl [0, 1, 2, 3, 4, 5, 6] rfl)
    · replace hq := hq.2 hc
      refine lv_iload hx hb dX6_sums_34 (lv_at hl 4 rfl) ?_
      refine lv_iload hx hb dX6_sums_36 (lv_at hl 7 rfl) ?_
      refine lv_ishr hx hb dX6_sums_38 ?_
      refine lv_iconst (v := 1) hx hb dX6_sums_39 (by decide) ?_
      refine lv_iand hx hb dX6_sums_40 ?_
      refine lv_iconst (v := 1) hx hb dX6_sums_41 (by decide) ?_
      refine lv_icmp_ne (tgt := 49) hx hb dX6_sums_42 (by decide) (fun hc => ?_) (fun hc => ?_)
      · replace hq := hq.2 hc
        refine lv_iconst (v := 0) hx hb dX6_sums_49 (by decide) ?_
        exact kJX6_sums_50 C S x1 x2 x3 x5 x6 x7 x9 0 _ K Q hq _ _ _ hw (lv_sub hl [0, 1, 2, 3, 4, 5, 6, 7] rfl) (fun S a6 a7 a9 H locs ls hq hw hl => ih S a6 a7 a9 hq H locs ls hw hl) hK
      · replace hq := hq.1 hc
        refine lv_iconst (v := 1) hx hb dX6_sums_45 (by decide) ?_
        refine lv_goto (tgt := 50) hx hb dX6_sums_46 (by decide) ?_
        exact kJX6_sums_50 C S x1 x2 x3 x5 x6 x7 x9 1 _ K Q hq _ _ _ hw (lv_sub hl [0, 1, 2, 3, 4, 5, 6, 7] rfl) (fun S a6 a7 a9 H locs ls hq hw hl => ih S a6 a7 a9 hq H locs ls hw hl) hK
set_option maxHeartbeats 4000000 in
set_option maxRecDepth 100000 in
theorem kJX6_sums_145 {p : Program} {l : Launch} {e : Env} {s : State} {m : MethodId} {args : Array Value} {below : List Frame} {meth : Method} {c : Code} {D : va_G} {ad : Nat → Nat} {cI cL : ClassId} {A : Nat → Prop} (C : Cx p s m args meth c yX6_sums.cls cX6_sums 11 (some .long)) (S : MS) (x1 : Int32) (x2 : Int32) (x3 : Int64) (x5 : Int32) (Hd : MS → Int64 → Int32 → Prop) (K : MS → Int64 → Prop) (Q : Int64 → MS → Prop) (hq : JX6_sums_145 S x1 x2 x3 x5 Hd K Q) (H : Heap) (locs : List Loc) (ls : Array Slot) (hw : WW D (rtys cI cL) (rw_ ad cI cL S) A s H locs) (hl : lv_has ls 11 [(0, .ref (ad 0)), (1, .int x1), (2, .int x2), (3, .long x3), (5, .int x5)]) (hH : ∀ (S : MS) (z3 : Int64) (z5 : Int32) (H : Heap) (locs : List Loc) (ls : Array Slot), Hd S z3 z5 → WW D (rtys cI cL) (rw_ ad cI cL S) A s H locs → lv_has ls 11 [(0, .ref (ad 0)), (1, .int x1), (2, .int x2), (3, .long z3), (5, .int z5)] → W p l e { frames := 1, cells := 0, slots := 0, locals := 26 } s m args below meth c H locs 0 0 (Zl D (rtys cI cL) (rw_ ad cI cL) A below args s Q) (F0 m 5 ls [])) (hK : ∀ (S : MS) (z3 : Int64) (H : Heap) (locs : List Loc) (ls : Array Slot), K S z3 → WW D (rtys cI cL) (rw_ ad cI cL S) A s H locs → lv_has ls 11 [(0, .ref (ad 0)), (3, .long z3)] → W p l e { frames := 1, cells := 0, slots := 0, locals := 26 } s m args below meth c H locs 0 0 (Zl D (rtys cI cL) (rw_ ad cI cL) A below args s Q) (F0 m 151 ls [])) : W p l e { frames := 1, cells := 0, slots := 0, locals := 26 } s m args below meth c H locs 0 0 (Zl D (rtys cI cL) (rw_ ad cI cL) A below args s Q) (F0 m 145 ls []) := by
  have hx := C.1
  have hb := C.2.1
  unfold JX6_sums_145 at hq
  refine lv_iinc (v := x5 + 1) (lv' := [(5, .int (x5 + 1)), (0, .ref (ad 0)), (1, .int x1), (2, .int x2), (3, .long x3)]) hx hb dX6_sums_145 hl (k := 4) rfl rfl (by decide) rfl (fun ls hl => ?_)
  refine lv_goto (tgt := 5) hx hb dX6_sums_148 (by decide) ?_
  exact hH S x3 (x5 + 1) _ _ _ hq hw (lv_sub hl [1, 2, 3, 4, 0] rfl)
set_option maxHeartbeats 4000000 in
set_option maxRecDepth 100000 in
theorem kJX6_sums_133 {p : Program} {l : Launch} {e : Env} {s : State} {m : MethodId} {args : Array Value} {below : List Frame} {meth : Method} {c : Code} {D : va_G} {ad : Nat → Nat} {cI cL : ClassId} {A : Nat → Prop} (C : Cx p s m args meth c yX6_sums.cls cX6_sums 11 (some .long)) (S : MS) (x1 : Int32) (x2 : Int32) (x3 : Int64) (x5 : Int32) (x7 : Int64) (t0 : Int32) (t1 : Int32) (Hd : MS → Int64 → Int32 → Prop) (K : MS → Int64 → Prop) (Q : Int64 → MS → Prop) (hq : JX6_sums_133 S x1 x2 x3 x5 x7 t0 t1 Hd K Q) (H : Heap) (locs : List Loc) (ls : Array Slot) (hw : WW D (rtys cI cL) (rw_ ad cI cL S) A s H locs) (hl : lv_has ls 11 [(0, .ref (ad 0)), (1, .int x1), (2, .int x2), (3, .long x3), (5, .int x5), (7, .long x7)]) (hH : ∀ (S : MS) (z3 : Int64) (z5 : Int32) (H : Heap) (locs : List Loc) (ls : Array Slot), Hd S z3 z5 → WW D (rtys cI cL) (rw_ ad cI cL S) A s H locs → lv_has ls 11 [(0, .ref (ad 0)), (1, .int x1), (2, .int x2), (3, .long z3), (5, .int z5)] → W p l e { frames := 1, cells := 0, slots := 0, locals := 26 } s m args below meth c H locs 0 0 (Zl D (rtys cI cL) (rw_ ad cI cL) A below args s Q) (F0 m 5 ls [])) (hK : ∀ (S : MS) (z3 : Int64) (H : Heap) (locs : List Loc) (ls : Array Slot), K S z3 → WW D (rtys cI cL) (rw_ ad cI cL S) A s H locs → lv_has ls 11 [(0, .ref (ad 0)), (3, .long z3)] → W p l e { frames := 1, cells := 0, slots := 0, locals := 26 } s m args below meth c H locs 0 0 (Zl D (rtys cI cL) (rw_ ad cI cL) A below args s Q) (F0 m 151 ls [])) : W p l e { frames := 1, cells := 0, slots := 0, locals := 26 } s m args below meth c H locs 0 0 (Zl D (rtys cI cL) (rw_ ad cI cL) A below args s Q) (F0 m 133 ls [.int t1, .int t0, .ref (ad 0)]) := by
  have hx := C.1
  have hb := C.2.1
  unfold JX6_sums_133 at hq
  refine w_calli hw (w_runV (rest := []) C hw (mX6_does l D ad cI cL S t0 t1 _ hq _) kc_X6_does ml_X6_141 0 rO rfl rfl ⟨rfl, rfl, Nat.le_of_ble_eq_true rfl, Nat.le_of_ble_eq_true rfl⟩ rfl rfl (Nat.le_of_ble_eq_true rfl) hl.1 dX6_sums_133) ?_
  clear hw hq
  intro r_4 S_3 H locs hq hw
  refine lv_iload_n hx hb dX6_sums_136 rfl (lv_at hl 2 rfl) ?_
  refine lv_icmp_eq (tgt := 145) hx hb dX6_sums_137 (by decide) (fun hc => ?_) (fun hc => ?_)
  · replace hq := hq.1 hc
    exact kJX6_sums_145 C S_3 x1 x2 x3 x5 Hd K Q hq _ _ _ hw (lv_sub hl [0, 1, 2, 3, 4] rfl) hH hK
  · replace hq := hq.2 hc
    refine lv_lload_n hx hb dX6_sums_140 rfl (lv_at hl 3 rfl) ?_
    refine lv_lload hx hb dX6_sums_141 (lv_at hl 5 rfl) ?_
    refine lv_ladd hx hb dX6_sums_143 ?_
    refine lv_lstore_n (lv' := [(3, .long (x3 + x7)), (0, .ref (ad 0)), (1, .int x1), (2, .int x2), (5, .int x5), (7, .long x7)]) hx hb dX6_sums_144 rfl hl (by decide) rfl (fun ls hl => ?_)
    exact kJX6_sums_145 C S_3 x1 x2 (x3 + x7) x5 Hd K Q hq _ _ _ hw (lv_sub hl [1, 2, 3, 0, 4] rfl) hH hK
set_option maxHeartbeats 4000000 in
set_option maxRecDepth 100000 in
theorem kLX6_sums_5 {p : Program} {l : Launch} {e : Env} {s : State} {m : MethodId} {args : Array Value} {below : List Frame} {meth : Method} {c : Code} {D : va_G} {ad : Nat → Nat} {cI cL : ClassId} {A : Nat → Prop} (C : Cx p s m args meth c yX6_sums.cls cX6_sums 11 (some .long)) (x1 : Int32) (x2 : Int32) (K : MS → Int64 → Prop) (Q : Int64 → MS → Prop) (hK : ∀ (S : MS) (z3 : Int64) (H : Heap) (locs : List Loc) (ls : Array Slot), K S z3 → WW D (rtys cI cL) (rw_ ad cI cL S) A s H locs → lv_has ls 11 [(0, .ref (ad 0)), (3, .long z3)] → W p l e { frames := 1, cells := 0, slots := 0, locals := 26 } s m args below meth c H locs 0 0 (Zl D (rtys cI cL) (rw_ ad cI cL) A below args s Q) (F0 m 151 ls [])) : ∀ (n : Nat) (S : MS) (x3 : Int64) (x5 : Int32) (_ : LX6_sums_5 x1 x2 K Q n S x3 x5) (H : Heap) (locs : List Loc) (ls : Array Slot), WW D (rtys cI cL) (rw_ ad cI cL S) A s H locs → lv_has ls 11 [(0, .ref (ad 0)), (1, .int x1), (2, .int x2), (3, .long x3), (5, .int x5)] → W p l e { frames := 1, cells := 0, slots := 0, locals := 26 } s m args below meth c H locs 0 0 (Zl D (rtys cI cL) (rw_ ad cI cL) A below args s Q) (F0 m 5 ls []) := by
  have hx := C.1
  have hb := C.2.1
  intro n
  induction n with
  | zero => intro S x3 x5 hq; exact absurd hq (by rw [LX6_sums_5]; exact id)
  | succ n ih =>
    intro S x3 x5 hq H locs ls hw hl
    rw [LX6_sums_5] at hq
    refine lv_iload hx hb dX6_sums_5 (lv_at hl 4 rfl) ?_
    refine lv_iconst (v := 1) hx hb dX6_sums_7 (by decide) ?_
    refine lv_aload_n hx hb dX6_sums_8 rfl (lv_at hl 0 rfl) ?_
    refine w_get C hw uw_X6 0 rO rfl 22 (by decide) fl_X6_138 rfl dX6_sums_9 ?_
    refine lv_ishl hx hb dX6_sums_12 ?_
    refine lv_icmp_ge (tgt := 151) hx hb dX6_sums_13 (by decide) (fun hc => ?_) (fun hc => ?_)
    · replace hq := hq.1 hc
      exact hK S x3 _ _ _ hq hw (lv_sub hl [0, 3] rfl)
    · replace hq := hq.2 hc
      refine lv_iconst (v := 0) hx hb dX6_sums_16 (by decide) ?_
      refine lv_istore (lv' := [(6, .int 0), (0, .ref (ad 0)), (1, .int x1), (2, .int x2), (3, .long x3), (5, .int x5)]) hx hb dX6_sums_17 hl (by decide) rfl (fun ls hl => ?_)
      refine lv_lconst (v := 1) hx hb dX6_sums_19 (by decide) ?_
      refine lv_lstore (lv' := [(7, .long 1), (6, .int 0), (0, .ref (ad 0)), (1, .int x1), (2, .int x2), (3, .long x3), (5, .int x5)]) hx hb dX6_sums_20 hl (by decide) rfl (fun ls hl => ?_)
      refine lv_iconst (v := 0) hx hb dX6_sums_22 (by decide) ?_
      refine lv_istore (lv' := [(9, .int 0), (7, .long 1), (6, .int 0), (0, .ref (ad 0)), (1, .int x1), (2, .int x2), (3, .long x3), (5, .int x5)]) hx hb dX6_sums_23 hl (by decide) rfl (fun ls hl => ?_)
      obtain ⟨n0, hq⟩ := hq
      refine kLX6_sums_25 C x1 x2 x3 x5 _ Q ?_ n0 S 0 1 0 hq _ _ _ hw (lv_sub hl [3, 4, 5, 6, 7, 2, 1, 0] rfl)
      clear hw hl hq
      intro S_1 y_2 y_3 H locs ls hq hw hl
      refine lv_lload hx hb dX6_sums_111 (lv_at hl 6 rfl) ?_
      refine lv_lconst (v := 0) hx hb dX6_sums_113 (by decide) ?_
      refine W.lcmp hx hb dX6_sums_114 ?_
      refine lv_if_le (tgt := 145) hx hb dX6_sums_115 (by decide) (fun hc => ?_) (fun hc => ?_)
      · replace hq := hq.1 hc
        exact kJX6_sums_145 C S_1 x1 x2 x3 x5 _ K Q hq _ _ _ hw (lv_sub hl [0, 1, 2, 3, 4] rfl) (fun S a3 a5 H locs ls hq hw hl => ih S a3 a5 hq H locs ls hw hl) hK
      · replace hq := hq.2 hc
        refine lv_aload_n hx hb dX6_sums_118 rfl (lv_at hl 0 rfl) ?_
        refine lv_iload_n hx hb dX6_sums_119 rfl (lv_at hl 1 rfl) ?_
        refine lv_iload_n hx hb dX6_sums_120 rfl (lv_at hl 2 rfl) ?_
        refine lv_if_eq (tgt := 131) hx hb dX6_sums_121 (by decide) (fun hc => ?_) (fun hc => ?_)
        · replace hq := hq.1 hc
          refine lv_iload hx hb dX6_sums_131 (lv_at hl 5 rfl) ?_
          exact kJX6_sums_133 C S_1 x1 x2 x3 x5 y_3 x1 y_2 _ K Q hq _ _ _ hw (lv_sub hl [0, 1, 2, 3, 4, 6] rfl) (fun S a3 a5 H locs ls hq hw hl => ih S a3 a5 hq H locs ls hw hl) hK
        · replace hq := hq.2 hc
          refine lv_iload hx hb dX6_sums_124 (lv_at hl 5 rfl) ?_
          refine lv_iconst (v := (-1)) hx hb dX6_sums_126 (by decide) ?_
          refine lv_ixor hx hb dX6_sums_127 ?_
          refine lv_goto (tgt := 133) hx hb dX6_sums_128 (by decide) ?_
          exact kJX6_sums_133 C S_1 x1 x2 x3 x5 y_3 x1 (y_2 ^^^ (-1)) _ K Q hq _ _ _ hw (lv_sub hl [0, 1, 2, 3, 4, 6] rfl) (fun S a3 a5 H locs ls hq hw hl => ih S a3 a5 hq H locs ls hw hl) hK
set_option maxHeartbeats 4000000 in
set_option maxRecDepth 100000 in
theorem kLX6_sums_157 {p : Program} {l : Launch} {e : Env} {s : State} {m : MethodId} {args : Array Value} {below : List Frame} {meth : Method} {c : Code} {D : va_G} {ad : Nat → Nat} {cI cL : ClassId} {A : Nat → Prop} (C : Cx p s m args meth c yX6_sums.cls cX6_sums 11 (some .long)) (K : MS → Int64 → Prop) (Q : Int64 → MS → Prop) (hK : ∀ (S : MS) (z3 : Int64) (H : Heap) (locs : List Loc) (ls : Array Slot), K S z3 → WW D (rtys cI cL) (rw_ ad cI cL S) A s H locs → lv_has ls 11 [(3, .long z3)] → W p l e { frames := 1, cells := 0, slots := 0, locals := 26 } s m args below meth c H locs 0 0 (Zl D (rtys cI cL) (rw_ ad cI cL) A below args s Q) (F0 m 176 ls [])) : ∀ (n : Nat) (S : MS) (x3 : Int64) (x5 : Int32) (_ : LX6_sums_157 K Q n S x3 x5) (H : Heap) (locs : List Loc) (ls : Array Slot), WW D (rtys cI cL) (rw_ ad cI cL S) A s H locs → lv_has ls 11 [(3, .long x3), (5, .int x5)] → W p l e { frames := 1, cells := 0, slots := 0, locals := 26 } s m args below meth c H locs 0 0 (Zl D (rtys cI cL) (rw_ ad cI cL) A below args s Q) (F0 m 157 ls []) := by
  have hx := C.1
  have hb := C.2.1
  intro n
  induction n with
  | zero => intro S x3 x5 hq; exact absurd hq (by rw [LX6_sums_157]; exact id)
  | succ n ih =>
    intro S x3 x5 hq H locs ls hw hl
    rw [LX6_sums_157] at hq
    refine lv_iload hx hb dX6_sums_157 (lv_at hl 1 rfl) ?_
    refine lv_bipush (v := 8) hx hb dX6_sums_159 (by decide) ?_
    refine lv_icmp_ge (tgt := 176) hx hb dX6_sums_161 (by decide) (fun hc => ?_) (fun hc => ?_)
    · replace hq := hq.1 hc
      exact hK S x3 _ _ _ hq hw (lv_sub hl [0] rfl)
    · replace hq := hq.2 hc
      refine lv_lload_n hx hb dX6_sums_164 rfl (lv_at hl 0 rfl) ?_
      refine lv_ldc2 hx hb C.2.2.2.2.1 (C.w kk_X6_87 rfl) dX6_sums_165 ?_
      refine lv_lmul hx hb dX6_sums_168 ?_
      refine lv_lstore_n (lv' := [(3, .long (x3 * 64)), (5, .int x5)]) hx hb dX6_sums_169 rfl hl (by decide) rfl (fun ls hl => ?_)
      refine lv_iinc (v := x5 + 1) (lv' := [(5, .int (x5 + 1)), (3, .long (x3 * 64))]) hx hb dX6_sums_170 hl (k := 1) rfl rfl (by decide) rfl (fun ls hl => ?_)
      refine lv_goto (tgt := 157) hx hb dX6_sums_173 (by decide) ?_
      exact ih S (x3 * 64) (x5 + 1) hq _ _ _ hw (lv_sub hl [1, 0] rfl)
set_option maxHeartbeats 4000000 in
set_option maxRecDepth 100000 in
theorem mX6_sums (l : Launch) (D : va_G) (ad : Nat → Nat) (cI cL : ClassId) (S : MS) (x1 : Int32) (x2 : Int32) (Q : Int64 → MS → Prop) (hq : wX6_sums S x1 x2 Q) : Ml l yX6_sums cX6_sums 11 (some .long) { frames := 1, cells := 0, slots := 0, locals := 26 } D (rtys cI cL) (rw_ ad cI cL) [.ref (ad 0), .int x1, .int x2] S Q := by
  refine Ml.of (by decide +kernel) (Nat.le_of_ble_eq_true rfl) ?_
  intro p e s m args below meth c A ls C hw hl
  have hx := C.1
  have hb := C.2.1
  have hl : lv_has ls 11 [(0, .ref (ad 0)), (1, .int x1), (2, .int x2)] := hl
  have hw : WW D (rtys cI cL) (rw_ ad cI cL S) A s s.heap [] := hw
  unfold wX6_sums at hq
  refine lv_lconst (v := 0) hx hb dX6_sums_0 (by decide) ?_
  refine lv_lstore_n (lv' := [(3, .long 0), (0, .ref (ad 0)), (1, .int x1), (2, .int x2)]) hx hb dX6_sums_1 rfl hl (by decide) rfl (fun ls hl => ?_)
  refine lv_iconst (v := 0) hx hb dX6_sums_2 (by decide) ?_
  refine lv_istore (lv' := [(5, .int 0), (3, .long 0), (0, .ref (ad 0)), (1, .int x1), (2, .int x2)]) hx hb dX6_sums_3 hl (by decide) rfl (fun ls hl => ?_)
  obtain ⟨n0, hq⟩ := hq
  refine kLX6_sums_5 C x1 x2 _ Q ?_ n0 S 0 0 hq _ _ _ hw (lv_sub hl [2, 3, 4, 1, 0] rfl)
  clear hw hl hq
  intro S_1 y_2 H locs ls hq hw hl
  refine lv_aload_n hx hb dX6_sums_151 rfl (lv_at hl 0 rfl) ?_
  refine w_get C hw uw_X6 0 rO rfl 22 (by decide) fl_X6_138 rfl dX6_sums_152 ?_
  refine lv_istore (lv' := [(5, .int (S_1.2.2 4)), (0, .ref (ad 0)), (3, .long y_2)]) hx hb dX6_sums_155 hl (by decide) rfl (fun ls hl => ?_)
  obtain ⟨n0, hq⟩ := hq
  refine kLX6_sums_157 C _ Q ?_ n0 S_1 y_2 (S_1.2.2 4) hq _ _ _ hw (lv_sub hl [2, 0] rfl)
  clear hw hl hq
  intro S_3 y_4 H locs ls hq hw hl
  refine lv_lload_n hx hb dX6_sums_176 rfl (lv_at hl 0 rfl) ?_
  exact w_lret C hw hq dX6_sums_177
