theorem lbits {n : Nat} (hn : n < 2 ^ 64) : ∀ {S : MS} {Q : Int32 → MS → Prop}, Q (nI (fb_ct n.testBit 64)) S → wJ13_bitCount_95d88 S (lN n) Q := by
  intro S Q h
  unfold wJ13_bitCount_95d88
  have m5 : (6148914691236517205 : Int64) = lN (mkN 5 16) := by decide
  have m3 : (3689348814741910323 : Int64) = lN (mkN 3 16) := by decide
  have mb : (1085102592571150095 : Int64) = lN (mkB 8) := by decide
  have hg : gN 16 n < 2 ^ 64 := by
    have key : ∀ (k n : Nat), gN k n < 16 ^ k := by
      intro k
      induction k with
      | zero => intro n; simp [gN]
      | succ k ih => intro n; unfold gN; have := ih (n / 16); have := pc_le n; rw [Nat.pow_succ]; omega
    exact key 16 n
  rintro _ rfl
  rw [m5, show (1 : Int32) = nI 1 from rfl, shrL hn (by omega), fb_andL, lN_sub (Nat.le_trans Nat.and_le_left (by omega))]
  have hv1 : n - (n / 2 ^ 1 &&& mkN 5 16) < 2 ^ 64 := by omega
  rintro _ rfl
  rw [m3, show (2 : Int32) = nI 2 from rfl, shrL hv1 (by omega), fb_andL, fb_andL, lN_add]
  have h12 := st12 16 n (by omega)
  rw [show (n - (n / 2 ^ 1 &&& mkN 5 16) &&& mkN 3 16) + ((n - (n / 2 ^ 1 &&& mkN 5 16)) / 2 ^ 2 &&& mkN 3 16) = gN 16 n from h12]
  rintro _ rfl
  rw [mb, show (4 : Int32) = nI 4 from rfl, shrL hg (by omega), lN_add, fb_andL]
  have h3 := st3 8 n
  rw [show gN 16 n + gN 16 n / 2 ^ 4 &&& mkB 8 = gB 8 n from h3]
  rintro _ rfl
  have hb : ∀ m : Nat, pcN (m % 16) + pcN (m / 16 % 16) ≤ 8 := fun m => by have := pc_le m; have := pc_le (m / 16); omega
  have hf := fin8 _ _ _ _ _ _ _ _ (hb n) (hb (n / 256)) (hb (n / 256 / 256)) (hb (n / 256 / 256 / 256)) (hb (n / 256 / 256 / 256 / 256)) (hb (n / 256 / 256 / 256 / 256 / 256)) (hb (n / 256 / 256 / 256 / 256 / 256 / 256)) (hb (n / 256 / 256 / 256 / 256 / 256 / 256 / 256)) (gB 8 n) _ _ rfl rfl rfl
  obtain ⟨f1, f2, f3, f4⟩ := hf
  rw [show (8 : Int32) = nI 8 from rfl, show (16 : Int32) = nI 16 from rfl, show (32 : Int32) = nI 32 from rfl, shrL f4 (by omega), lN_add, shrL f2 (by omega), lN_add, shrL f3 (by omega), lN_add, lN_i]
  rw [show ∀ z : Nat, nI z &&& 127 = nI (z % 128) from fun z => fa_mask z 7]
  have e : fb_ct n.testBit 64 = sB 8 n := (sB_ct 8 n).symm
  have e2 : (gB 8 n + gB 8 n / 2 ^ 8 + (gB 8 n + gB 8 n / 2 ^ 8) / 2 ^ 16 + (gB 8 n + gB 8 n / 2 ^ 8 + (gB 8 n + gB 8 n / 2 ^ 8) / 2 ^ 16) / 2 ^ 32) % 128 = sB 8 n := by
    refine f1.trans ?_
    simp only [sB]
    clear f1 f2 f3 f4 h h3 h12 hv1 hg
    omega
  rw [e2, ← e]
  exact h
theorem bitCount_spec {S : MS} {w : Int64} {Q : Int32 → MS → Prop} (h : Q (nI (fb_ct (bitL w) 64)) S) : wJ13_bitCount_95d88 S w Q := by
  obtain ⟨n, hn, rfl⟩ := wb_of w
  refine lbits hn ?_
  rw [fb_ct_cong (p := bitL (lN n)) (q := n.testBit) (fun k hk => bitL_lN hk)] at h
  exact h
