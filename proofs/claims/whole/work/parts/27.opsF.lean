/-! PURE SIDE: counts of bits, and bypassed -/
/-- the bits of a nibble -/
def pcN (e : Nat) : Nat := fb_ct e.testBit 4
def pN1 (n : Nat) : Nat := n - ((n / 2) &&& 6148914691236517205)
theorem and16 (x y : Nat) : x &&& y = (x % 16 &&& y % 16) + 16 * (x / 16 &&& y / 16) := by
  have h1 := Nat.and_mod_two_pow (a := x) (b := y) (n := 4)
  have h2 := Nat.and_div_two_pow (a := x) (b := y) (n := 4)
  have h3 := Nat.div_add_mod (x &&& y) 16
  have h1 : (x &&& y) % 16 = (x % 16 &&& y % 16) := h1
  have h2 : (x &&& y) / 16 = (x / 16 &&& y / 16) := h2
  rw [h1, h2] at h3
  omega
theorem and256 (x y : Nat) : x &&& y = (x % 256 &&& y % 256) + 256 * (x / 256 &&& y / 256) := by
  have h1 := Nat.and_mod_two_pow (a := x) (b := y) (n := 8)
  have h2 := Nat.and_div_two_pow (a := x) (b := y) (n := 8)
  have h3 := Nat.div_add_mod (x &&& y) 256
  have h1 : (x &&& y) % 256 = (x % 256 &&& y % 256) := h1
  have h2 : (x &&& y) / 256 = (x / 256 &&& y / 256) := h2
  rw [h1, h2] at h3
  omega
/-- masks of k nibbles, of k bytes -/
def mkN (c : Nat) : Nat → Nat
  | 0 => 0
  | k + 1 => c + 16 * mkN c k
def mkB : Nat → Nat
  | 0 => 0
  | k + 1 => 15 + 256 * mkB k
theorem nib5 : ∀ e, e < 16 → ∀ t, t < 2 → ((e + 16 * t) / 2 % 16 &&& 5) = (e / 2 &&& 5) := by decide +kernel
theorem nib3 : ∀ e, e < 16 → ∀ t, t < 4 → ((e + 16 * t) / 4 % 16 &&& 3) = (e / 4 &&& 3) := by decide +kernel
theorem nibP : ∀ e, e < 16 → ((e - (e / 2 &&& 5)) &&& 3) + ((e - (e / 2 &&& 5)) / 4 &&& 3) = pcN e ∧ e - (e / 2 &&& 5) < 16 ∧ (e / 2 &&& 5) ≤ e ∧ pcN e ≤ 4 := by decide +kernel
theorem st1 (k n : Nat) : n - ((n / 2) &&& mkN 5 (k + 1)) = (n % 16 - (n % 16 / 2 &&& 5)) + 16 * (n / 16 - (n / 16 / 2 &&& mkN 5 k)) := by
  rw [and16]
  have e1 : mkN 5 (k + 1) % 16 = 5 := by unfold mkN; omega
  have e2 : mkN 5 (k + 1) / 16 = mkN 5 k := by rw [show mkN 5 (k + 1) = 5 + 16 * mkN 5 k from rfl]; omega
  rw [e1, e2]
  have h5 := nib5 (n % 16) (Nat.mod_lt _ (by omega)) (n / 16 % 2) (Nat.mod_lt _ (by omega))
  rw [show (n % 16 + 16 * (n / 16 % 2)) / 2 % 16 = n / 2 % 16 by omega] at h5
  rw [h5, show n / 2 / 16 = n / 16 / 2 by omega]
  have hP := nibP (n % 16) (Nat.mod_lt _ (by omega))
  have hl := Nat.and_le_left (n := n / 16 / 2) (m := mkN 5 k)
  omega
theorem st2 (k e r : Nat) (he : e < 16) : ((e + 16 * r) &&& mkN 3 (k + 1)) + ((e + 16 * r) / 4 &&& mkN 3 (k + 1)) = ((e &&& 3) + (e / 4 &&& 3)) + 16 * ((r &&& mkN 3 k) + (r / 4 &&& mkN 3 k)) := by
  have e1 : mkN 3 (k + 1) % 16 = 3 := by unfold mkN; omega
  have e2 : mkN 3 (k + 1) / 16 = mkN 3 k := by rw [show mkN 3 (k + 1) = 3 + 16 * mkN 3 k from rfl]; omega
  rw [and16 (e + 16 * r), and16 ((e + 16 * r) / 4), e1, e2]
  have h3 := nib3 e he (r % 4) (Nat.mod_lt _ (by omega))
  rw [show (e + 16 * (r % 4)) / 4 % 16 = (e + 16 * r) / 4 % 16 by omega] at h3
  rw [h3, show (e + 16 * r) % 16 = e by omega, show (e + 16 * r) / 16 = r by omega, show (e + 16 * r) / 4 / 16 = r / 4 by omega]
  omega
/-- the nibbles' counts, nibble by nibble -/
def gN : Nat → Nat → Nat
  | 0, _ => 0
  | k + 1, n => pcN (n % 16) + 16 * gN k (n / 16)
theorem st12 : ∀ (k n : Nat), n < 16 ^ k → ((n - ((n / 2) &&& mkN 5 k)) &&& mkN 3 k) + ((n - ((n / 2) &&& mkN 5 k)) / 4 &&& mkN 3 k) = gN k n
  | 0, n, h => by
    have : n = 0 := by simpa using h
    subst this; rfl
  | k + 1, n, h => by
    have hP := nibP (n % 16) (Nat.mod_lt _ (by omega))
    rw [st1, st2 _ _ _ hP.2.1, st12 k (n / 16) (by rw [Nat.pow_succ] at h; omega), hP.1]
    rfl
theorem byD : ∀ D, D < 256 → (D &&& 15) = D % 16 := by decide +kernel
/-- the bytes' counts, byte by byte -/
def gB : Nat → Nat → Nat
  | 0, _ => 0
  | k + 1, n => (pcN (n % 16) + pcN (n / 16 % 16)) + 256 * gB k (n / 256)
theorem gN_le4 (k n : Nat) : gN k n % 16 ≤ 4 := by
  cases k with
  | zero => simp [gN]
  | succ k => unfold gN; have := nibP (n % 16) (Nat.mod_lt _ (by omega)); omega
theorem st3 : ∀ (k n : Nat), (gN (2 * k) n + gN (2 * k) n / 16) &&& mkB k = gB k n
  | 0, n => by simp [mkB, gB]
  | k + 1, n => by
    have e1 : mkB (k + 1) % 256 = 15 := by unfold mkB; omega
    have e2 : mkB (k + 1) / 256 = mkB k := by rw [show mkB (k + 1) = 15 + 256 * mkB k from rfl]; omega
    have hV : gN (2 * (k + 1)) n = pcN (n % 16) + 16 * (pcN (n / 16 % 16) + 16 * gN (2 * k) (n / 256)) := by
      rw [show 2 * (k + 1) = (2 * k + 1) + 1 by omega]
      show pcN (n % 16) + 16 * (pcN (n / 16 % 16) + 16 * gN (2 * k) (n / 16 / 16)) = _
      rw [show n / 16 / 16 = n / 256 by omega]
    have h1 := (nibP (n % 16) (Nat.mod_lt _ (by omega))).2.2.2
    have h2 := (nibP (n / 16 % 16) (Nat.mod_lt _ (by omega))).2.2.2
    have h3 := gN_le4 (2 * k) (n / 256)
    rw [and256, e1, e2, hV]
    generalize hv : gN (2 * k) (n / 256) = V at h3 ⊢
    generalize hp0 : pcN (n % 16) = p0 at h1 ⊢
    generalize hp1 : pcN (n / 16 % 16) = p1 at h2 ⊢
    have ed : (p0 + 16 * (p1 + 16 * V) + (p0 + 16 * (p1 + 16 * V)) / 16) / 256 = V + V / 16 := by omega
    have em : (p0 + 16 * (p1 + 16 * V) + (p0 + 16 * (p1 + 16 * V)) / 16) % 256 = (p0 + p1) + 16 * (p1 + V % 16) := by omega
    rw [ed, em, byD _ (by omega), show ((p0 + p1) + 16 * (p1 + V % 16)) % 16 = p0 + p1 by omega]
    rw [← hv, st3 k (n / 256), ← hp0, ← hp1]
    rfl
/-- the sum of the bytes' counts -/
def sB : Nat → Nat → Nat
  | 0, _ => 0
  | k + 1, n => (pcN (n % 16) + pcN (n / 16 % 16)) + sB k (n / 256)
theorem f8a (A C r : Nat) (h : A + C < 65536) : (A + C + 65536 * r) / 65536 = r := by omega
theorem f8b (q r : Nat) (h : q < 256) : (q + 256 * r) / 256 = r := by omega
theorem f8c (A r : Nat) (h : A < 4294967296) : (A + 4294967296 * r) / 4294967296 = r := by omega
theorem f8w (q0 q1 q2 r3 : Nat) : (q0 + 256 * (q1 + 256 * (q2 + 256 * r3))) + (q1 + 256 * (q2 + 256 * r3)) = (q0 + q1) + 256 * (q1 + q2) + 65536 * ((q2 + 256 * r3) + r3) := by omega
theorem f8s (q2 q3 q4 r5 : Nat) : (q2 + 256 * (q3 + 256 * (q4 + 256 * r5))) + (q3 + 256 * (q4 + 256 * r5)) = (q2 + q3) + 256 * (q3 + q4) + 65536 * ((q4 + 256 * r5) + r5) := by omega
theorem f8m (a b c d : Nat) (h : a + b ≤ 64) : ((a + 256 * c) + (b + 256 * d)) % 128 = a + b := by omega
theorem fin8 (q0 q1 q2 q3 q4 q5 q6 q7 : Nat) (h0 : q0 ≤ 8) (h1 : q1 ≤ 8) (h2 : q2 ≤ 8) (h3 : q3 ≤ 8) (h4 : q4 ≤ 8) (h5 : q5 ≤ 8) (h6 : q6 ≤ 8) (h7 : q7 ≤ 8)
    (g w x : Nat) (e0 : g = q0 + 256 * (q1 + 256 * (q2 + 256 * (q3 + 256 * (q4 + 256 * (q5 + 256 * (q6 + 256 * (q7 + 256 * 0)))))))) (hw : w = g + g / 256) (hx : x = w + w / 65536) :
    (x + x / 4294967296) % 128 = q0 + q1 + q2 + q3 + q4 + q5 + q6 + q7 ∧ w < 18446744073709551616 ∧ x < 18446744073709551616 ∧ g < 18446744073709551616 := by
  obtain ⟨r5, hr5⟩ : ∃ r, r = q5 + 256 * (q6 + 256 * (q7 + 256 * 0)) := ⟨_, rfl⟩
  obtain ⟨r4, hr4⟩ : ∃ r, r = q4 + 256 * r5 := ⟨_, rfl⟩
  obtain ⟨r3, hr3⟩ : ∃ r, r = q3 + 256 * r4 := ⟨_, rfl⟩
  obtain ⟨r2, hr2⟩ : ∃ r, r = q2 + 256 * r3 := ⟨_, rfl⟩
  obtain ⟨r1, hr1⟩ : ∃ r, r = q1 + 256 * r2 := ⟨_, rfl⟩
  rw [← hr5, ← hr4, ← hr3, ← hr2, ← hr1] at e0
  have b5 : r5 ≤ 526344 := by clear e0 hw hx hr4 hr3 hr2 hr1; omega
  have b4 : r4 ≤ 134744072 := by clear e0 hw hx hr5 hr3 hr2 hr1; omega
  have b3 : r3 ≤ 34494482440 := by clear e0 hw hx hr5 hr4 hr2 hr1; omega
  have b2 : r2 ≤ 8830587504648 := by clear e0 hw hx hr5 hr4 hr3 hr1; omega
  have b1 : r1 ≤ 2260630401189896 := by clear e0 hw hx hr5 hr4 hr3 hr2; omega
  have d1 : g / 256 = r1 := by rw [e0]; exact f8b _ _ (by clear e0 hw hx; omega)
  rw [d1] at hw
  have w1 : w = (q0 + q1) + 256 * (q1 + q2) + 65536 * (r2 + r3) := by rw [hw, e0, hr1, hr2]; exact f8w _ _ _ _
  have d2 : w / 65536 = r2 + r3 := by rw [w1]; exact f8a _ _ _ (by clear e0 hw hx w1 d1; omega)
  rw [d2] at hx
  have s1 : r2 + r3 = (q2 + q3) + 256 * (q3 + q4) + 65536 * (r4 + r5) := by rw [hr2, hr3, hr4]; exact f8s _ _ _ _
  have s2 : r4 + r5 = (q4 + q5) + 256 * ((q5 + q6) + 256 * (q6 + q7 + 256 * q7)) := by rw [hr4, hr5]; clear e0 hw hx w1 d1 d2 s1 hr1 hr2 hr3 hr4 hr5; omega
  generalize hA : q0 + q1 = A at w1
  generalize hB : q1 + q2 = B at w1
  have x1 : x = ((A + (q2 + q3)) + 256 * (B + (q3 + q4)) + 65536 * ((q2 + q3) + (q4 + q5) + 256 * ((q3 + q4) + (q5 + q6)))) + 4294967296 * ((r4 + r5) + (q6 + q7 + 256 * q7)) := by
    rw [hx, w1, s1]
    generalize hT : r4 + r5 = T at s2 ⊢
    clear e0 hw hx w1 d1 d2 s1 hr1 hr2 hr3 hr4 hr5 b1 b2 b3 b4 b5 hA hB hT
    omega
  have d3 : x / 4294967296 = (r4 + r5) + (q6 + q7 + 256 * q7) := by
    rw [x1]; exact f8c _ _ (by clear e0 hw hx w1 d1 d2 s1 s2 x1 hr1 hr2 hr3 hr4 hr5; omega)
  have wb : w < 18446744073709551616 := by rw [w1]; clear e0 hw hx w1 d1 d2 s1 s2 x1 d3 hr1 hr2 hr3 hr4 hr5; omega
  have xb : x < 18446744073709551616 := by rw [x1]; clear e0 hw hx w1 d1 d2 s1 s2 x1 d3 wb hr1 hr2 hr3 hr4 hr5; omega
  have gb : g < 18446744073709551616 := by rw [e0]; clear e0 hw hx w1 d1 d2 s1 s2 x1 d3 wb xb hr1 hr2 hr3 hr4 hr5; omega
  refine ⟨?_, wb, xb, gb⟩
  rw [d3, x1, s2]
  clear e0 hw hx w1 d1 d2 s1 s2 x1 d3 wb xb gb hr1 hr2 hr3 hr4 hr5 b1 b2 b3 b4 b5
  subst hA
  generalize 256 * (q6 + q7 + 256 * q7) = Z
  omega
theorem pc_le (n : Nat) : pcN (n % 16) ≤ 4 := (nibP (n % 16) (Nat.mod_lt _ (by omega))).2.2.2
theorem testBit_ct (n : Nat) : ∀ k, fb_ct n.testBit (4 + k) = pcN (n % 16) + fb_ct (n / 16).testBit k := by
  intro k
  rw [fb_ct_split]
  congr 1
  · unfold pcN
    refine fb_ct_cong (fun i hi => ?_)
    have := Nat.testBit_mod_two_pow n 4 i
    simp [hi] at this
    exact this.symm
  · refine fb_ct_cong (fun i _ => ?_)
    have h : (n / 2 ^ 4).testBit i = n.testBit (i + 4) := Nat.testBit_div_two_pow n i
    rw [Nat.add_comm]
    exact h.symm
theorem sB_ct : ∀ (k n : Nat), sB k n = fb_ct n.testBit (8 * k)
  | 0, n => rfl
  | k + 1, n => by
    rw [show 8 * (k + 1) = 4 + (4 + 8 * k) by omega, testBit_ct, testBit_ct]
    unfold sB
    rw [sB_ct k, show n / 16 / 16 = n / 256 by omega]
    omega
