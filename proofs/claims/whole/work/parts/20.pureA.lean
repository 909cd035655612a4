/-! PURE SIDE, A: numbers and guards -/
theorem i32_lt {x y : Int32} : x < y ↔ x.toInt < y.toInt := Int32.lt_iff_toInt_lt
theorem i32_le {x y : Int32} : x ≤ y ↔ x.toInt ≤ y.toInt := Int32.le_iff_toInt_le
theorem i32_eq {x y : Int32} : x = y ↔ x.toInt = y.toInt := Int32.toInt_inj.symm
theorem i32_nat (x : Int32) {N : Nat} (h : 0 ≤ x.toInt) (h2 : x.toInt ≤ N) : ∃ j : Nat, j ≤ N ∧ x = nI j := by
  have hx : x.toInt < 2 ^ 31 := Int32.toInt_lt x
  refine ⟨x.toInt.toNat, by omega, ?_⟩
  rw [i32_eq, nI_toInt (by omega)]
  omega
theorem i32_not {x : Int32} {N : Nat} (hN : N < 2 ^ 31) (h : ¬ ∃ j : Nat, j ≤ N ∧ x = nI j) : x.toInt < 0 ∨ (N : Int) < x.toInt := by
  rcases Int.lt_or_le x.toInt 0 with h0 | h0
  · exact Or.inl h0
  · rcases Int.lt_or_le (N : Int) x.toInt with h1 | h1
    · exact Or.inr h1
    · exact absurd (i32_nat x h0 h1) h
theorem lg_lt {x y : Int64} : lg_cmp x y < 0 ↔ x.toInt < y.toInt := by
  unfold lg_cmp
  have e : x = y ↔ x.toInt = y.toInt := Int64.toInt_inj.symm
  simp only [gt_iff_lt, Int64.lt_iff_toInt_lt, e]
  split
  · constructor
    · intro h; exact absurd h (by decide)
    · intro h; omega
  · split
    · constructor
      · intro h; exact absurd h (by decide)
      · intro h; omega
    · constructor
      · intro h; omega
      · intro h; decide
theorem lg_gt {x y : Int64} : 0 < lg_cmp x y ↔ y.toInt < x.toInt := by
  unfold lg_cmp
  have e : x = y ↔ x.toInt = y.toInt := Int64.toInt_inj.symm
  simp only [gt_iff_lt, Int64.lt_iff_toInt_lt, e]
  split
  · constructor
    · intro h; assumption
    · intro h; decide
  · split
    · constructor
      · intro h; exact absurd h (by decide)
      · intro h; omega
    · constructor
      · intro h; exact absurd h (by decide)
      · intro h; omega
theorem lg_eq {x y : Int64} : lg_cmp x y = 0 ↔ x = y := by
  unfold lg_cmp
  have e : x = y ↔ x.toInt = y.toInt := Int64.toInt_inj.symm
  simp only [gt_iff_lt, Int64.lt_iff_toInt_lt, e]
  split
  · constructor
    · intro h; exact absurd h (by decide)
    · intro h; omega
  · split
    · constructor
      · intro h; assumption
      · intro h; decide
    · constructor
      · intro h; exact absurd h (by decide)
      · intro h; omega
theorem lg_le {x y : Int64} : lg_cmp x y ≤ 0 ↔ x.toInt ≤ y.toInt := by
  have := lg_gt (x := x) (y := y)
  rw [i32_lt] at this
  rw [i32_le]
  constructor
  · intro h
    rcases Int.lt_or_le y.toInt x.toInt with h1 | h1
    · exact absurd (this.mpr h1) (by omega)
    · exact h1
  · intro h
    rcases Int.lt_or_le (0 : Int32).toInt (lg_cmp x y).toInt with h1 | h1
    · exact absurd (this.mp h1) (by omega)
    · exact h1
theorem nI_64 {j : Nat} (h : j < 2 ^ 31) : (nI j).toInt64.toInt = (j : Int) := by
  rw [Int32.toInt_toInt64, nI_toInt h]
/-- a component's check of a range -/
theorem rng_c {S : MS} {x : Int32} {lo hi : Int32} {Q : Int32 → MS → Prop} (h1 : lo.toInt ≤ x.toInt → x.toInt ≤ hi.toInt → Q 1 S) (h0 : ¬ (lo.toInt ≤ x.toInt ∧ x.toInt ≤ hi.toInt) → Q 0 S) :
    (x < lo → Q 0 S) ∧ (¬ x < lo → (hi < x → Q 0 S) ∧ (¬ hi < x → Q 1 S)) := by
  simp only [i32_lt]
  exact ⟨fun h => h0 (by omega), fun h => ⟨fun g => h0 (by omega), fun g => h1 (by omega) (by omega)⟩⟩
theorem in_spec {S : MS} {x lo hi : Int64} {Q : Int32 → MS → Prop} (h1 : lo.toInt ≤ x.toInt → x.toInt ≤ hi.toInt → Q 1 S) (h0 : ¬ (lo.toInt ≤ x.toInt ∧ x.toInt ≤ hi.toInt) → Q 0 S) : wX6_in S x lo hi Q := by
  unfold wX6_in
  rw [lg_lt, lg_gt]
  exact ⟨fun h => h0 (by omega), fun h => ⟨fun g => h0 (by omega), fun g => h1 (by omega) (by omega)⟩⟩
theorem br1 {A B : Prop} (h : B) : ((1 : Int32) = 0 → A) ∧ (¬ (1 : Int32) = 0 → B) := ⟨fun h => absurd h (by decide), fun _ => h⟩
theorem br0 {A B : Prop} (h : A) : ((0 : Int32) = 0 → A) ∧ (¬ (0 : Int32) = 0 → B) := ⟨fun _ => h, fun h => absurd rfl h⟩
theorem ifT {c A B : Prop} (h : c) (a : A) : (c → A) ∧ (¬ c → B) := ⟨fun _ => a, fun g => absurd h g⟩
theorem ifF {c A B : Prop} (h : ¬ c) (b : B) : (c → A) ∧ (¬ c → B) := ⟨fun g => absurd g h, fun _ => b⟩
theorem isShare_t {S : MS} {j : Nat} {Q : Int32 → MS → Prop} (hj : j ≤ 64) (h : Q 1 S) : wX5_isShare S (nI j) Q :=
  rng_c (lo := 0) (hi := 64) (fun _ _ => h) (fun g => absurd (by rw [nI_toInt (by omega)]; exact ⟨by simp, by show (j : Int) ≤ 64; omega⟩) g)
theorem isShare_f {S : MS} {x : Int32} {Q : Int32 → MS → Prop} (hj : ¬ ∃ j : Nat, j ≤ 64 ∧ x = nI j) (h : Q 0 S) : wX5_isShare S x Q := by
  refine rng_c (lo := 0) (hi := 64) (fun g1 g2 => ?_) (fun _ => h)
  exact absurd (i32_nat x (N := 64) g1 g2) hj
theorem isDay_t {S : MS} {j : Nat} {Q : Int32 → MS → Prop} (hj : j ≤ 999) (h : Q 1 S) : wX5_isDay S (nI j) Q :=
  rng_c (lo := 0) (hi := 999) (fun _ _ => h) (fun g => absurd (by rw [nI_toInt (by omega)]; exact ⟨by simp, by show (j : Int) ≤ 999; omega⟩) g)
theorem isDay_f {S : MS} {x : Int32} {Q : Int32 → MS → Prop} (hj : ¬ ∃ j : Nat, j ≤ 999 ∧ x = nI j) (h : Q 0 S) : wX5_isDay S x Q := by
  refine rng_c (lo := 0) (hi := 999) (fun g1 g2 => ?_) (fun _ => h)
  exact absurd (i32_nat x (N := 999) g1 g2) hj
theorem isInterval_t {S : MS} {j : Nat} {Q : Int32 → MS → Prop} (h1 : 1 ≤ j) (hj : j ≤ 100) (h : Q 1 S) : wX5_isInterval S (nI j) Q :=
  rng_c (lo := 1) (hi := 100) (fun _ _ => h) (fun g => absurd (by rw [nI_toInt (by omega)]; exact ⟨by show (1 : Int) ≤ j; omega, by show (j : Int) ≤ 100; omega⟩) g)
theorem isInterval_f {S : MS} {x : Int32} {Q : Int32 → MS → Prop} (hj : ¬ ∃ j : Nat, (1 ≤ j ∧ j ≤ 100) ∧ x = nI j) (h : Q 0 S) : wX5_isInterval S x Q := by
  refine rng_c (lo := 1) (hi := 100) (fun g1 g2 => ?_) (fun _ => h)
  have g1 : (1 : Int) ≤ x.toInt := g1
  have g2 : x.toInt ≤ 100 := g2
  obtain ⟨j, h1, h2⟩ := i32_nat x (N := 100) (by omega) g2
  rw [h2, nI_toInt (by omega)] at g1
  exact absurd ⟨j, ⟨by omega, h1⟩, h2⟩ hj
theorem inB_t {S : MS} {j N : Nat} {hi : Int64} {Q : Int32 → MS → Prop} (hh : hi.toInt = (N : Int)) (hN : N < 2 ^ 31) (hj : j ≤ N) (h : Q 1 S) : wX6_in S (nI j).toInt64 0 hi Q :=
  in_spec (fun _ _ => h) (fun g => absurd (by rw [nI_64 (by omega), hh]; exact ⟨by simp, by omega⟩) g)
theorem inB_f {S : MS} {x : Int32} {N : Nat} {hi : Int64} {Q : Int32 → MS → Prop} (hh : hi.toInt = (N : Int)) (hj : ¬ ∃ j : Nat, j ≤ N ∧ x = nI j) (h : Q 0 S) : wX6_in S x.toInt64 0 hi Q := by
  refine in_spec (fun g1 g2 => ?_) (fun _ => h)
  rw [Int32.toInt_toInt64] at g1 g2
  rw [hh] at g2
  exact absurd (i32_nat x (N := N) g1 g2) hj
theorem nb1 : narrow .boolean (.int 1) = .int 1 := rfl
theorem nb0 : narrow .boolean (.int 0) = .int 0 := rfl
theorem rDay_t {S : MS} {j : Nat} {Q : Int32 → MS → Prop} (hj : j ≤ 999) (h : Q 1 S) : wX6_isDay S (nI j) Q := inB_t (N := 999) (by decide) (by omega) hj ⟨nb1, h⟩
theorem rDay_f {S : MS} {x : Int32} {Q : Int32 → MS → Prop} (hj : ¬ ∃ j : Nat, j ≤ 999 ∧ x = nI j) (h : Q 0 S) : wX6_isDay S x Q := inB_f (N := 999) (by decide) hj ⟨nb0, h⟩
theorem nI_sub1 {n : Nat} (h : n < 2 ^ 30) : (nI n - 1).toInt64.toInt = (n : Int) - 1 := by
  rw [Int32.toInt_toInt64]
  exact pk_sub_toInt (a := n) (b := 1) h (by omega)
theorem has_t {S : MS} {p np : Nat} {Q : Int32 → MS → Prop} (hn : S.2.2 1 = nI np) (hnp : np ≤ 12) (hp : p < np) (h : Q 1 S) : wX2_has S (nI p) Q := by
  unfold wX2_has
  rw [hn]
  exact ifF (nI_pos (by omega)) (ifF (nI_ge hp (by omega)) h)
theorem has_f {S : MS} {x : Int32} {np : Nat} {Q : Int32 → MS → Prop} (hn : S.2.2 1 = nI np) (hnp : np ≤ 12) (hp : ¬ ∃ p : Nat, p < np ∧ x = nI p) (h : Q 0 S) : wX2_has S x Q := by
  unfold wX2_has
  rw [hn]
  refine ⟨fun _ => h, fun h1 => ⟨fun _ => h, fun h2 => ?_⟩⟩
  rw [i32_lt] at h1
  rw [i32_le, nI_toInt (by omega)] at h2
  have h1 : ¬ x.toInt < 0 := h1
  obtain ⟨j, g1, g2⟩ := i32_nat x (N := np) (by omega) (by omega)
  rw [g2, nI_toInt (by omega)] at h2
  exact absurd ⟨j, by omega, g2⟩ hp
theorem vhas_t {S : MS} {v nv : Nat} {Q : Int32 → MS → Prop} (hn : S.2.2 3 = nI nv) (hnp : nv ≤ 12) (hp : v < nv) (h : Q 1 S) : wX4_has S (nI v) Q := by
  unfold wX4_has
  rw [hn]
  exact ifF (nI_pos (by omega)) (ifF (nI_ge hp (by omega)) h)
theorem vhas_f {S : MS} {x : Int32} {nv : Nat} {Q : Int32 → MS → Prop} (hn : S.2.2 3 = nI nv) (hnp : nv ≤ 12) (hp : ¬ ∃ p : Nat, p < nv ∧ x = nI p) (h : Q 0 S) : wX4_has S x Q := by
  unfold wX4_has
  rw [hn]
  refine ⟨fun _ => h, fun h1 => ⟨fun _ => h, fun h2 => ?_⟩⟩
  rw [i32_lt] at h1
  rw [i32_le, nI_toInt (by omega)] at h2
  have h1 : ¬ x.toInt < 0 := h1
  obtain ⟨j, g1, g2⟩ := i32_nat x (N := nv) (by omega) (by omega)
  rw [g2, nI_toInt (by omega)] at h2
  exact absurd ⟨j, by omega, g2⟩ hp
theorem in1_t {S : MS} {j n : Nat} {Q : Int32 → MS → Prop} {x : Int32} (hx : x = nI n) (hn : n ≤ 12) (hj : j < n) (h : Q 1 S) : wX6_in S (nI j).toInt64 0 ((x - 1).toInt64) Q := by
  subst hx
  exact in_spec (fun _ _ => h) (fun g => absurd (by rw [nI_64 (by omega), nI_sub1 (by omega)]; exact ⟨by simp, by omega⟩) g)
theorem in1_f {S : MS} {x y : Int32} {n : Nat} {Q : Int32 → MS → Prop} (hx : x = nI n) (hn : n ≤ 12) (hj : ¬ ∃ j : Nat, j < n ∧ y = nI j) (h : Q 0 S) : wX6_in S y.toInt64 0 ((x - 1).toInt64) Q := by
  subst hx
  refine in_spec (fun g1 g2 => ?_) (fun _ => h)
  rw [Int32.toInt_toInt64] at g1 g2
  rw [← Int32.toInt_toInt64, nI_sub1 (by omega)] at g2
  rw [Int32.toInt_toInt64] at g2
  obtain ⟨j, h1, h2⟩ := i32_nat y (N := n) g1 (by omega)
  rw [h2, nI_toInt (by omega)] at g2
  exact absurd ⟨j, by omega, h2⟩ hj
theorem rPart_t {S : MS} {p np : Nat} {Q : Int32 → MS → Prop} (hn : S.2.2 0 = nI np) (hnp : np ≤ 12) (hp : p < np) (h : Q 1 S) : wX6_isPart S (nI p) Q := in1_t hn hnp hp ⟨nb1, h⟩
theorem rPart_f {S : MS} {x : Int32} {np : Nat} {Q : Int32 → MS → Prop} (hn : S.2.2 0 = nI np) (hnp : np ≤ 12) (hp : ¬ ∃ p : Nat, p < np ∧ x = nI p) (h : Q 0 S) : wX6_isPart S x Q := in1_f hn hnp hp ⟨nb0, h⟩
theorem rVote_t {S : MS} {p np : Nat} {Q : Int32 → MS → Prop} (hn : S.2.2 3 = nI np) (hnp : np ≤ 12) (hp : p < np) (h : Q 1 S) : wX6_isVote S (nI p) Q := in1_t hn hnp hp ⟨nb1, h⟩
theorem rVote_f {S : MS} {x : Int32} {np : Nat} {Q : Int32 → MS → Prop} (hn : S.2.2 3 = nI np) (hnp : np ≤ 12) (hp : ¬ ∃ p : Nat, p < np ∧ x = nI p) (h : Q 0 S) : wX6_isVote S x Q := in1_f hn hnp hp ⟨nb0, h⟩
/-- two days, the first not behind the second -/
theorem areDays_t {S : MS} {x y : Nat} {Q : Int32 → MS → Prop} (hy : y ≤ 999) (hxy : x ≤ y) (h : Q 1 S) : wX5_areDays S (nI x) (nI y) Q := by
  unfold wX5_areDays
  refine isDay_t (by omega) (br1 (isDay_t hy (br1 (ifF (nI_nlt hxy (by omega)) h))))
theorem areDays_f {S : MS} {x y : Int32} {Q : Int32 → MS → Prop} (hn : ¬ ∃ i j : Nat, i ≤ j ∧ j ≤ 999 ∧ x = nI i ∧ y = nI j) (h : Q 0 S) : wX5_areDays S x y Q := by
  unfold wX5_areDays
  by_cases hx : ∃ i : Nat, i ≤ 999 ∧ x = nI i
  · obtain ⟨i, hi, rfl⟩ := hx
    refine isDay_t hi (br1 ?_)
    by_cases hy : ∃ i : Nat, i ≤ 999 ∧ y = nI i
    · obtain ⟨j, hj, rfl⟩ := hy
      refine isDay_t hj (br1 ⟨fun _ => h, fun g => ?_⟩)
      rw [nI_ltI (by omega) (by omega)] at g
      exact absurd ⟨i, j, by omega, hj, rfl, rfl⟩ hn
    · exact isDay_f hy (br0 h)
  · exact isDay_f hx (br0 h)
theorem rDays_t {S : MS} {x y : Nat} {Q : Int32 → MS → Prop} (hy : y ≤ 999) (hxy : x ≤ y) (h : Q 1 S) : wX6_areDays S (nI x) (nI y) Q := by
  unfold wX6_areDays
  refine rDay_t (by omega) (br1 (rDay_t hy (br1 (ifF (nI_nlt hxy (by omega)) h))))
theorem rDays_f {S : MS} {x y : Int32} {Q : Int32 → MS → Prop} (hn : ¬ ∃ i j : Nat, i ≤ j ∧ j ≤ 999 ∧ x = nI i ∧ y = nI j) (h : Q 0 S) : wX6_areDays S x y Q := by
  unfold wX6_areDays
  by_cases hx : ∃ i : Nat, i ≤ 999 ∧ x = nI i
  · obtain ⟨i, hi, rfl⟩ := hx
    refine rDay_t hi (br1 ?_)
    by_cases hy : ∃ i : Nat, i ≤ 999 ∧ y = nI i
    · obtain ⟨j, hj, rfl⟩ := hy
      refine rDay_t hj (br1 ⟨fun _ => h, fun g => ?_⟩)
      rw [nI_ltI (by omega) (by omega)] at g
      exact absurd ⟨i, j, by omega, hj, rfl, rfl⟩ hn
    · exact rDay_f hy (br0 h)
  · exact rDay_f hx (br0 h)
