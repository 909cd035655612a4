/-! PURE SIDE: vote -/
def vin (a : AS) (x : Int32) : Prop := ∃ q : Nat, x = nI q ∧ (q < a.1 0 ∨ (12 ≤ q ∧ q < 12 + a.1 3))
theorem vin_nat {a : AS} (ok : OKa a) {q : Nat} (hq : q < 2 ^ 31) (h : vin a (nI q)) : q < a.1 0 ∨ (12 ≤ q ∧ q < 12 + a.1 3) := by
  obtain ⟨q', e, h⟩ := h
  have := ok.hnp
  have := ok.hnv
  rw [nI_eq hq (by omega)] at e
  omega
theorem cIn {S : MS} {a : AS} (ok : OKa a) (hc : aC S a) {x : Int32} {Q : Int32 → MS → Prop} (h1 : vin a x → Q 1 S) (h0 : ¬ vin a x → Q 0 S) : wX5_isInput S x Q := by
  have hnp := ok.hnp
  have hnv := ok.hnv
  unfold wX5_isInput
  refine ⟨fun g => ?_, fun g => ?_⟩
  · rw [i32_le] at g
    have g : (12 : Int) ≤ x.toInt := g
    have hx := Int32.toInt_lt x
    obtain ⟨q, hq, rfl⟩ := i32_nat x (N := 2 ^ 31 - 1) (by omega) (by omega)
    rw [nI_toInt (by omega)] at g
    rw [nI12 (by omega)]
    by_cases hv : q - 12 < a.1 3
    · exact vhas_t hc.hnv hnv hv ⟨nb1, h1 ⟨q, rfl, by omega⟩⟩
    · refine vhas_f hc.hnv hnv (fun ⟨p, hp, e⟩ => hv ?_) ⟨nb0, h0 (fun hh => ?_)⟩
      · rw [nI_eq (by omega) (by omega)] at e; omega
      · have := vin_nat ok (by omega) hh; omega
  · rw [i32_le] at g
    have g : ¬ (12 : Int) ≤ x.toInt := g
    by_cases hp : ∃ p : Nat, p < a.1 0 ∧ x = nI p
    · obtain ⟨p, hp, rfl⟩ := hp
      exact has_t hc.hnp hnp hp ⟨nb1, h1 ⟨p, rfl, by omega⟩⟩
    · refine has_f hc.hnp hnp hp ⟨nb0, h0 (fun hh => ?_)⟩
      obtain ⟨q, rfl, hq⟩ := hh
      rw [nI_toInt (by omega)] at g
      exact hp ⟨q, by omega, rfl⟩
theorem rIn {M : MS} {a : AS} {ev : Nat → Nat} {fo : Nat → Int32} (ok : OKa a) (hm : aM M a ev fo) {x : Int32} {Q : Int32 → MS → Prop} (h1 : vin a x → Q 1 M) (h0 : ¬ vin a x → Q 0 M) : wX6_isInput M x Q := by
  have hnp := ok.hnp
  have hnv := ok.hnv
  unfold wX6_isInput JX6_isInput_27
  by_cases hp : ∃ p : Nat, p < a.1 0 ∧ x = nI p
  · obtain ⟨p, hp, rfl⟩ := hp
    exact rPart_t hm.hnp hnp hp (br1 (h1 ⟨p, rfl, by omega⟩))
  · refine rPart_f hm.hnp hnp hp (br0 ?_)
    rw [hm.hnv, show (11 : Int32) + nI (a.1 3) = nI (11 + a.1 3) from nI_add 11 _]
    refine in_spec (fun g1 g2 => br1 (h1 ?_)) (fun g => br0 (h0 (fun hh => g ?_)))
    · rw [Int32.toInt_toInt64] at g1 g2
      rw [← Int32.toInt_toInt64, nI_64 (by omega)] at g2
      rw [Int32.toInt_toInt64] at g2
      have g1 : (12 : Int) ≤ x.toInt := g1
      obtain ⟨q, hq, rfl⟩ := i32_nat x (N := 11 + a.1 3) (by omega) g2
      rw [nI_toInt (by omega)] at g1
      exact ⟨q, rfl, by omega⟩
    · obtain ⟨q, rfl, hq⟩ := hh
      have : ¬ q < a.1 0 := fun g => hp ⟨q, g, rfl⟩
      rw [nI_64 (by omega), nI_64 (by omega)]
      show (12 : Int) ≤ _ ∧ _
      omega
def vld (a : AS) (x1 x2 x3 x4 x5 x6 : Int32) : Prop := ∃ n k : Nat, x2 = nI n ∧ x1 = nI k ∧ 1 ≤ k ∧ k ≤ n ∧ n ≤ 4 ∧ vin a x3 ∧ (2 ≤ n → vin a x4) ∧ (3 ≤ n → vin a x5) ∧ (4 ≤ n → vin a x6)
theorem vld_n {a : AS} {x1 x2 x3 x4 x5 x6 : Int32} {n : Nat} (hn : n ≤ 4) (e : x2 = nI n) (h : vld a x1 x2 x3 x4 x5 x6) : ∃ k : Nat, x1 = nI k ∧ 1 ≤ k ∧ k ≤ n ∧ vin a x3 ∧ (2 ≤ n → vin a x4) ∧ (3 ≤ n → vin a x5) ∧ (4 ≤ n → vin a x6) := by
  obtain ⟨n', k, e2, h1, h2, h3, h4, h5⟩ := h
  rw [e, nI_eq (by omega) (by omega)] at e2
  subst e2
  exact ⟨k, h1, h2, h3, h5⟩
theorem rvote {M : MS} {a : AS} {ev : Nat → Nat} {fo : Nat → Int32} (ok : OKa a) (hm : aM M a ev fo) {x1 x2 x3 x4 x5 x6 : Int32} {Q : Int32 → MS → Prop} (hT : vld a x1 x2 x3 x4 x5 x6 → JX6_vote_78 M x1 x2 x3 x4 x5 x6 1 Q) (hF : ¬ vld a x1 x2 x3 x4 x5 x6 → Q (-1) M) : wX6_vote M x1 x2 x3 x4 x5 x6 Q := by
  have h77 : ¬ vld a x1 x2 x3 x4 x5 x6 → JX6_vote_77 M x1 x2 x3 x4 x5 x6 Q := fun h => br0 (hF h)
  unfold wX6_vote
  refine in_spec (fun g1 g2 => br1 ?_) (fun g => br0 (h77 (fun hv => g ?_)))
  · rw [Int32.toInt_toInt64] at g1 g2
    have g1 : (1 : Int) ≤ x2.toInt := g1
    have g2 : x2.toInt ≤ 4 := g2
    obtain ⟨n, hn, e⟩ := i32_nat x2 (N := 4) (by omega) g2
    rw [e, nI_toInt (by omega)] at g1
    have hlt : ∀ c : Nat, c < 5 → (x2 < nI c ↔ n < c) := fun c hc => by rw [e, nI_ltI (by omega) (by omega)]
    refine in_spec (fun k1 k2 => br1 ?_) (fun g => br0 (h77 (fun hv => g ?_)))
    · rw [Int32.toInt_toInt64] at k1
      rw [Int32.toInt_toInt64, Int32.toInt_toInt64, e, nI_toInt (by omega)] at k2
      have k1 : (1 : Int) ≤ x1.toInt := k1
      obtain ⟨k, hk, ek⟩ := i32_nat x1 (N := n) (by omega) k2
      rw [ek, nI_toInt (by omega)] at k1
      refine rIn ok hm (fun v3 => br1 ?_) (fun v3 => br0 (h77 (fun hv => v3 (vld_n hn e hv).choose_spec.2.2.2.1)))
      have h59 : (3 ≤ n → vin a x5) → (2 ≤ n → vin a x4) → JX6_vote_59 M x1 x2 x3 x4 x5 x6 Q := by
        intro v5 v4
        unfold JX6_vote_59
        rw [show (4 : Int32) = nI 4 from rfl, hlt 4 (by omega)]
        refine ⟨fun g => hT ⟨n, k, e, ek, by omega, hk, hn, v3, v4, v5, fun h => by omega⟩, fun g => rIn ok hm (fun v6 => br1 (hT ⟨n, k, e, ek, by omega, hk, hn, v3, v4, v5, fun _ => v6⟩)) (fun v6 => br0 (h77 (fun hv => v6 ((vld_n hn e hv).choose_spec.2.2.2.2.2.2 (by omega)))))⟩
      have h45 : (2 ≤ n → vin a x4) → JX6_vote_45 M x1 x2 x3 x4 x5 x6 Q := by
        intro v4
        unfold JX6_vote_45
        rw [show (3 : Int32) = nI 3 from rfl, hlt 3 (by omega)]
        refine ⟨fun g => h59 (fun h => by omega) v4, fun g => rIn ok hm (fun v5 => br1 (h59 (fun _ => v5) v4)) (fun v5 => br0 (h77 (fun hv => v5 ((vld_n hn e hv).choose_spec.2.2.2.2.2.1 (by omega)))))⟩
      rw [show (2 : Int32) = nI 2 from rfl, hlt 2 (by omega)]
      refine ⟨fun g => h45 (fun h => by omega), fun g => rIn ok hm (fun v4 => br1 (h45 (fun _ => v4))) (fun v4 => br0 (h77 (fun hv => v4 ((vld_n hn e hv).choose_spec.2.2.2.2.1 (by omega)))))⟩
    · obtain ⟨k, ek, hk1, hk2, -⟩ := vld_n hn e hv
      rw [ek, e, nI_64 (by omega), nI_64 (by omega)]
      show (1 : Int) ≤ _ ∧ _
      omega
  · obtain ⟨n, k, e, ek, hk1, hk2, hn, -⟩ := hv
    rw [e, nI_64 (by omega)]
    show (1 : Int) ≤ _ ∧ _ ≤ (4 : Int)
    omega
theorem aC.same {S S' : MS} {a : AS} (h : aC S a) (h1 : ∀ r, r ≤ 11 → S'.1 r = S.1 r) (h2 : ∀ r, r ≤ 1 → S'.2.1 r = S.2.1 r) (h3 : ∀ k, k < 4 → S'.2.2 k = S.2.2 k) : aC S' a := by
  refine ⟨by rw [h3 1 (by omega)]; exact h.hnp, by rw [h3 0 (by omega)]; exact h.hnb, by rw [h3 2 (by omega)]; exact h.hng, by rw [h3 3 (by omega)]; exact h.hnv, ?_, by rw [h1 4 (by omega)]; exact h.htn, by rw [h1 5 (by omega)]; exact h.hday, by rw [h1 6 (by omega)]; exact h.hgc, by rw [h1 7 (by omega)]; exact h.hgp, by rw [h1 8 (by omega)]; exact h.hvk, by rw [h1 9 (by omega)]; exact h.hvn, by rw [h1 10 (by omega)]; exact h.hvi, by rw [h1 11 (by omega)]; exact h.hbel, by rw [h1 11 (by omega)]; exact h.hbel0, by rw [h2 0 (by omega)]; exact h.hbyp, by rw [h2 1 (by omega)]; exact h.hact, by rw [h2 1 (by omega)]; exact h.hact0⟩
  rw [h1 0 (by omega), h1 1 (by omega), h1 2 (by omega), h1 3 (by omega)]; exact h.hsh
theorem aC.eqx {S S' : MS} {a : AS} (h : aC S a) {k : Nat} (hk : 12 ≤ k) (he : eqx k S S') : aC S' a := h.same (fun r hr => he.1 r (by omega)) (fun _ _ => by rw [he.2]) (fun _ _ => by rw [he.2])
/-- the component's checks of a vote -/
theorem cvote {S : MS} {a : AS} (ok : OKa a) (hc : aC S a) {x1 x2 x3 x4 x5 x6 : Int32} {Q : Int32 → MS → Prop}
    (hT : vld a x1 x2 x3 x4 x5 x6 → ∀ S', eqx 16 S S' → S'.1 16 0 = x3 → S'.1 16 1 = x4 → S'.1 16 2 = x5 → S'.1 16 3 = x6 → wX4_add S' x1 x2 Q) (hF : ¬ vld a x1 x2 x3 x4 x5 x6 → ∀ S', eqx 16 S S' → Q (-1) S') : wX5_vote S x1 x2 x3 x4 x5 x6 Q := by
  unfold wX5_vote
  simp only [i32_lt, i32_le (x := x1)]
  refine ⟨fun g => hF (fun hv => ?_) S (eqx.rf _ _), fun g => ⟨fun g2 => hF (fun hv => ?_) S (eqx.rf _ _), fun g2 => ⟨fun g3 => hF (fun hv => ?_) S (eqx.rf _ _), fun g3 => ⟨fun g4 => ?_, fun g4 => hF (fun hv => ?_) S (eqx.rf _ _)⟩⟩⟩⟩
  · obtain ⟨n, k, e, ek, hk1, hk2, hn, -⟩ := hv
    rw [e, nI_toInt (by omega)] at g
    have g : (n : Int) < 1 := g
    omega
  · obtain ⟨n, k, e, ek, hk1, hk2, hn, -⟩ := hv
    rw [e, nI_toInt (by omega)] at g2
    have g2 : (4 : Int) < n := g2
    omega
  · obtain ⟨n, k, e, ek, hk1, hk2, hn, -⟩ := hv
    rw [ek, nI_toInt (by omega)] at g3
    have g3 : (k : Int) < 1 := g3
    omega
  · have g : ¬ x2.toInt < 1 := g
    have g2 : ¬ (4 : Int) < x2.toInt := g2
    have g3 : ¬ x1.toInt < 1 := g3
    obtain ⟨n, hn, rfl⟩ := i32_nat x2 (N := 4) (by omega) (by omega)
    rw [nI_toInt (by omega)] at g g4
    obtain ⟨k, hk, rfl⟩ := i32_nat x1 (N := n) (by omega) g4
    rw [nI_toInt (by omega)] at g3
    refine ⟨vp_in_nI (n := 0) (by omega) (by omega), ?_⟩
    rintro _ rfl
    refine ⟨vp_in_nI (n := 1) (by omega) (by omega), ?_⟩
    rintro _ rfl
    refine ⟨vp_in_nI (n := 2) (by omega) (by omega), ?_⟩
    rintro _ rfl
    refine ⟨vp_in_nI (n := 3) (by omega) (by omega), ?_⟩
    rintro S' hS'
    have he : eqx 16 S S' := by rw [hS']; exact ((((eqx.rf _ _).put _ _).put _ _).put _ _).put _ _
    have t0 : (0 : Int32).toNatClampNeg = 0 := by decide
    have t1 : (1 : Int32).toNatClampNeg = 1 := by decide
    have t2 : (2 : Int32).toNatClampNeg = 2 := by decide
    have t3 : (3 : Int32).toNatClampNeg = 3 := by decide
    have a0 : S'.1 16 0 = x3 := by rw [hS', t0, t1, t2, t3]; simp [uI1, upd]
    have a1 : S'.1 16 1 = x4 := by rw [hS', t0, t1, t2, t3]; simp [uI1, upd]
    have a2 : S'.1 16 2 = x5 := by rw [hS', t0, t1, t2, t3]; simp [uI1, upd]
    have a3 : S'.1 16 3 = x6 := by rw [hS', t0, t1, t2, t3]; simp [uI1, upd]
    have hc' := hc.eqx (by omega) he
    have hvl : vld a (nI k) (nI n) x3 x4 x5 x6 ↔ ∀ i, i < n → vin a (S'.1 16 i) := by
      constructor
      · intro hv i hi
        obtain ⟨k', -, -, -, h0, h1, h2, h3⟩ := vld_n hn rfl hv
        rcases (show i = 0 ∨ i = 1 ∨ i = 2 ∨ i = 3 by omega) with rfl | rfl | rfl | rfl
        · rw [a0]; exact h0
        · rw [a1]; exact h1 (by omega)
        · rw [a2]; exact h2 (by omega)
        · rw [a3]; exact h3 (by omega)
      · intro h
        refine ⟨n, k, rfl, rfl, by omega, hk, hn, a0 ▸ h 0 (by omega), fun g => a1 ▸ h 1 (by omega), fun g => a2 ▸ h 2 (by omega), fun g => a3 ▸ h 3 (by omega)⟩
    have key : ∀ (r i : Nat), i + r = n → (∀ j, j < i → vin a (S'.1 16 j)) → LX5_vote_56 (nI k) (nI n) (fun S_5 => wX4_add S_5 (nI k) (nI n) fun r_7 S_6 => Q r_7 S_6) Q (r + 1) S' (nI i) := by
      intro r
      induction r with
      | zero =>
        intro i hi hv
        rw [LX5_vote_56, nI_leI (by omega) (by omega)]
        exact ifT (by omega) (hT (hvl.mpr (by rw [show n = i by omega]; exact hv)) S' he a0 a1 a2 a3)
      | succ r ih =>
        intro i hi hv
        rw [LX5_vote_56, nI_leI (by omega) (by omega)]
        refine ifF (by omega) ⟨vp_in_nI (by omega) (by omega), ?_⟩
        rw [nI_clamp (by omega), nI_1]
        refine cIn ok hc' (fun hi2 => br1 (ih (i + 1) (by omega) (fun j hj => ?_))) (fun hi2 => br0 (hF (fun hh => hi2 (hvl.mp hh i (by omega))) S' he))
        by_cases e : j = i
        · rw [e]; exact hi2
        · exact hv j (by omega)
    have := key n 0 (by omega) (fun j hj => by omega)
    exact ⟨_, this⟩
  · obtain ⟨n, k, e, ek, hk1, hk2, hn, -⟩ := hv
    rw [ek, e, nI_toInt (by omega), nI_toInt (by omega)] at g4
    omega
