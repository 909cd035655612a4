/-! PURE SIDE: votes act -/
theorem actT_eq (a : AS) (A : Nat → Bool) {i : Nat} : ∀ {m : Nat}, i < m → actT a A m i = act a i A
  | 0, h => absurd h (Nat.not_lt_zero _)
  | m + 1, h => by
    by_cases e : i = m
    · subst e; rfl
    · unfold actT; rw [if_neg e]; exact actT_eq a A (by omega)
theorem inA_fcong {a : AS} (f g A B : Nat → Bool) (v : Nat) : ∀ j, (∀ i, i < j → (a.2 15 (4 * v + i) < 12 → A (a.2 15 (4 * v + i)) = B (a.2 15 (4 * v + i))) ∧ (12 ≤ a.2 15 (4 * v + i) → f (a.2 15 (4 * v + i) - 12) = g (a.2 15 (4 * v + i) - 12))) → inA a f A v j = inA a g B v j
  | 0, _ => rfl
  | j + 1, h => by
    unfold inA
    rw [inA_fcong f g A B v j (fun i hi => h i (by omega))]
    by_cases e : a.2 15 (4 * v + j) < 12
    · rw [if_pos e, if_pos e, (h j (by omega)).1 e]
    · rw [if_neg e, if_neg e, (h j (by omega)).2 (by omega)]
theorem act_eq {a : AS} (ok : OKa a) {v : Nat} (hv : v < a.1 3) (A : Nat → Bool) : act a v A = decide (a.2 13 v ≤ inA a (fun w => act a w A) A v (a.2 14 v)) := by
  have e : act a v A = decide (a.2 13 v ≤ inA a (actT a A v) A v (a.2 14 v)) := by unfold act actT; rw [if_pos rfl]
  rw [e, inA_fcong (actT a A v) (fun w => act a w A) A A v (a.2 14 v) (fun i hi => ⟨fun _ => rfl, fun g => actT_eq a A (by
    have := ok.hinp v i hv hi
    have := ok.hnp
    omega)⟩)]
theorem inB_bits {a : AS} (f : Nat → Nat) (v : Nat) : ∀ k j, j < k → (a.2 15 (4 * v + j) < 12 → (inB a f v k).testBit (a.2 15 (4 * v + j)) = true) ∧ (12 ≤ a.2 15 (4 * v + j) → ∀ p, (f (a.2 15 (4 * v + j) - 12)).testBit p = true → (inB a f v k).testBit p = true)
  | 0, j, h => absurd h (Nat.not_lt_zero _)
  | k + 1, j, h => by
    unfold inB
    by_cases e : j = k
    · subst e
      refine ⟨fun g => ?_, fun g p hp => ?_⟩
      · rw [if_pos g, Nat.testBit_or, Nat.testBit_two_pow_self, Bool.or_true]
      · rw [if_neg (by omega), Nat.testBit_or, hp, Bool.or_true]
    · have := inB_bits (a := a) f v k j (by omega)
      refine ⟨fun g => ?_, fun g p hp => ?_⟩
      · rw [Nat.testBit_or, this.1 g, Bool.true_or]
      · rw [Nat.testBit_or, this.2 g p hp, Bool.true_or]
theorem bel_bits {a : AS} (ok : OKa a) {v j : Nat} (hv : v < a.1 3) (hj : j < a.2 14 v) : (a.2 15 (4 * v + j) < 12 → (bel a v).testBit (a.2 15 (4 * v + j)) = true) ∧ (12 ≤ a.2 15 (4 * v + j) → ∀ p, (bel a (a.2 15 (4 * v + j) - 12)).testBit p = true → (bel a v).testBit p = true) := by
  rw [bel_eq ok hv]
  exact inB_bits (bel a) v (a.2 14 v) j hj
theorem act_dep {a : AS} (ok : OKa a) {A B : Nat → Bool} : ∀ (v : Nat), v < a.1 3 → (∀ p, (bel a v).testBit p = true → A p = B p) → act a v A = act a v B := by
  intro v
  induction v using Nat.strongRecOn with
  | ind v ih =>
    intro hv h
    rw [act_eq ok hv, act_eq ok hv, inA_fcong (fun w => act a w A) (fun w => act a w B) A B v (a.2 14 v)]
    intro i hi
    have hb := bel_bits ok hv hi
    refine ⟨fun g => h _ (hb.1 g), fun g => ?_⟩
    have := ok.hinp v i hv hi
    have := ok.hnp
    exact ih _ (by omega) (by omega) (fun p hp => h p (hb.2 g p hp))
theorem inA_le (a : AS) (f A : Nat → Bool) (v : Nat) : ∀ j, inA a f A v j ≤ j
  | 0 => Nat.le_refl _
  | j + 1 => by
    have := inA_le a f A v j
    unfold inA
    repeat' split
    all_goals omega
/-- the reference's answer -/
theorem and1_1 (x : Int32) : x &&& 1 = 1 ↔ bt x 0 = true := by
  obtain ⟨n, hn, rfl⟩ := wb_of32 x
  rw [and1I]
  have e : bt (nI n) 0 = decide (n % 2 = 1) := by
    unfold bt
    rw [show (nI n).toBitVec = BitVec.ofNat 32 n from rfl, BitVec.getLsbD_ofNat]
    simp [Nat.testBit_zero]
  rw [e, show (1 : Int32) = nI 1 from rfl, nI_eq (by omega) (by omega)]
  simp
theorem sar_1 (x : Int32) {k : Nat} (hk : k < 32) : (x >>> (nI k &&& 31)) &&& 1 = 1 ↔ bt x k = true := by
  rw [and1_1, b_sshr k hk x (by omega), if_pos (by omega), Nat.add_zero]
theorem does_in {M : MS} {a : AS} {ev : Nat → Nat} {fo : Nat → Int32} (ok : OKa a) (hm : aM M a ev fo) {x1 x2 : Int32} {m : Nat} (hv : m < a.1 3) {M' : MS} (he : eqx 20 M M') (hb : ∀ i, i < m → M'.1 20 i = bI (act a i (bt x2))) {K : MS → Int32 → Prop} {Q : Int32 → MS → Prop}
    (h : K M' (nI (inA a (fun w => act a w (bt x2)) (bt x2) m (a.2 14 m)))) :
    ∀ (r j : Nat), j + r = a.2 14 m → LX6_does_15 x1 x2 (nI m) K Q (r + 1) M' (nI (inA a (fun w => act a w (bt x2)) (bt x2) m j)) (nI (4 * m + j)) := by
  have hnv := ok.hnv
  have hvo := ok.hvot m hv
  intro r
  induction r with
  | zero =>
    intro j hj
    rw [LX6_does_15]
    refine ⟨vp_in_nI (by omega) (by omega), ?_⟩
    rw [nI_clamp (by omega), he.1 14 (by omega), hm.hvn, ix4, nI_leI (by omega) (by omega)]
    refine ifT (by omega) ?_
    rw [show j = a.2 14 m by omega]
    exact h
  | succ r ih =>
    intro j hj
    have hin := ok.hinp m j hv (by omega)
    have hnp := ok.hnp
    have := ih (j + 1) (by omega)
    unfold inA at this
    rw [LX6_does_15]
    refine ⟨vp_in_nI (by omega) (by omega), ?_⟩
    rw [nI_clamp (by omega), he.1 14 (by omega), hm.hvn, ix4, nI_leI (by omega) (by omega)]
    refine ifF (by omega) ⟨vp_in_nI (by omega) (by omega), ?_⟩
    rw [nI_clamp (by omega), he.1 15 (by omega), hm.hvi m j hv (by omega), le12 (by omega)]
    unfold JX6_does_80 JX6_does_94
    rw [nI_1, show 4 * m + j + 1 = 4 * m + (j + 1) by omega]
    have hz : ∀ z : Nat, nI z + 0 = nI (z + 0) := fun z => nI_add z 0
    refine ⟨fun g => ⟨vp_in_nI (by omega) (by omega), ?_⟩, fun g => ⟨vp_in_nI (by omega) (by omega), ?_⟩⟩
    · rw [nI12 g]
      refine ⟨vp_in_nI (by omega) (by omega), ?_⟩
      rw [nI_clamp (by omega), hb _ (by omega)]
      rw [if_neg (show ¬ a.2 15 (4 * m + j) < 12 by omega)] at this
      refine brB (fun g2 => ?_) (fun g2 => ?_)
      · rw [if_pos g2, ← nI_1] at this; exact this
      · rw [if_neg (by rw [g2]; decide)] at this; rw [hz]; exact this
    · rw [sar_1 x2 (by omega)]
      rw [if_pos (show a.2 15 (4 * m + j) < 12 by omega)] at this
      refine ⟨fun g2 => br1 ?_, fun g2 => br0 ?_⟩
      · rw [if_pos g2, ← nI_1] at this; exact this
      · rw [if_neg g2] at this; rw [hz]; exact this
theorem does_spec {M : MS} {a : AS} {ev : Nat → Nat} {fo : Nat → Int32} (ok : OKa a) (hm : aM M a ev fo) {v : Nat} (hv : v < a.1 3) {x2 : Int32} {Q : Int32 → MS → Prop} (h : ∀ M', eqx 20 M M' → Q (bI (act a v (bt x2))) M') : wX6_does M (nI v) x2 Q := by
  have hnv := ok.hnv
  unfold wX6_does
  generalize hK : (fun S_1 : MS => vp_in (nI v) 12 ∧ narrow .boolean (.int (S_1.1 20 (nI v).toNatClampNeg)) = .int (S_1.1 20 (nI v).toNatClampNeg) ∧ Q (S_1.1 20 (nI v).toNatClampNeg) S_1) = K
  have hfin : ∀ M', eqx 20 M M' → M'.1 20 v = bI (act a v (bt x2)) → K M' := by
    intro M' he hb
    rw [← hK]
    refine ⟨vp_in_nI (by omega) (by omega), ?_⟩
    rw [nI_clamp (by omega), hb]
    exact ⟨bI_nar _, h M' he⟩
  have key : ∀ (r m : Nat) (M' : MS), m + r = v + 1 → eqx 20 M M' → (∀ i, i < m → M'.1 20 i = bI (act a i (bt x2))) → LX6_does_2 (nI v) x2 K Q (r + 1) M' (nI m) := by
    intro r
    induction r with
    | zero =>
      intro m M' hm' he hb
      rw [LX6_does_2, nI_ltI (by omega) (by omega)]
      exact ifT (by omega) (hfin M' he (hb v (by omega)))
    | succ r ih =>
      intro m M' hm' he hb
      rw [LX6_does_2, nI_ltI (by omega) (by omega)]
      refine ifF (by omega) ?_
      generalize hK2 : (fun (S_1 : MS) (y_2 : Int32) => vp_in (nI m) 12 ∧ ((y_2 < S_1.1 13 (nI m).toNatClampNeg → JX6_does_124 S_1 (nI v) x2 (nI m) (nI m) 0 (fun S a3 => LX6_does_2 (nI v) x2 K Q (r + 1) S a3) K Q) ∧ (¬ y_2 < S_1.1 13 (nI m).toNatClampNeg → JX6_does_124 S_1 (nI v) x2 (nI m) (nI m) 1 (fun S a3 => LX6_does_2 (nI v) x2 K Q (r + 1) S a3) K Q))) = K2
      have hvo := ok.hvot m (by omega)
      have hK2f : K2 M' (nI (inA a (fun w => act a w (bt x2)) (bt x2) m (a.2 14 m))) := by
        rw [← hK2]
        refine ⟨vp_in_nI (by omega) (by omega), ?_⟩
        have hl := inA_le a (fun w => act a w (bt x2)) (bt x2) m (a.2 14 m)
        rw [nI_clamp (by omega), he.1 13 (by omega), hm.hvk, nI_ltI (by omega) (by omega)]
        have hact := act_eq ok (v := m) (by omega) (bt x2)
        unfold JX6_does_124
        rw [nI_1]
        have hgo : ∀ z : Int32, vp_nar .boolean z = bI (act a m (bt x2)) → vp_in (nI m) 12 ∧ ∀ S_1 : MS, S_1 = uI M' 20 (nI m).toNatClampNeg (vp_nar .boolean z) → LX6_does_2 (nI v) x2 K Q (r + 1) S_1 (nI (m + 1)) := by
          intro z hz
          refine ⟨vp_in_nI (by omega) (by omega), ?_⟩
          rintro _ rfl
          rw [nI_clamp (by omega), hz]
          refine ih (m + 1) _ (by omega) (he.put _ _) (fun i hi => ?_)
          by_cases e : i = m
          · rw [e, uI_at]
          · rw [uI_nei e]; exact hb i (by omega)
        refine ⟨fun g => hgo 0 ?_, fun g => hgo 1 ?_⟩
        · rw [hact, show decide (a.2 13 m ≤ inA a (fun w => act a w (bt x2)) (bt x2) m (a.2 14 m)) = false by rw [decide_eq_false_iff_not]; omega]; decide
        · rw [hact, show decide (a.2 13 m ≤ inA a (fun w => act a w (bt x2)) (bt x2) m (a.2 14 m)) = true by rw [decide_eq_true_iff]; omega]; decide
      have := does_in ok hm (x1 := nI v) (x2 := x2) (m := m) (by omega) he hb (K := K2) (Q := Q) hK2f (a.2 14 m) 0 (by omega)
      rw [show (4 : Int32) * nI m = nI (4 * m + 0) from pk_mul 4 m]
      exact ⟨_, this⟩
  have := key (v + 1) 0 M (by omega) (eqx.rf _ _) (fun i hi => by omega)
  exact ⟨_, this⟩
