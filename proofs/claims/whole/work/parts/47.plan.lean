/-! PURE SIDE: plan -/
theorem rInt_t {S : MS} {j : Nat} {Q : Int32 → MS → Prop} (h1 : 1 ≤ j) (hj : j ≤ 100) (h : Q 1 S) : wX6_in S (nI j).toInt64 1 100 Q := by
  have e := nI_64 (j := j) (by omega)
  refine in_spec (fun _ _ => h) (fun g => absurd ⟨?_, ?_⟩ g)
  · rw [e, show (1 : Int64).toInt = 1 by decide]; omega
  · rw [e, show (100 : Int64).toInt = 100 by decide]; omega
theorem rInt_f {S : MS} {x : Int32} {Q : Int32 → MS → Prop} (hj : ¬ ∃ j : Nat, (1 ≤ j ∧ j ≤ 100) ∧ x = nI j) (h : Q 0 S) : wX6_in S x.toInt64 1 100 Q := by
  refine in_spec (fun g1 g2 => absurd ?_ hj) (fun _ => h)
  rw [Int32.toInt_toInt64] at g1 g2
  rw [show (1 : Int64).toInt = 1 by decide] at g1
  rw [show (100 : Int64).toInt = 100 by decide] at g2
  obtain ⟨j, hj2, rfl⟩ := i32_nat x (N := 100) (by omega) (by omega)
  rw [nI_toInt (by omega)] at g1
  exact ⟨j, ⟨by omega, hj2⟩, rfl⟩
theorem rLim_t {S : MS} {L : Nat} {Q : Int32 → MS → Prop} (hL : L ≤ 28147497671065600) (h : Q 1 S) : wX6_in S (lN L) 0 28147497671065600 Q := by
  have e := pk_lT (n := L) (by omega)
  refine in_spec (fun _ _ => h) (fun g => absurd ⟨?_, ?_⟩ g)
  · rw [e, show (0 : Int64).toInt = 0 by decide]; omega
  · rw [e, show (28147497671065600 : Int64).toInt = 28147497671065600 by decide]; omega
theorem rLim_f {S : MS} {x : Int64} {Q : Int32 → MS → Prop} (hj : ¬ ∃ L : Nat, L ≤ 28147497671065600 ∧ x = lN L) (h : Q 0 S) : wX6_in S x 0 28147497671065600 Q := by
  refine in_spec (fun g1 g2 => absurd ?_ hj) (fun _ => h)
  rw [show (0 : Int64).toInt = 0 by decide] at g1
  rw [show (28147497671065600 : Int64).toInt = 28147497671065600 by decide] at g2
  refine ⟨x.toInt.toNat, by omega, Int64.toInt_inj.mp ?_⟩
  rw [pk_lT (by omega)]
  omega
theorem cLim_t {L : Nat} {A B : Prop} (hL : L ≤ 28147497671065600) (h : B) : (lg_cmp (lN L) 0 < 0 → A) ∧ (¬ lg_cmp (lN L) 0 < 0 → ((0 : Int32) < lg_cmp (lN L) 28147497671065600 → A) ∧ (¬ (0 : Int32) < lg_cmp (lN L) 28147497671065600 → B)) := by
  have e := pk_lT (n := L) (by omega)
  rw [lg_lt, lg_gt, e, show (0 : Int64).toInt = 0 by decide, show (28147497671065600 : Int64).toInt = 28147497671065600 by decide]
  exact ifF (by omega) (ifF (by omega) h)
theorem cLim_f {x : Int64} {A B : Prop} (hj : ¬ ∃ L : Nat, L ≤ 28147497671065600 ∧ x = lN L) (h : A) : (lg_cmp x 0 < 0 → A) ∧ (¬ lg_cmp x 0 < 0 → ((0 : Int32) < lg_cmp x 28147497671065600 → A) ∧ (¬ (0 : Int32) < lg_cmp x 28147497671065600 → B)) := by
  refine ⟨fun _ => h, fun g1 => ⟨fun _ => h, fun g2 => absurd ?_ hj⟩⟩
  rw [lg_lt, show (0 : Int64).toInt = 0 by decide] at g1
  rw [lg_gt, show (28147497671065600 : Int64).toInt = 28147497671065600 by decide] at g2
  refine ⟨x.toInt.toNat, by omega, Int64.toInt_inj.mp ?_⟩
  rw [pk_lT (by omega)]
  omega
theorem rSel_t {S : MS} {j : Nat} {Q : Int32 → MS → Prop} (hj : j ≤ 1) (h : Q 1 S) : wX6_in S (nI j).toInt64 0 1 Q := inB_t (N := 1) (by decide) (by omega) hj h
theorem rSel_f {S : MS} {x : Int32} {Q : Int32 → MS → Prop} (hj : ¬ ∃ j : Nat, j ≤ 1 ∧ x = nI j) (h : Q 0 S) : wX6_in S x.toInt64 0 1 Q := inB_f (N := 1) (by decide) hj h
theorem cSel_t {j : Nat} {A B : Prop} (hj : j ≤ 1) (h : B) : (nI j < 0 → A) ∧ (¬ nI j < 0 → (nI j ≤ 1 → B) ∧ (¬ nI j ≤ 1 → A)) := by
  refine ifF (nlt0 (by omega)) ?_
  rw [show (1 : Int32) = nI 1 from rfl, nI_leI (by omega) (by omega)]
  exact ifT hj h
theorem cSel_f {x : Int32} {A B : Prop} (hj : ¬ ∃ j : Nat, j ≤ 1 ∧ x = nI j) (h : A) : (x < 0 → A) ∧ (¬ x < 0 → (x ≤ 1 → B) ∧ (¬ x ≤ 1 → A)) := by
  have := i32_not (by omega) hj
  refine ⟨fun _ => h, fun g1 => ⟨fun g2 => ?_, fun _ => h⟩⟩
  rw [i32_lt, show (0 : Int32).toInt = 0 by decide] at g1
  rw [i32_le, show (1 : Int32).toInt = 1 by decide] at g2
  omega
def ivN (i1 i2 i3 : Nat) : Nat → Nat := fun j => if j = 0 then i1 else if j = 1 then i2 else i3
theorem ivN_ok {i1 i2 i3 : Nat} (h1 : 1 ≤ i1 ∧ i1 ≤ 100) (h2 : 1 ≤ i2 ∧ i2 ≤ 100) (h3 : 1 ≤ i3 ∧ i3 ≤ 100) : IV (ivN i1 i2 i3) := by
  intro j hj
  unfold ivN
  split
  · exact h1
  · split
    · exact h2
    · exact h3
theorem put3 (S : MS) (k : Nat) (i1 i2 i3 : Nat) : ∀ j, j < 3 → (uI (uI (uI S k 0 (nI i1)) k 1 (nI i2)) k 2 (nI i3)).1 k j = nI (ivN i1 i2 i3 j) := by
  intro j hj
  unfold ivN
  rcases show j = 0 ∨ j = 1 ∨ j = 2 by omega with e | e | e
  · rw [e, uI_nei (by omega), uI_nei (by omega), uI_at, if_pos rfl]
  · rw [e, uI_nei (by omega), uI_at, if_neg (by omega), if_pos rfl]
  · rw [e, uI_at, if_neg (by omega), if_neg (by omega)]
theorem put3_eqx (S : MS) (k : Nat) (i1 i2 i3 : Nat) : eqx k S (uI (uI (uI S k 0 (nI i1)) k 1 (nI i2)) k 2 (nI i3)) := (((eqx.rf k S).put _ _).put _ _).put _ _
theorem v03 : vp_in 0 3 := show vp_in (nI 0) 3 from vp_in_nI (by omega) (by omega)
theorem v13 : vp_in 1 3 := show vp_in (nI 1) 3 from vp_in_nI (by omega) (by omega)
theorem v23 : vp_in 2 3 := show vp_in (nI 2) 3 from vp_in_nI (by omega) (by omega)
theorem op_plan : OK_plan Inv := by
  intro S M x1 x2 x3 x4 x5 x7 hI
  obtain ⟨a, ok, hc, hm⟩ := id hI
  have hnv := ok.hnv
  unfold wX5_plan
  rcases (Classical.em (∃ p : Nat, p < a.1 3 ∧ x1 = nI p)).symm with h1 | ⟨v, hv, rfl⟩
  · exact vhas_f hc.hnv hnv h1 (br0 (by unfold wX6_plan; exact rVote_f hm.hnv hnv h1 (br0 ⟨rfl, hI⟩)))
  refine vhas_t hc.hnv hnv hv (br1 ?_)
  rcases (Classical.em (∃ j : Nat, (1 ≤ j ∧ j ≤ 100) ∧ x2 = nI j)).symm with h2 | ⟨i1, hi1, rfl⟩
  · exact isInterval_f h2 (br0 (by unfold wX6_plan; exact rVote_t hm.hnv hnv hv (br1 (rInt_f h2 (br0 ⟨rfl, hI⟩)))))
  refine isInterval_t hi1.1 hi1.2 (br1 ?_)
  rcases (Classical.em (∃ j : Nat, (1 ≤ j ∧ j ≤ 100) ∧ x3 = nI j)).symm with h3 | ⟨i2, hi2, rfl⟩
  · exact isInterval_f h3 (br0 (by unfold wX6_plan; exact rVote_t hm.hnv hnv hv (br1 (rInt_t hi1.1 hi1.2 (br1 (rInt_f h3 (br0 ⟨rfl, hI⟩)))))))
  refine isInterval_t hi2.1 hi2.2 (br1 ?_)
  rcases (Classical.em (∃ j : Nat, (1 ≤ j ∧ j ≤ 100) ∧ x4 = nI j)).symm with h4 | ⟨i3, hi3, rfl⟩
  · exact isInterval_f h4 (br0 (by unfold wX6_plan; exact rVote_t hm.hnv hnv hv (br1 (rInt_t hi1.1 hi1.2 (br1 (rInt_t hi2.1 hi2.2 (br1 (rInt_f h4 (br0 ⟨rfl, hI⟩)))))))))
  refine isInterval_t hi3.1 hi3.2 (br1 ?_)
  rcases (Classical.em (∃ L : Nat, L ≤ 28147497671065600 ∧ x5 = lN L)).symm with h5 | ⟨L, hL, rfl⟩
  · exact cLim_f h5 (by unfold wX6_plan; exact rVote_t hm.hnv hnv hv (br1 (rInt_t hi1.1 hi1.2 (br1 (rInt_t hi2.1 hi2.2 (br1 (rInt_t hi3.1 hi3.2 (br1 (rLim_f h5 (br0 ⟨rfl, hI⟩))))))))))
  refine cLim_t hL ?_
  rcases (Classical.em (∃ j : Nat, j ≤ 1 ∧ x7 = nI j)).symm with h7 | ⟨j7, hj7, rfl⟩
  · exact cSel_f h7 (by unfold wX6_plan; exact rVote_t hm.hnv hnv hv (br1 (rInt_t hi1.1 hi1.2 (br1 (rInt_t hi2.1 hi2.2 (br1 (rInt_t hi3.1 hi3.2 (br1 (rLim_t hL (br1 (rSel_f h7 (br0 ⟨rfl, hI⟩))))))))))))
  refine cSel_t hj7 ?_
  have hb4 := bel_4096 ok hv
  have hel := evs_le ok v
  have hl1 := mems_pos ok hv
  have hct := fb_ct_le (bel a v).testBit 12
  rw [← mems_len] at hct
  have hR : ∀ {r : Int32} {S1 : MS}, aC S1 a → (¬ (mems (bel a v)).length ≤ 3 → r = -2) → ((mems (bel a v)).length ≤ 3 → ¬ evs a v ≤ 8 → r = -2) → ((mems (bel a v)).length ≤ 3 → evs a v ≤ 8 → r = resP a v (ivN i1 i2 i3) L (nI j7)) → wX6_plan M (nI v) (nI i1) (nI i2) (nI i3) (lN L) (nI j7) (fun r1 M1 => r = r1 ∧ Inv S1 M1) := by
    intro r S1 hc1 g1 g2 g3
    unfold wX6_plan
    refine rVote_t hm.hnv hnv hv (br1 (rInt_t hi1.1 hi1.2 (br1 (rInt_t hi2.1 hi2.2 (br1 (rInt_t hi3.1 hi3.2 (br1 (rLim_t hL (br1 (rSel_t hj7 (br1 (partsOf_spec ok hm hv (fun M1 he1 => rbits_spec (by omega) ?_)))))))))))))
    have hm1 := hm.eqx (by omega) he1
    rw [← mems_len]
    have e3 : (3 : Int32) < nI (mems (bel a v)).length ↔ 3 < (mems (bel a v)).length := by rw [show (3 : Int32) = nI 3 from rfl, nI_ltI (by omega) (by omega)]
    rw [e3]
    refine ⟨fun h3 => ⟨g1 (by omega), a, ok, hc1, hm1⟩, fun h3 => reventsOf_spec ok hm1 hv (fun M2 he2 => ?_)⟩
    have hm2 := hm1.eqx (by omega) he2
    rw [le8 (by omega)]
    refine ⟨fun h8 => ⟨v03, ?_⟩, fun h8 => ⟨g2 (by omega) h8, a, ok, hc1, hm2⟩⟩
    rintro _ rfl
    refine ⟨v13, ?_⟩
    rintro _ rfl
    refine ⟨v23, ?_⟩
    rintro _ rfl
    rw [show (0 : Int32).toNatClampNeg = 0 by decide, show (1 : Int32).toNatClampNeg = 1 by decide, show (2 : Int32).toNatClampNeg = 2 by decide]
    have hgo : JX6_plan_155 (uI (uI (uI M2 19 0 (nI i1)) 19 1 (nI i2)) 19 2 (nI i3)) (nI v) (lN L) (nI j7) (nI (bel a v)) (nI (mems (bel a v)).length) (-4) (-1) (nI (3 ^ (mems (bel a v)).length)) (fun r1 M1 => r = r1 ∧ Inv S1 M1) :=
      plan_r ok (hm2.eqx (by omega) (put3_eqx M2 19 i1 i2 i3)) hv h8 (by omega) hL (ivN_ok hi1 hi2 hi3) (put3 M2 19 i1 i2 i3) (fun M3 hm3 => ⟨g3 (by omega) h8, a, ok, hc1, hm3⟩)
    rw [show (1 : Int32) = nI 1 from rfl, nI_eq (by omega) (by omega), show (2 : Int32) = nI 2 from rfl, nI_eq (by omega) (by omega)]
    rcases show (mems (bel a v)).length = 1 ∨ (mems (bel a v)).length = 2 ∨ (mems (bel a v)).length = 3 by omega with e | e | e
    · rw [e] at hgo ⊢
      exact ifT rfl hgo
    · rw [e] at hgo ⊢
      exact ifF (by omega) (ifT rfl hgo)
    · rw [e] at hgo ⊢
      exact ifF (by omega) (ifF (by omega) hgo)
  refine sizeBelow_spec ok hc hv ?_
  have e3 : (3 : Int32) < nI (mems (bel a v)).length ↔ 3 < (mems (bel a v)).length := by rw [show (3 : Int32) = nI 3 from rfl, nI_ltI (by omega) (by omega)]
  rw [e3]
  refine ⟨fun h3 => hR hc (fun _ => rfl) (fun g => by omega) (fun g => by omega), fun h3 => tooMany ok hc hv (fun h8 => br0 ?_) (fun h8 => br1 (hR hc (fun _ => rfl) (fun _ _ => rfl) (fun _ g => absurd g h8)))⟩
  unfold wX3_setIntervals
  refine ⟨v03, ?_⟩
  rintro _ rfl
  refine ⟨v13, ?_⟩
  rintro _ rfl
  refine ⟨v23, ?_⟩
  rintro _ rfl
  rw [show (0 : Int32).toNatClampNeg = 0 by decide, show (1 : Int32).toNatClampNeg = 1 by decide, show (2 : Int32).toNatClampNeg = 2 by decide]
  have hc2 : aC (uI (uI (uI S 14 0 (nI i1)) 14 1 (nI i2)) 14 2 (nI i3)) a := hc.eqx (by omega) (put3_eqx S 14 i1 i2 i3)
  refine findCheapest_spec ok hc2 hv h8 (by omega) hL (ivN_ok hi1 hi2 hi3) (put3 S 14 i1 i2 i3) (fun S3 x hs3 hP => ?_)
  have hc3 := hc2.sc hs3
  unfold wX3_cheapestCost wX3_cheapestChoices
  cases e : bp a v (ivN i1 i2 i3) L (3 ^ (mems (bel a v)).length) with
  | none =>
    rw [hP.1 e]
    exact br0 (hR hc3 (fun g => by omega) (fun _ g => absurd h8 g) (fun _ _ => (resP_n e).symm))
  | some s =>
    have hx := hP.2 s e
    rw [hx.1]
    refine br1 ⟨fun g => ?_, fun g => ?_⟩
    · rw [hx.2.1]
      exact hR hc3 (fun g => by omega) (fun _ g => absurd h8 g) (fun _ _ => by rw [resP_s e, if_pos g])
    · rw [hx.2.2]
      exact hR hc3 (fun g => by omega) (fun _ g => absurd h8 g) (fun _ _ => by rw [resP_s e, if_neg g])
