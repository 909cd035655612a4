/-! PURE SIDE: bypassed -/
def bdP (a : AS) (p x y d : Nat) : Bool := decide (x ≤ d ∧ d ≤ y) && byp a p d
theorem bypDays_spec {S : MS} {a : AS} (ok : OKa a) (hc : aC S a) {p x y : Nat} {Q : Int32 → MS → Prop} (hp : p < 12) (hy : y ≤ 999) (hxy : x ≤ y) (h : Q (nI (fb_ct (bdP a p x y) 1024)) S) : wX2_bypassedDays S (nI p) (nI x) (nI y) Q := by
  have key : ∀ (r w : Nat), w + r = 16 → LX2_bypassedDays_6 (nI p) (nI x) (nI y) (fun S_1 y_2 => Q y_2 S_1) Q (r + 1) S (nI (fb_ct (bdP a p x y) (64 * w))) (nI w) := by
    intro r
    induction r with
    | zero =>
      intro w hw
      have : w = 16 := by omega
      subst this
      rw [LX2_bypassedDays_6]
      exact ifT (by decide) h
    | succ r ih =>
      intro w hw
      rw [LX2_bypassedDays_6]
      refine ifF (by rw [show (16 : Int32) = nI 16 from rfl, nI_leI (by omega) (by omega)]; omega) ?_
      rw [show nI p * 16 + nI w = nI (16 * p + w) from ixm p w 16]
      refine ⟨vp_in_nI (by omega) (by omega), daysInWord_spec (by omega) hy hxy (fun d hd => bitCount_spec ?_)⟩
      rw [nI_clamp (by omega), nI_add, nI_1]
      have e : fb_ct (bitL (S.2.1 0 (16 * p + w) &&& d)) 64 = fb_ct (fun j => bdP a p x y (64 * w + j)) 64 := by
        refine fb_ct_cong (fun j hj => ?_)
        rw [bitL_and, hd j hj]
        unfold bdP
        by_cases g : 64 * w + j ≤ y
        · have := hc.hbyp p (64 * w + j) hp (by omega)
          rw [show (64 * w + j) / 64 = w by omega, show (64 * w + j) % 64 = j by omega] at this
          rw [this, Bool.and_comm]
        · rw [show decide (x ≤ 64 * w + j ∧ 64 * w + j ≤ y) = false by rw [decide_eq_false_iff_not]; omega, Bool.and_false, Bool.false_and]
      have := ih (w + 1) (by omega)
      rw [show 64 * (w + 1) = 64 * w + 64 by omega, fb_ct_split, ← e] at this
      exact this
  have := key 16 0 (by omega)
  exact ⟨_, this⟩
theorem ct_tail {f : Nat → Bool} {n : Nat} (r : Nat) (h : ∀ i, n ≤ i → i < n + r → f i = false) : fb_ct f (n + r) = fb_ct f n := by
  rw [fb_ct_split, fb_ct_zero.mpr (fun k hk => h (n + k) (by omega) (by omega)), Nat.add_zero]
theorem rbyp_spec {M : MS} {a : AS} (ok : OKa a) (hm : aM M a ev0 fo0) {p x y : Nat} {K : MS → Int32 → Prop} {Q : Int32 → MS → Prop} (hp : p < 12) (hy : y ≤ 999) (hxy : x ≤ y) (h : K M (nI (fb_ct (bdP a p x y) 1024))) : ∃ n, LX6_bypassed_24 (nI p) (nI y) K Q n M 0 (nI x) := by
  have key : ∀ (r d : Nat), d + r = y + 1 → x ≤ d → LX6_bypassed_24 (nI p) (nI y) K Q (r + 1) M (nI (fb_ct (bdP a p x y) d)) (nI d) := by
    intro r
    induction r with
    | zero =>
      intro d hd _
      rw [LX6_bypassed_24, nI_ltI (by omega) (by omega)]
      refine ifT (by omega) ?_
      have := ct_tail (f := bdP a p x y) (n := d) (1024 - d) (fun i h1 h2 => by unfold bdP; rw [show decide (x ≤ i ∧ i ≤ y) = false by rw [decide_eq_false_iff_not]; omega, Bool.false_and])
      rw [show d + (1024 - d) = 1024 by omega] at this
      rw [← this]
      exact h
    | succ r ih =>
      intro d hd hx
      rw [LX6_bypassed_24, nI_ltI (by omega) (by omega)]
      refine ifF (by omega) (isBypassed_spec ok hm hp (by omega) ?_)
      have := ih (d + 1) (by omega) (by omega)
      rw [fb_ct_succ] at this
      have e : bdP a p x y d = byp a p d := by unfold bdP; rw [show decide (x ≤ d ∧ d ≤ y) = true by rw [decide_eq_true_iff]; omega, Bool.true_and]
      rw [e] at this
      unfold JX6_bypassed_47
      rw [nI_1]
      refine brB (fun g => ?_) (fun g => ?_)
      · rw [g, if_pos rfl, ← nI_1] at this; exact this
      · rw [g, if_neg (by decide)] at this
        rw [show nI (fb_ct (bdP a p x y) d) + 0 = nI (fb_ct (bdP a p x y) d + 0) from nI_add _ 0]
        exact this
  have := key (y + 1 - x) x (by omega) (Nat.le_refl _)
  have e0 : fb_ct (bdP a p x y) x = 0 := fb_ct_zero.mpr (fun k hk => by unfold bdP; rw [show decide (x ≤ k ∧ k ≤ y) = false by rw [decide_eq_false_iff_not]; omega, Bool.false_and])
  rw [e0] at this
  exact ⟨_, this⟩
theorem op_bypassed : OK_bypassed Inv := by
  intro S M x1 x2 x3 hI
  obtain ⟨a, ok, hc, hm⟩ := id hI
  have hnp := ok.hnp
  unfold wX5_bypassed
  rcases (Classical.em (∃ p : Nat, p < a.1 0 ∧ x1 = nI p)).symm with h1 | ⟨p, hp, rfl⟩
  · exact has_f hc.hnp hnp h1 (br0 (by unfold wX6_bypassed; exact rPart_f hm.hnp hnp h1 (br0 hI.bad)))
  refine has_t hc.hnp hnp hp (br1 ?_)
  rcases (Classical.em (∃ i j : Nat, i ≤ j ∧ j ≤ 999 ∧ x2 = nI i ∧ x3 = nI j)).symm with h2 | ⟨x, y, hxy, hy, rfl, rfl⟩
  · exact areDays_f h2 (br0 (by unfold wX6_bypassed; exact rPart_t hm.hnp hnp hp (br1 (rDays_f h2 (br0 hI.bad)))))
  refine areDays_t hy hxy (br1 (bypDays_spec ok hc (by omega) hy hxy ?_))
  unfold wX6_bypassed
  exact rPart_t hm.hnp hnp hp (br1 (rDays_t hy hxy (br1 (rbyp_spec ok hm (by omega) hy hxy hI.bad))))
