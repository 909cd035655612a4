/-! PURE SIDE: over, broken, nothing -/
theorem sd_c {S : MS} {x y : Int32} {Q : Int32 → MS → Prop} (h1 : (∃ i j : Nat, i ≤ j ∧ j ≤ 999 ∧ j < i + 200 ∧ x = nI i ∧ y = nI j) → Q 1 S) (h0 : ¬ (∃ i j : Nat, i ≤ j ∧ j ≤ 999 ∧ j < i + 200 ∧ x = nI i ∧ y = nI j) → Q 0 S) : wX5_areSummedDays S x y Q := by
  unfold wX5_areSummedDays
  rcases (Classical.em (∃ i j : Nat, i ≤ j ∧ j ≤ 999 ∧ x = nI i ∧ y = nI j)).symm with h | ⟨i, j, hij, hj, rfl, rfl⟩
  · exact areDays_f h (br0 (h0 (fun ⟨i, j, g1, g2, _, g3⟩ => h ⟨i, j, g1, g2, g3⟩)))
  · refine areDays_t hj hij (br1 ?_)
    rw [pk_sub hij, show (200 : Int32) = nI 200 from rfl, nI_leI (by omega) (by omega)]
    refine ⟨fun g => h0 (fun ⟨i', j', g1, g2, g3, g4, g5⟩ => ?_), fun g => h1 ⟨i, j, hij, hj, by omega, rfl, rfl⟩⟩
    rw [nI_eq (by omega) (by omega)] at g4 g5
    omega
theorem sd_r {S : MS} {x y : Int32} {Q : Int32 → MS → Prop} (h1 : (∃ i j : Nat, i ≤ j ∧ j ≤ 999 ∧ j < i + 200 ∧ x = nI i ∧ y = nI j) → Q 1 S) (h0 : ¬ (∃ i j : Nat, i ≤ j ∧ j ≤ 999 ∧ j < i + 200 ∧ x = nI i ∧ y = nI j) → Q 0 S) : wX6_isSpan S x y Q := by
  unfold wX6_isSpan
  rcases (Classical.em (∃ i j : Nat, i ≤ j ∧ j ≤ 999 ∧ x = nI i ∧ y = nI j)).symm with h | ⟨i, j, hij, hj, rfl, rfl⟩
  · exact rDays_f h (br0 (h0 (fun ⟨i, j, g1, g2, _, g3⟩ => h ⟨i, j, g1, g2, g3⟩)))
  · refine rDays_t hj hij (br1 ?_)
    rw [pk_sub hij, show (200 : Int32) = nI 200 from rfl, nI_leI (by omega) (by omega)]
    refine ⟨fun g => h0 (fun ⟨i', j', g1, g2, g3, g4, g5⟩ => ?_), fun g => h1 ⟨i, j, hij, hj, by omega, rfl, rfl⟩⟩
    rw [nI_eq (by omega) (by omega)] at g4 g5
    omega
/-- the chance on a day -/
def chd (a : AS) (v d : Nat) : Nat := CH a v (fun p => shv a ev0 fo0 p d)
theorem over_c {S : MS} {a : AS} (ok : OKa a) {v x y : Nat} (hv : v < a.1 3) (h8 : evs a v ≤ 8) (hy : y ≤ 999) (hxy : x ≤ y) (hO : OD S a v) {K : MS → Int64 → Prop} {Q : Int64 → MS → Prop} (h : ∀ S', scC S S' → K S' (lN (fb_sm (fun i => chd a v (x + i)) (y + 1 - x)))) : ∃ n, LX5_over_52 (nI y) K Q n S 0 (nI x) := by
  have key : ∀ (r t : Nat) (S' : MS), t + r = y + 1 - x → scC S S' → OD S' a v → LX5_over_52 (nI y) K Q (r + 1) S' (lN (fb_sm (fun i => chd a v (x + i)) t)) (nI (x + t)) := by
    intro r
    induction r with
    | zero =>
      intro t S' ht hs hO'
      rw [LX5_over_52, nI_ltI (by omega) (by omega)]
      exact ifT (by omega) (by rw [show t = y + 1 - x by omega]; exact h S' hs)
    | succ r ih =>
      intro t S' ht hs hO'
      rw [LX5_over_52, nI_ltI (by omega) (by omega)]
      refine ifF (by omega) (onDay_spec ok hv h8 (by omega) hO' (fun S2 hs2 hO2 => ?_))
      have := ih (t + 1) S2 (by omega) (hs.tr hs2) hO2
      rw [fb_sm_succ, ← lN_add] at this
      rw [nI_1]
      exact this
  have := key (y + 1 - x) 0 S (by omega) (scC.rf _) hO
  exact ⟨_, this⟩
theorem over_r {M : MS} {a : AS} (ok : OKa a) (hm : aM M a ev0 fo0) {v x y : Nat} (hv : v < a.1 3) (h8 : evs a v ≤ 8) (hy : y ≤ 999) (hxy : x ≤ y) {K : MS → Int64 → Prop} {Q : Int64 → MS → Prop} (h : ∀ M', scR M M' → K M' (lN (fb_sm (fun i => chd a v (x + i)) (y + 1 - x)))) : ∃ n, LX6_over_41 (nI v) (nI y) K Q n M 0 (nI x) := by
  have key : ∀ (r t : Nat) (M' : MS), t + r = y + 1 - x → scR M M' → LX6_over_41 (nI v) (nI y) K Q (r + 1) M' (lN (fb_sm (fun i => chd a v (x + i)) t)) (nI (x + t)) := by
    intro r
    induction r with
    | zero =>
      intro t M' ht hs
      rw [LX6_over_41, nI_ltI (by omega) (by omega)]
      exact ifT (by omega) (by rw [show t = y + 1 - x by omega]; exact h M' hs)
    | succ r ih =>
      intro t M' ht hs
      rw [LX6_over_41, nI_ltI (by omega) (by omega)]
      refine ifF (by omega) (chanceOf_spec ok (hm.sc' hs) hv h8 (by omega) (fun _ _ => Nat.zero_le _) (fun p _ => fo0_le p) (fun M2 hs2 => ?_))
      have := ih (t + 1) M2 (by omega) (hs.tr hs2)
      rw [fb_sm_succ, ← lN_add] at this
      rw [nI_1]
      exact this
  have := key (y + 1 - x) 0 M (by omega) (scR.rf _)
  exact ⟨_, this⟩
theorem op_over : OK_over Inv := by
  intro S M x1 x2 x3 hI
  obtain ⟨a, ok, hc, hm⟩ := id hI
  have hnv := ok.hnv
  unfold wX5_over
  rcases (Classical.em (∃ p : Nat, p < a.1 3 ∧ x1 = nI p)).symm with h1 | ⟨v, hv, rfl⟩
  · exact vhas_f hc.hnv hnv h1 (br0 (by unfold wX6_over; exact rVote_f hm.hnv hnv h1 (br0 ⟨rfl, hI⟩)))
  have hel := evs_le ok v
  refine vhas_t hc.hnv hnv hv (br1 (sd_c (fun hsp => br1 ?_) (fun hsp => br0 ?_)))
  · obtain ⟨x, y, hxy, hy, hl, rfl, rfl⟩ := id hsp
    refine tooMany ok hc hv (fun h8 => br0 (startFailing_spec ok hc hv h8 (fun S1 hs1 hO => over_c ok hv h8 hy hxy hO (fun S2 hs2 => ?_)))) (fun h8 => br1 ?_)
    · unfold wX6_over
      refine rVote_t hm.hnv hnv hv (br1 (sd_r (fun _ => br1 (reventsOf_spec ok hm hv (fun M1 he1 => ?_))) (fun g => absurd hsp g)))
      rw [le8 (by omega)]
      exact ifT h8 (over_r ok (hm.eqx (by omega) he1) hv h8 hy hxy (fun M2 hs => Inv.ret ok hc hm (hs1.tr hs2) ((he1.sc (by omega)).tr hs)))
    · unfold wX6_over
      refine rVote_t hm.hnv hnv hv (br1 (sd_r (fun _ => br1 (reventsOf_spec ok hm hv (fun M1 he1 => ?_))) (fun g => absurd hsp g)))
      rw [le8 (by omega)]
      exact ifF h8 (Inv.ret ok hc hm (scC.rf _) (he1.sc (by omega)))
  · unfold wX6_over
    exact rVote_t hm.hnv hnv hv (br1 (sd_r (fun g => absurd g hsp) (fun _ => br0 ⟨rfl, hI⟩)))
def brk (f : Nat → Nat) (lim : Int64) : Nat → Nat → Int32
  | 0, _ => -4
  | r + 1, d => if lg_cmp (lN (f d)) lim ≤ 0 then brk f lim r (d + 1) else nI d
theorem brk_c {S : MS} {a : AS} (ok : OKa a) {v x y : Nat} (hv : v < a.1 3) (h8 : evs a v ≤ 8) (hy : y ≤ 999) (hO : OD S a v) {lim : Int64} {Q : Int32 → MS → Prop} :
    ∀ (r d : Nat) (S' : MS), d + r = y + 1 → scC S S' → OD S' a v → (∀ S'', scC S S'' → Q (brk (chd a v) lim r d) S'') → LX5_broken_62 (nI y) lim (fun S_9 => Q (-4) S_9) Q (r + 1) S' (nI d) := by
  intro r
  induction r with
  | zero =>
    intro d S' hd hs hO' h
    rw [LX5_broken_62, nI_ltI (by omega) (by omega)]
    exact ifT (by omega) (h S' hs)
  | succ r ih =>
    intro d S' hd hs hO' h
    rw [LX5_broken_62, nI_ltI (by omega) (by omega)]
    refine ifF (by omega) (onDay_spec ok hv h8 (by omega) hO' (fun S2 hs2 hO2 => ?_))
    rw [nI_1]
    refine ⟨fun g => ih (d + 1) S2 (by omega) (hs.tr hs2) hO2 (fun S3 hs3 => ?_), fun g => ?_⟩
    · have := h S3 hs3
      unfold brk at this
      rw [if_pos (show lg_cmp (lN (chd a v d)) lim ≤ 0 from g)] at this
      exact this
    · have := h S2 (hs.tr hs2)
      unfold brk at this
      rw [if_neg (show ¬ lg_cmp (lN (chd a v d)) lim ≤ 0 from g)] at this
      exact this
theorem brk_r {M : MS} {a : AS} (ok : OKa a) (hm : aM M a ev0 fo0) {v x y : Nat} (hv : v < a.1 3) (h8 : evs a v ≤ 8) (hy : y ≤ 999) {lim : Int64} {Q : Int32 → MS → Prop} :
    ∀ (r d : Nat) (M' : MS), d + r = y + 1 → scR M M' → (∀ M'', scR M M'' → Q (brk (chd a v) lim r d) M'') → LX6_broken_47 (nI v) (nI y) lim (fun S_9 => Q (-4) S_9) Q (r + 1) M' (nI d) := by
  intro r
  induction r with
  | zero =>
    intro d M' hd hs h
    rw [LX6_broken_47, nI_ltI (by omega) (by omega)]
    exact ifT (by omega) (h M' hs)
  | succ r ih =>
    intro d M' hd hs h
    rw [LX6_broken_47, nI_ltI (by omega) (by omega)]
    refine ifF (by omega) (chanceOf_spec ok (hm.sc' hs) hv h8 (by omega) (fun _ _ => Nat.zero_le _) (fun p _ => fo0_le p) (fun M2 hs2 => ?_))
    rw [nI_1]
    refine ⟨fun g => ih (d + 1) M2 (by omega) (hs.tr hs2) (fun M3 hs3 => ?_), fun g => ?_⟩
    · have := h M3 hs3
      unfold brk at this
      rw [if_pos (show lg_cmp (lN (chd a v d)) lim ≤ 0 from g)] at this
      exact this
    · have := h M2 (hs.tr hs2)
      unfold brk at this
      rw [if_neg (show ¬ lg_cmp (lN (chd a v d)) lim ≤ 0 from g)] at this
      exact this
theorem op_broken : OK_broken Inv := by
  intro S M x1 x2 x3 x4 hI
  obtain ⟨a, ok, hc, hm⟩ := id hI
  have hnv := ok.hnv
  unfold wX5_broken
  rcases (Classical.em (∃ p : Nat, p < a.1 3 ∧ x1 = nI p)).symm with h1 | ⟨v, hv, rfl⟩
  · exact vhas_f hc.hnv hnv h1 (br0 (by unfold wX6_broken; exact rVote_f hm.hnv hnv h1 (br0 ⟨rfl, hI⟩)))
  have hel := evs_le ok v
  refine vhas_t hc.hnv hnv hv (br1 (sd_c (fun hsp => br1 ?_) (fun hsp => br0 (by unfold wX6_broken; exact rVote_t hm.hnv hnv hv (br1 (sd_r (fun g => absurd g hsp) (fun _ => br0 ⟨rfl, hI⟩)))))))
  obtain ⟨x, y, hxy, hy, hl, rfl, rfl⟩ := id hsp
  have hbad : ¬ ((0 : Int64).toInt ≤ x4.toInt ∧ x4.toInt ≤ (281474976710656 : Int64).toInt) → wX6_broken M (nI v) (nI x) (nI y) x4 (fun r1 M1 => -1 = r1 ∧ Inv S M1) := by
    intro hb
    unfold wX6_broken
    exact rVote_t hm.hnv hnv hv (br1 (sd_r (fun _ => br1 (in_spec (fun g1 g2 => absurd ⟨g1, g2⟩ hb) (fun _ => br0 ⟨rfl, hI⟩))) (fun g => absurd hsp g)))
  rw [lg_lt, lg_le]
  refine ⟨fun g => hbad (by omega), fun g => ⟨fun g2 => ?_, fun g2 => hbad (by omega)⟩⟩
  have hR : ∀ {r : Int32} {S1 : MS}, scC S S1 → (evs a v ≤ 8 → r = brk (chd a v) x4 (y + 1 - x) x) → (¬ evs a v ≤ 8 → r = -2) → wX6_broken M (nI v) (nI x) (nI y) x4 (fun r1 M1 => r = r1 ∧ Inv S1 M1) := by
    intro r S1 hs h8 hn8
    unfold wX6_broken
    refine rVote_t hm.hnv hnv hv (br1 (sd_r (fun _ => br1 (in_spec (fun _ _ => br1 (reventsOf_spec ok hm hv (fun M1 he1 => ?_))) (fun g3 => absurd (by omega) g3))) (fun g => absurd hsp g)))
    rw [le8 (by omega)]
    refine ⟨fun e => ⟨y + 1 - x + 1, brk_r (x := x) (lim := x4) (Q := fun r1 M1 => r = r1 ∧ Inv S1 M1) ok (hm.eqx (by omega) he1) hv e hy (y + 1 - x) x M1 (by omega) (scR.rf _) (fun M2 hs2 => ⟨h8 e, a, ok, hc.sc hs, (hm.eqx (by omega) he1).sc' hs2⟩)⟩, fun e => ⟨hn8 e, a, ok, hc.sc hs, hm.eqx (by omega) he1⟩⟩
  refine tooMany ok hc hv (fun h8 => br0 (startFailing_spec ok hc hv h8 (fun S1 hs1 hO => ⟨y + 1 - x + 1, brk_c (x := x) (lim := x4) (Q := fun r S1 => wX6_broken M (nI v) (nI x) (nI y) x4 fun r1 M1 => r = r1 ∧ Inv S1 M1) ok hv h8 hy hO (y + 1 - x) x S1 (by omega) (scC.rf _) hO (fun S2 hs2 => hR (hs1.tr hs2) (fun _ => rfl) (fun g => absurd h8 g))⟩))) (fun h8 => br1 (hR (scC.rf _) (fun g => absurd g h8) (fun _ => rfl)))
