/-! PURE SIDE: nothing -/
def gA (a : AS) (v s : Nat) : Nat := if act a v s.testBit = true then 1 else 0
theorem gA_loc {a : AS} (ok : OKa a) {v : Nat} (hv : v < a.1 3) : locF (bel a v) (gA a v) := by
  intro s s' hs
  unfold gA
  rw [act_dep ok v hv (fun p hp => hs p hp)]
theorem nothing_c {S : MS} {a : AS} (ok : OKa a) (hc : aC S a) {v : Nat} (hv : v < a.1 3) (h8 : (mems (bel a v)).length ≤ 8) {Q : Int64 → MS → Prop} (h : ∀ S', scC S S' → Q (lN (opL (evP (bel a v) (a.2 2)) (gA a v) 0 * 64 ^ (8 - (mems (bel a v)).length))) S') : wX1_forNothing S (nI v) Q := by
  have hb4 := bel_4096 ok hv
  have hnp := ok.hnp
  have hp := p256 h8
  unfold wX1_forNothing
  refine takeMembers_spec ok hc hv h8 (fun S1 hs1 h4 h5 hmb => ?_)
  rw [h4, shl1 (by omega)]
  rintro _ rfl
  -- shares
  have hshr : ∀ (r i : Nat) (S0 S' : MS), i + r = (mems (bel a v)).length → scC S S0 → S0.2.2 4 = nI (mems (bel a v)).length → S0.2.2 5 = nI (mems (bel a v)).length → (∀ j, j < (mems (bel a v)).length → S0.1 12 j = nI (mb (bel a v) j)) → (∀ F, F < 2 ^ (mems (bel a v)).length → S0.2.1 2 F = lN (gA a v (spN F (bel a v) 12))) → eqx 13 S0 S' → (∀ j, j < i → S'.1 13 j = nI (a.2 2 (mb (bel a v) j))) → LX1_forNothing_50 (fun S_5 => wX1_sum S_5 fun r_7 S_6 => Q r_7 S_6) Q (r + 1) S' (nI i) := by
    intro r
    induction r with
    | zero =>
      intro i S0 S' hi hs k4 k5 kmb kB he hf
      rw [LX1_forNothing_50, he.2, k4, nI_leI (by omega) (by omega)]
      refine ifT (by omega) (sum_spec (sh := fun j => a.2 2 (mb (bel a v) j)) h8 hb4 rfl (by rw [he.2]; exact k4) (by rw [he.2]; exact k5) h8 (fun j hj => ⟨hf j (by omega), ?_⟩) (gA_loc ok hv) (by rw [he.2]; exact kB) (fun S2 he2 => ?_))
      · exact (ok.hsh _ (bel_np ok hv (mb_spec hj).2.1)).2.2
      · rw [mems_map (bel a v) (fun p => (a.2 2 p, 2 ^ p))]
        exact h S2 (hs.tr (he.sc13.tr (he2.sc (by omega))))
    | succ r ih =>
      intro i S0 S' hi hs k4 k5 kmb kB he hf
      have hm := mb_spec (b := bel a v) (i := i) (by omega)
      have hpn := bel_np ok hv hm.2.1
      have hc' := (hc.sc hs).eqx (by omega) he
      rw [LX1_forNothing_50, he.2, k4, nI_leI (by omega) (by omega)]
      refine ifF (by omega) ⟨vp_in_nI (by omega) (by omega), ?_⟩
      rw [nI_clamp (by omega), he.1 12 (by omega), kmb i (by omega)]
      unfold wX2_shareForNothing
      refine ⟨vp_in_nI (by omega) (by omega), vp_in_nI (by omega) (by omega), ?_⟩
      rintro _ rfl
      rw [nI_clamp (by omega), (hc'.hsh _ hpn).2.2.1, nI_1]
      refine ih (i + 1) S0 _ (by omega) hs k4 k5 kmb kB (he.put _ _) (fun j hj => ?_)
      by_cases e : j = i
      · rw [e, uI_at]
      · rw [uI_nei e]; exact hf j (by omega)
  have hset : ∀ (r t : Nat) (S' : MS), t + r = 2 ^ (mems (bel a v)).length → eqL 2 S1 S' → (∀ F, F < t → S'.2.1 2 F = lN (gA a v (spN F (bel a v) 12))) → LX1_forNothing_14 (nI v) (nI (2 ^ (mems (bel a v)).length)) (fun S_4 => ∃ n0 : Nat, LX1_forNothing_50 (fun S_5 => wX1_sum S_5 fun r_7 S_6 => Q r_7 S_6) Q n0 S_4 0) Q (r + 1) S' (nI t) := by
    intro r
    induction r with
    | zero =>
      intro t S' ht he hf
      rw [LX1_forNothing_14, nI_leI (by omega) (by omega)]
      refine ifT (by omega) ⟨_, hshr (mems (bel a v)).length 0 S' S' (by omega) (hs1.tr (he.sc (by omega))) (by rw [he.2.1]; exact h4) (by rw [he.2.1]; exact h5) (by rw [he.1]; exact hmb) (fun F hF => hf F (by omega)) (eqx.rf _ _) (fun j hj => by omega)⟩
    | succ r ih =>
      intro t S' ht he hf
      have hc' := hc.sc (hs1.tr (he.sc (by omega)))
      rw [LX1_forNothing_14, nI_leI (by omega) (by omega)]
      refine ifF (by omega) (actsIn_spec ok hc'.VV (Nat.le_refl _) hv h8 (by omega) ?_)
      have hact : act a v (sprd (bel a v) t) = act a v (spN t (bel a v) 12).testBit := by
        refine act_dep ok v hv (fun p hp2 => ?_)
        rw [spB hb4 hp2]
        unfold sprd
        rw [hp2, Bool.true_and]
      have hgo : ∀ z : Nat, z = gA a v (spN t (bel a v) 12) → vp_in (nI t) 256 ∧ ∀ S_1 : MS, S_1 = uL S' 2 (nI t).toNatClampNeg (lN z) → LX1_forNothing_14 (nI v) (nI (2 ^ (mems (bel a v)).length)) (fun S_4 => ∃ n0 : Nat, LX1_forNothing_50 (fun S_5 => wX1_sum S_5 fun r_7 S_6 => Q r_7 S_6) Q n0 S_4 0) Q (r + 1) S_1 (nI (t + 1)) := by
        intro z hz
        refine ⟨vp_in_nI (by omega) (by omega), ?_⟩
        rintro _ rfl
        rw [nI_clamp (by omega)]
        refine ih (t + 1) _ (by omega) (he.put _ _) (fun F hF => ?_)
        by_cases e : F = t
        · subst e; rw [uL_at, hz]
        · rw [uL_nei e]; exact hf F (by omega)
      unfold JX1_forNothing_41
      rw [nI_1, hact]
      exact brB (fun e => hgo 1 (by unfold gA; rw [if_pos e])) (fun e => hgo 0 (by unfold gA; rw [if_neg (by rw [e]; decide)]))
  have := hset (2 ^ (mems (bel a v)).length) 0 S1 (by omega) (eqL.rf _ _) (fun F hF => by omega)
  exact ⟨_, this⟩
theorem nothing_r {M : MS} {a : AS} (ok : OKa a) (hm : aM M a ev0 fo0) {v : Nat} (hv : v < a.1 3) {Q : Int64 → MS → Prop} (h1 : (mems (bel a v)).length ≤ 8 → ∀ M', scR M M' → Q (lN (opL (evP (bel a v) (a.2 2)) (gA a v) 0 * 64 ^ (8 - (mems (bel a v)).length))) M') (h0 : ¬ (mems (bel a v)).length ≤ 8 → ∀ M', scR M M' → Q (-2) M') : wX6_nothing M (nI v) Q := by
  have hnv := ok.hnv
  have hnp := ok.hnp
  have hb4 := bel_4096 ok hv
  have hblt := bel_lt ok v hv
  unfold wX6_nothing
  refine rVote_t hm.hnv hnv hv (br1 (partsOf_spec ok hm hv (fun M1 he1 => rbits_spec (by omega) ?_)))
  have hct := fb_ct_le (bel a v).testBit 12
  rw [← mems_len] at hct ⊢
  rw [le8 (by omega)]
  refine ⟨fun h8 => ?_, fun h8 => h0 h8 M1 (he1.sc (by omega))⟩
  rintro _ rfl
  have hsc1 : scR M (uF M1 4 0) := ⟨fun r hr => he1.1 r (by omega), fun k hk => by rw [uF22, if_neg (by omega), he1.2]⟩
  have hsh : ∀ p, (bel a v).testBit p = true → a.2 2 p ≤ 64 := fun p hp => (ok.hsh p (bel_np ok hv hp)).2.2
  have hev : ∀ e ∈ evP (bel a v) (a.2 2), e.1 ≤ 64 ∧ e.2 < 4096 := fun e he => ev_le ok hsh e (List.mem_append_left _ he)
  have hlen : (evP (bel a v) (a.2 2)).length = (mems (bel a v)).length := by unfold evP; rw [List.length_map]
  have hend : ∀ M'', scR M M'' → evL M'' (evP (bel a v) (a.2 2)) → wX6_sums M'' (nI v) 0 fun r_10 S_9 => Q r_10 S_9 := by
    intro M'' hs hl
    refine sums_spec (fl := false) (g := gA a v) ok (hm.sc' hs) hv hl (by rw [hlen]; exact h8) (fun e he => getD_all (P := fun x => x.1 ≤ 64) (fun x hx => (hev x hx).1) he) (fun e he => getD_all (P := fun x => x.2 < 4096) (fun x hx => (hev x hx).2) he) (fun s hs => ?_) (fun M3 he3 => ?_)
    · unfold gA
      simp only [Bool.false_eq_true, if_false]
      cases act a v s.testBit <;> simp
    · rw [hlen, opL_perm (List.reverse_perm _)]
      exact h1 h8 M3 (hs.tr (he3.sc (by omega)))
  have hprt : ∀ (r p : Nat) (M' : MS), p + r = a.1 0 → scR M M' → evL M' ((memN (bel a v) p).map (fun p => (a.2 2 p, 2 ^ p))) → LX6_nothing_38 (nI v) (nI (bel a v)) (fun S_8 => wX6_sums S_8 (nI v) 0 fun r_10 S_9 => Q r_10 S_9) Q (r + 1) M' (nI p) := by
    intro r
    induction r with
    | zero =>
      intro p M' hp hs hl
      have hm' := hm.sc' hs
      rw [LX6_nothing_38, hm'.hnp, nI_leI (by omega) (by omega)]
      refine ifT (by omega) (hend M' hs ?_)
      rw [show p = a.1 0 by omega, memN_np hblt hnp] at hl
      exact hl
    | succ r ih =>
      intro p M' hp hs hl
      have hm' := hm.sc' hs
      rw [LX6_nothing_38, hm'.hnp, nI_leI (by omega) (by omega)]
      refine ifF (by omega) ?_
      rw [bitS1 (by omega) (by omega)]
      unfold JX6_nothing_68
      rw [nI_1]
      refine ⟨fun g0 => ⟨vp_in_nI (by omega) (by omega), ?_⟩, fun g0 => ?_⟩
      · rw [nI_clamp (by omega), hm'.hz, shl1 (by omega)]
        have hl24 : ((memN (bel a v) p).map (fun p => (a.2 2 p, 2 ^ p))).length < 24 := by
          rw [List.length_map]
          have := List.length_filter_le (fun q => (bel a v).testBit q) (List.range p)
          rw [List.length_range] at this
          unfold memN
          omega
        refine adds_spec hl hl24 (fun M2 hs2 hl2 => ih (p + 1) M2 (by omega) (hs.tr hs2) ?_)
        rw [memN_succ, if_pos g0, List.map_append]
        exact hl2
      · refine ih (p + 1) M' (by omega) hs ?_
        rw [memN_succ, if_neg g0, List.append_nil]
        exact hl
  have := hprt (a.1 0) 0 (uF M1 4 0) (by omega) hsc1 ⟨rfl, fun e he => by simp [memN] at he⟩
  exact ⟨_, this⟩
theorem op_nothing : OK_nothing Inv := by
  intro S M x1 hI
  obtain ⟨a, ok, hc, hm⟩ := id hI
  have hnv := ok.hnv
  unfold wX5_nothing
  rcases (Classical.em (∃ p : Nat, p < a.1 3 ∧ x1 = nI p)).symm with h1 | ⟨v, hv, rfl⟩
  · exact vhas_f hc.hnv hnv h1 (br0 (by unfold wX6_nothing; exact rVote_f hm.hnv hnv h1 (br0 ⟨rfl, hI⟩)))
  have hct := fb_ct_le (bel a v).testBit 12
  rw [← mems_len] at hct
  refine vhas_t hc.hnv hnv hv (br1 (sizeBelow_spec ok hc hv ?_))
  rw [le8 (by omega)]
  refine ⟨fun h8 => nothing_c ok hc hv h8 (fun S1 hs1 => nothing_r ok hm hv (fun _ M1 hs => Inv.ret ok hc hm hs1 hs) (fun g => absurd h8 g)), fun h8 => nothing_r ok hm hv (fun g => absurd g h8) (fun _ M1 hs => Inv.ret ok hc hm (scC.rf _) hs)⟩
