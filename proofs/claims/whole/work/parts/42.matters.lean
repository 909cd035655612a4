/-! PURE SIDE: matters, most -/
def shP (a : AS) (d p w : Nat) : Nat → Nat := fun q => if q = p then w else shv a ev0 fo0 q d
def WT (a : AS) (v d p : Nat) : Int64 := lN (CH a v (shP a d p 64)) - lN (CH a v (shP a d p 0))
def foP (p : Nat) (w : Int32) : Nat → Int32 := fun q => if q = p then w else fo0 q
theorem shv_foP (a : AS) {d p w : Nat} (hw : w < 2 ^ 31) : (fun q => shv a ev0 (foP p (nI w)) q d) = shP a d p w := by
  funext q
  unfold shP
  by_cases e : q = p
  · rw [if_pos e]
    unfold shv foP
    rw [if_pos e, nI_toInt hw, if_pos (by omega)]
    rfl
  · rw [if_neg e]
    unfold shv foP
    rw [if_neg e]
theorem foP_le {p : Nat} {w : Int32} (hw : w.toInt ≤ 64) (q : Nat) : (foP p w q).toInt ≤ 64 := by
  unfold foP
  by_cases e : q = p
  · rw [if_pos e]; exact hw
  · rw [if_neg e]; exact fo0_le q
theorem aM.force {M M' : MS} {a : AS} {ev : Nat → Nat} {fo fo' : Nat → Int32} (h : aM M a ev fo) (h1 : ∀ r, r ≤ 15 → r ≠ 7 → M'.1 r = M.1 r) (h2 : M'.2.2 = M.2.2) (h7 : ∀ i, i < 12 → M'.1 7 i = fo' i) : aM M' a ev fo' := by
  obtain ⟨g1, g2, g3, g4, r0, r1, r2, r3, r4, r5, r6, r7, r8, r9, r10, r11, r12, r13, r14, r15⟩ := h
  unfold aM
  rw [h2, h1 0 (by omega) (by omega), h1 1 (by omega) (by omega), h1 2 (by omega) (by omega), h1 3 (by omega) (by omega), h1 4 (by omega) (by omega), h1 5 (by omega) (by omega), h1 6 (by omega) (by omega), h1 8 (by omega) (by omega), h1 9 (by omega) (by omega), h1 10 (by omega) (by omega), h1 11 (by omega) (by omega), h1 12 (by omega) (by omega), h1 13 (by omega) (by omega), h1 14 (by omega) (by omega), h1 15 (by omega) (by omega)]
  exact ⟨g1, g2, g3, g4, r0, r1, r2, r3, r4, r5, r6, h7, r8, r9, r10, r11, r12, r13, r14, r15⟩
theorem aM.put7 {M : MS} {a : AS} {ev : Nat → Nat} {fo fo' : Nat → Int32} {p : Nat} {w : Int32} (h : aM M a ev fo) (hf : ∀ i, i < 12 → fo' i = if i = p then w else fo i) : aM (uI M 7 p w) a ev fo' := by
  refine h.force (fun r _ hr => uI_ne hr) rfl (fun i hi => ?_)
  rw [hf i hi]
  by_cases e : i = p
  · rw [e, uI_at, if_pos rfl]
  · rw [uI_nei e, if_neg e]; exact h.hfo i hi
theorem foP_foP (p : Nat) (w w' : Int32) (i : Nat) : foP p w' i = if i = p then w' else foP p w i := by
  unfold foP
  by_cases e : i = p
  · rw [if_pos e, if_pos e]
  · rw [if_neg e, if_neg e, if_neg e]
theorem fo0_foP (p : Nat) (w : Int32) (i : Nat) : fo0 i = if i = p then (-1 : Int32) else foP p w i := by
  unfold foP
  by_cases e : i = p
  · rw [if_pos e]
  · rw [if_neg e, if_neg e]
theorem mattersOf_r {M : MS} {a : AS} (ok : OKa a) (hm : aM M a ev0 fo0) {v d p : Nat} (hv : v < a.1 3) (h8 : evs a v ≤ 8) (hd : d ≤ 999) (hp : p < 12) {Q : Int64 → MS → Prop}
    (h1 : (bel a v).testBit p = true → ∀ M', aM M' a ev0 fo0 → Q (WT a v d p) M') (h0 : (bel a v).testBit p = false → ∀ M', aM M' a ev0 fo0 → Q 0 M') : wX6_mattersOf M (nI v) (nI p) (nI d) Q := by
  have hb4 := bel_4096 ok hv
  unfold wX6_mattersOf
  refine partsOf_spec ok hm hv (fun M1 he1 => ?_)
  have hm1 := hm.eqx (by omega) he1
  rw [bitS (by omega) (by omega)]
  cases hb : (bel a v).testBit p with
  | false => exact ifT rfl (h0 hb M1 hm1)
  | true =>
    refine ifF (by decide) ⟨vp_in_nI (by omega) (by omega), ?_⟩
    rintro _ rfl
    rw [nI_clamp (by omega)]
    have hm2 : aM (uI M1 7 p (nI 64)) a ev0 (foP p (nI 64)) := hm1.put7 (fun i _ => rfl)
    refine chanceOf_spec ok hm2 hv h8 hd (fun _ _ => Nat.zero_le _) (fun q _ => foP_le (by decide) q) (fun M3 hs3 => ⟨vp_in_nI (by omega) (by omega), ?_⟩)
    rintro _ rfl
    have hm3 : aM (uI M3 7 p (nI 0)) a ev0 (foP p (nI 0)) := (hm2.sc' hs3).put7 (fun i _ => foP_foP p (nI 64) (nI 0) i)
    refine chanceOf_spec ok hm3 hv h8 hd (fun _ _ => Nat.zero_le _) (fun q _ => foP_le (by decide) q) (fun M4 hs4 => ⟨vp_in_nI (by omega) (by omega), ?_⟩)
    rintro _ rfl
    rw [shv_foP a (by omega), shv_foP a (by omega)]
    exact h1 hb _ ((hm3.sc' hs4).put7 (fun i _ => fo0_foP p (nI 0) i))
theorem mb_inj {b i j : Nat} (hi : i < (mems b).length) (hj : j < (mems b).length) (h : mb b i = mb b j) : i = j := by
  rw [← (mb_spec hi).2.2, h, (mb_spec hj).2.2]
/-- the shares of a day lie in the row -/
def SH (S : MS) (a : AS) (v d : Nat) : Prop := ∀ i, i < (mems (bel a v)).length → S.1 13 i = nI (shv a ev0 fo0 (mb (bel a v) i) d)
theorem weightAt_spec {S : MS} {a : AS} (ok : OKa a) {v d i : Nat} (hv : v < a.1 3) (h8 : evs a v ≤ 8) (hO : OD S a v) (hS : SH S a v d) (hi : i < (mems (bel a v)).length) {Q : Int64 → MS → Prop}
    (h : ∀ S', scC S S' → OD S' a v → SH S' a v d → Q (WT a v d (mb (bel a v) i)) S') : wX1_weightAt S (nI i) Q := by
  have hln : (mems (bel a v)).length ≤ 8 := by unfold evs at h8; omega
  unfold wX1_weightAt
  refine ⟨vp_in_nI (by omega) (by omega), vp_in_nI (by omega) (by omega), ?_⟩
  rintro _ rfl
  rw [nI_clamp (by omega)]
  have hput : ∀ (S' : MS) (w : Nat), w ≤ 64 → (∀ j, j < (mems (bel a v)).length → j ≠ i → S'.1 13 j = nI (shv a ev0 fo0 (mb (bel a v) j) d)) → ∀ j, j < (mems (bel a v)).length → (uI S' 13 i (nI w)).1 13 j = nI (shP a d (mb (bel a v) i) w (mb (bel a v) j)) ∧ shP a d (mb (bel a v) i) w (mb (bel a v) j) ≤ 64 := by
    intro S' w hw hs j hj
    unfold shP
    by_cases e : j = i
    · subst e
      rw [uI_at, if_pos rfl]
      exact ⟨rfl, hw⟩
    · rw [uI_nei e, if_neg (fun g => e (mb_inj hj hi g))]
      exact ⟨hs j hj e, shv_le (fo0_le _)⟩
  have he1 : eqx 13 S (uI S 13 i (nI 64)) := (eqx.rf 13 S).put _ _
  refine sumOD_spec ok hv h8 (hO.x13 he1) (hput S 64 (by omega) (fun j hj _ => hS j hj)) (fun S2 he2 => ⟨vp_in_nI (by omega) (by omega), ?_⟩)
  rintro _ rfl
  have hO2 : OD S2 a v := (hO.x13 he1).L3 he2
  have hS2 : ∀ j, j < (mems (bel a v)).length → j ≠ i → S2.1 13 j = nI (shv a ev0 fo0 (mb (bel a v) j) d) := by
    intro j hj e
    rw [he2.1, uI_nei e]
    exact hS j hj
  have he3 : eqx 13 S2 (uI S2 13 i (nI 0)) := (eqx.rf 13 S2).put _ _
  refine sumOD_spec ok hv h8 (hO2.x13 he3) (hput S2 0 (by omega) hS2) (fun S4 he4 => ⟨vp_in_nI (by omega) (by omega), ?_⟩)
  rintro _ rfl
  have hO4 : OD S4 a v := (hO2.x13 he3).L3 he4
  have he5 : eqx 13 S4 (uI S4 13 i (S.1 13 i)) := (eqx.rf 13 S4).put _ _
  refine h _ (he1.sc13.tr ((he2.sc (by omega)).tr (he3.sc13.tr ((he4.sc (by omega)).tr he5.sc13)))) (hO4.x13 he5) (fun j hj => ?_)
  by_cases e : j = i
  · subst e; rw [uI_at]; exact hS j hj
  · rw [uI_nei e, he4.1, uI_nei e]; exact hS2 j hj e
theorem weightOf_spec {S : MS} {a : AS} (ok : OKa a) {v d p : Nat} (hv : v < a.1 3) (h8 : evs a v ≤ 8) (hd : d ≤ 999) (hp : p < 12) (hO : OD S a v) {Q : Int64 → MS → Prop}
    (h1 : (bel a v).testBit p = true → ∀ S', scC S S' → Q (WT a v d p) S') (h0 : (bel a v).testBit p = false → ∀ S', scC S S' → Q 0 S') : wX1_weightOf S (nI p) (nI d) Q := by
  have hln : (mems (bel a v)).length ≤ 8 := by unfold evs at h8; omega
  unfold wX1_weightOf
  refine takeShares_spec ok hv h8 hd hO (fun S1 he1 hS => ?_)
  have hO1 := hO.x13 he1
  have key : ∀ (r k : Nat), k + r = (mems (bel a v)).length → (∀ j, j < k → mb (bel a v) j ≠ p) → LX1_weightOf_7 (nI p) (fun S_3 => Q 0 S_3) Q (r + 1) S1 (nI k) := by
    intro r
    induction r with
    | zero =>
      intro k hk hn
      rw [LX1_weightOf_7, hO1.2.1, nI_leI (by omega) (by omega)]
      refine ifT (by omega) (h0 ?_ S1 he1.sc13)
      cases hb : (bel a v).testBit p with
      | false => rfl
      | true => exact absurd (mb_of hb hp).2 (hn _ (by have := (mb_of hb hp).1; omega))
    | succ r ih =>
      intro k hk hn
      have hmk := mb_spec (b := bel a v) (i := k) (by omega)
      rw [LX1_weightOf_7, hO1.2.1, nI_leI (by omega) (by omega)]
      refine ifF (by omega) ⟨vp_in_nI (by omega) (by omega), ?_⟩
      rw [nI_clamp (by omega), hO1.2.2.2.1 k (by omega), nI_eq (by omega) (by omega), nI_1]
      refine ⟨fun e => weightAt_spec ok hv h8 hO1 hS (by omega) (fun S2 hs2 _ _ => ?_), fun e => ih (k + 1) (by omega) (fun j hj => ?_)⟩
      · rw [e]
        exact h1 (by rw [← e]; exact hmk.2.1) S2 (he1.sc13.tr hs2)
      · by_cases g : j = k
        · rw [g]; exact e
        · exact hn j (by omega)
  have := key (mems (bel a v)).length 0 (by omega) (fun j hj => by omega)
  exact ⟨_, this⟩
theorem op_matters : OK_matters Inv := by
  intro S M x1 x2 x3 hI
  obtain ⟨a, ok, hc, hm⟩ := id hI
  have hnv := ok.hnv
  have hnp := ok.hnp
  unfold wX5_matters
  rcases (Classical.em (∃ p : Nat, p < a.1 3 ∧ x1 = nI p)).symm with h1 | ⟨v, hv, rfl⟩
  · exact vhas_f hc.hnv hnv h1 (br0 (by unfold wX6_matters; exact rVote_f hm.hnv hnv h1 (br0 ⟨rfl, hI⟩)))
  refine vhas_t hc.hnv hnv hv (br1 ?_)
  rcases (Classical.em (∃ p : Nat, p < a.1 0 ∧ x2 = nI p)).symm with h2 | ⟨p, hp, rfl⟩
  · exact has_f hc.hnp hnp h2 (br0 (by unfold wX6_matters; exact rVote_t hm.hnv hnv hv (br1 (rPart_f hm.hnp hnp h2 (br0 ⟨rfl, hI⟩)))))
  refine has_t hc.hnp hnp hp (br1 ?_)
  rcases (Classical.em (∃ j : Nat, j ≤ 999 ∧ x3 = nI j)).symm with h3 | ⟨d, hd, rfl⟩
  · exact isDay_f h3 (br0 (by unfold wX6_matters; exact rVote_t hm.hnv hnv hv (br1 (rPart_t hm.hnp hnp hp (br1 (rDay_f h3 (br0 ⟨rfl, hI⟩)))))))
  have hel := evs_le ok v
  have hR : ∀ {r : Int64} {S1 : MS}, scC S S1 → (evs a v ≤ 8 → r = if (bel a v).testBit p = true then WT a v d p else 0) → (¬ evs a v ≤ 8 → r = -2) → wX6_matters M (nI v) (nI p) (nI d) (fun r1 M1 => r = r1 ∧ Inv S1 M1) := by
    intro r S1 hs g1 g2
    unfold wX6_matters
    refine rVote_t hm.hnv hnv hv (br1 (rPart_t hm.hnp hnp hp (br1 (rDay_t hd (br1 (reventsOf_spec ok hm hv (fun M1 he1 => ?_)))))))
    rw [le8 (by omega)]
    refine ⟨fun h8 => mattersOf_r ok (hm.eqx (by omega) he1) hv h8 hd (by omega) (fun hb M2 hm2 => ⟨?_, a, ok, hc.sc hs, hm2⟩) (fun hb M2 hm2 => ⟨?_, a, ok, hc.sc hs, hm2⟩), fun h8 => ⟨g2 h8, a, ok, hc.sc hs, hm.eqx (by omega) he1⟩⟩
    · rw [g1 h8, if_pos hb]
    · rw [g1 h8, if_neg (by rw [hb]; decide)]
  refine isDay_t hd (br1 (tooMany ok hc hv (fun h8 => br0 (startFailing_spec ok hc hv h8 (fun S1 hs1 hO => weightOf_spec ok hv h8 hd (by omega) hO (fun hb S2 hs2 => hR (hs1.tr hs2) (fun _ => by rw [if_pos hb]) (fun g => absurd h8 g)) (fun hb S2 hs2 => hR (hs1.tr hs2) (fun _ => by rw [if_neg (by rw [hb]; decide)]) (fun g => absurd h8 g))))) (fun h8 => br1 (hR (scC.rf _) (fun g => absurd g h8) (fun _ => rfl)))))
