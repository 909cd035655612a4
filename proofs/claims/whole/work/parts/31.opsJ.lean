/-! PURE SIDE: group -/
theorem nI_e0' {n : Nat} (h : n < 2 ^ 32) (e : nI n = 0) : n = 0 := by
  have := congrArg (fun z : Int32 => z.toBitVec.toNat) e
  rw [show (nI n).toBitVec.toNat = n from pk_tn h] at this
  exact this
theorem hasAll_t {S : MS} {np n : Nat} {Q : Int32 → MS → Prop} (hn : S.2.2 1 = nI np) (hnp : np ≤ 12) (h1 : n < 2 ^ np) (h : Q 1 S) : wX2_hasAll S (nI n) Q := by
  unfold wX2_hasAll
  have h2 : 2 ^ np ≤ 2 ^ 12 := Nat.pow_le_pow_right (by omega) hnp
  rw [hn, ushrI (by omega) (by omega), Nat.div_eq_of_lt h1]
  exact ifT rfl h
theorem hasAll_f {S : MS} {np : Nat} {x : Int32} {Q : Int32 → MS → Prop} (hn : S.2.2 1 = nI np) (hnp : np ≤ 12) (h1 : ¬ ∃ n : Nat, n < 2 ^ np ∧ x = nI n) (h : Q 0 S) : wX2_hasAll S x Q := by
  obtain ⟨n, hn2, rfl⟩ := wb_of32 x
  unfold wX2_hasAll
  rw [hn, ushrI hn2 (by omega)]
  refine ifF (fun e => ?_) h
  have := nI_e0' (Nat.lt_of_le_of_lt (Nat.div_le_self _ _) hn2) e
  exact h1 ⟨n, by
    rcases Nat.div_eq_zero_iff.mp this with g | g
    · exact absurd g (Nat.ne_of_gt (Nat.two_pow_pos _))
    · exact g, rfl⟩
theorem rAll {np : Nat} (hnp : np ≤ 12) : (((1 : Int32) <<< (nI np &&& 31)) - 1).toInt64.toInt = ((2 ^ np - 1 : Nat) : Int) := by
  have h2 : 2 ^ np ≤ 2 ^ 12 := Nat.pow_le_pow_right (by omega) hnp
  have h3 := Nat.two_pow_pos np
  rw [shl1 (by omega), nI_s1 h3, nI_64 (by omega)]
theorem two_le {n : Nat} (h : n < 2 ^ 31) : (2 : Int32) ≤ nI n ↔ 2 ≤ n := by rw [show (2 : Int32) = nI 2 from rfl, nI_leI (by omega) h]
theorem group_ok {S M : MS} {a : AS} (ok : OKa a) (hc : aC S a) (hm : aM M a ev0 fo0) {c n : Nat} (hcc : c ≤ 64) (hn : n < 2 ^ a.1 0) (hg : a.1 2 < 4) :
    Inv (uF (uI (uI S 6 (a.1 2) (nI c)) 7 (a.1 2) (nI n)) 2 (nI (a.1 2 + 1))) (uF (uI (uI M 11 (a.1 2) (nI c)) 12 (a.1 2) (nI n)) 2 (nI (a.1 2 + 1))) := by
  generalize hgg : a.1 2 = g at hg ⊢
  generalize ha' : aF (aU (aU a 11 g c) 12 g n) 2 (g + 1) = a'
  have hr : ∀ r, r ≠ 11 → r ≠ 12 → a'.2 r = a.2 r := fun r h1 h2 => by rw [← ha', aF2, aUn _ h2, aUn _ h1]
  have h1 : ∀ r, r ≠ 2 → a'.1 r = a.1 r := fun r h => by rw [← ha', aF1, if_neg h]; rfl
  have h11 : a'.1 2 = g + 1 := by rw [← ha']; rfl
  have e11 : ∀ i, a'.2 11 i = if i = g then c else a.2 11 i := fun i => by rw [← ha']; simp [aF2, aU2]
  have e12 : ∀ i, a'.2 12 i = if i = g then n else a.2 12 i := fun i => by rw [← ha']; simp [aF2, aU2]
  have e14 := hr 14 (by omega) (by omega)
  have e15 := hr 15 (by omega) (by omega)
  have e13 := hr 13 (by omega) (by omega)
  have eb := bel_cong e14 e15
  refine ⟨a', ?_, ?_, ?_⟩
  · refine ⟨by rw [h1 0 (by omega)]; exact ok.hnp, by rw [h1 1 (by omega)]; exact ok.hnb, by rw [h11]; omega, by rw [h1 3 (by omega)]; exact ok.hnv, ?_, ?_, ?_, ?_, ?_, ?_, ?_, ?_, ?_, ?_, ?_⟩
    · rw [h1 0 (by omega), hr 0 (by omega) (by omega), hr 1 (by omega) (by omega), hr 2 (by omega) (by omega)]; exact ok.hsh
    · rw [hr 3 (by omega) (by omega)]; exact ok.hcost
    · rw [h1 0 (by omega), hr 3 (by omega) (by omega)]; exact ok.hcost1
    · rw [hr 4 (by omega) (by omega)]; exact ok.htn
    · rw [h1 0 (by omega), hr 4 (by omega) (by omega)]; exact ok.htn0
    · rw [hr 4 (by omega) (by omega), hr 5 (by omega) (by omega)]; exact ok.hday
    · rw [hr 4 (by omega) (by omega), hr 5 (by omega) (by omega)]; exact ok.hsrt
    · rw [h1 0 (by omega), h1 1 (by omega), hr 8 (by omega) (by omega), hr 9 (by omega) (by omega), hr 10 (by omega) (by omega)]; exact ok.hbyp
    · intro k hk
      rw [h11] at hk
      rw [h1 0 (by omega), e11, e12]
      by_cases e : k = g
      · rw [if_pos e, if_pos e]; exact ⟨hcc, hn⟩
      · rw [if_neg e, if_neg e]; exact ok.hgrp k (by omega)
    · rw [h1 3 (by omega), e13, e14]; exact ok.hvot
    · rw [h1 0 (by omega), h1 3 (by omega), e14, e15]; exact ok.hinp
  · refine ⟨?_, ?_, ?_, ?_, ?_, ?_, ?_, ?_, ?_, ?_, ?_, ?_, ?_, ?_, ?_, ?_, ?_⟩
    · rw [uF22, if_neg (by omega), h1 0 (by omega)]; exact hc.hnp
    · rw [uF22, if_neg (by omega), h1 1 (by omega)]; exact hc.hnb
    · rw [uF22, if_pos rfl, h11]
    · rw [uF22, if_neg (by omega), h1 3 (by omega)]; exact hc.hnv
    · rw [uF1, uI_ne (by omega), uI_ne (by omega), uI_ne (by omega), uI_ne (by omega), uI_ne (by omega), uI_ne (by omega), uI_ne (by omega), uI_ne (by omega), h1 0 (by omega), hr 0 (by omega) (by omega), hr 1 (by omega) (by omega), hr 2 (by omega) (by omega), hr 3 (by omega) (by omega)]; exact hc.hsh
    · rw [uF1, uI_ne (by omega), uI_ne (by omega), hr 4 (by omega) (by omega)]; exact hc.htn
    · rw [uF1, uI_ne (by omega), uI_ne (by omega), hr 5 (by omega) (by omega)]; exact hc.hday
    · intro i; rw [uF1, uI_ne (by omega), uI1, if_pos rfl, e11]
      by_cases e : i = g
      · simp [upd, e]
      · simp [upd, e]; exact hc.hgc i
    · intro i; rw [uF1, uI1, if_pos rfl, e12]
      by_cases e : i = g
      · simp [upd, e]
      · simp [upd, e]; rw [uI_ne (by omega)]; exact hc.hgp i
    · rw [uF1, uI_ne (by omega), uI_ne (by omega), e13]; exact hc.hvk
    · rw [uF1, uI_ne (by omega), uI_ne (by omega), e14]; exact hc.hvn
    · rw [uF1, uI_ne (by omega), uI_ne (by omega), h1 3 (by omega), e14, e15]; exact hc.hvi
    · intro v hv; rw [uF1, uI_ne (by omega), uI_ne (by omega), eb]; rw [h1 3 (by omega)] at hv; exact hc.hbel v hv
    · intro v hv; rw [uF1, uI_ne (by omega), uI_ne (by omega)]; rw [h1 3 (by omega)] at hv; exact hc.hbel0 v hv
    · intro q d hq hd
      rw [byp_cong (h1 1 (by omega)) (hr 8 (by omega) (by omega)) (hr 9 (by omega) (by omega)) (hr 10 (by omega) (by omega))]
      exact hc.hbyp q d hq hd
    · intro v hv hl s hs
      rw [eb] at hl hs
      rw [h1 3 (by omega)] at hv
      rw [eb, act_cong e13 e14 e15]; exact hc.hact v hv hl s hs
    · intro i hi; rw [h1 3 (by omega)] at hi; exact hc.hact0 i hi
  · have hrow : ∀ (r i : Nat), M.1 r i = nI (a.2 r i) → (uF (uI (uI M 11 g (nI c)) 12 g (nI n)) 2 (nI (g + 1))).1 r i = nI (a'.2 r i) := fun r i h => by
      rw [← ha']; exact row_uI (row_uI h)
    refine hm.keep ?_ (fun r i g1 g2 g3 => hrow r i (hm.row r i g1 g2 g3)) ?_ ?_ ?_
    · intro k hk
      rw [uF22]
      split
      · rename_i e; subst e; rw [h11]
      · rename_i e; rw [h1 k e]; exact hm.sc k hk
    · rw [uF1, uI_ne (by omega), uI_ne (by omega)]
    · rw [uF1, uI_ne (by omega), uI_ne (by omega)]
    · intro v j g1 g2
      rw [h1 3 (by omega)] at g1
      rw [e14] at g2
      exact hrow _ _ (hm.hvi v j g1 g2)
theorem op_group : OK_group Inv := by
  intro S M x1 x2 hI
  obtain ⟨a, ok, hc, hm⟩ := id hI
  have hnp := ok.hnp
  have hng := ok.hng
  have h2 : 2 ^ a.1 0 ≤ 2 ^ 12 := Nat.pow_le_pow_right (by omega) ok.hnp
  have h3 := Nat.two_pow_pos (a.1 0)
  unfold wX5_group
  rcases (Classical.em (∃ j : Nat, j ≤ 64 ∧ x1 = nI j)).symm with h1 | ⟨c, hcc, rfl⟩
  · exact isShare_f h1 (br0 (by unfold wX6_group; exact inB_f (N := 64) (by decide) h1 (br0 hI.bad)))
  refine isShare_t hcc (br1 ?_)
  rcases (Classical.em (∃ n : Nat, n < 2 ^ a.1 0 ∧ x2 = nI n)).symm with h1 | ⟨n, hn, rfl⟩
  · refine hasAll_f hc.hnp hnp h1 (br0 ?_)
    unfold wX6_group
    refine inB_t (N := 64) (by decide) (by omega) hcc (br1 ?_)
    rw [hm.hnp]
    exact inB_f (N := 2 ^ a.1 0 - 1) (rAll hnp) (fun ⟨j, hj, e⟩ => h1 ⟨j, by omega, e⟩) (br0 hI.bad)
  refine hasAll_t hc.hnp hnp hn (br1 (cbits_spec (by omega) ?_))
  have hct := fb_ct_le n.testBit 12
  have hR : ∀ {r : Int32} {S1 : MS}, ((2 ≤ fb_ct n.testBit 12 → a.1 2 = 4 → r = -3 ∧ Inv S1 M) ∧ (2 ≤ fb_ct n.testBit 12 → a.1 2 < 4 → r = nI (a.1 2) ∧ Inv S1 (uF (uI (uI M 11 (a.1 2) (nI c)) 12 (a.1 2) (nI n)) 2 (nI (a.1 2 + 1)))) ∧ (¬ 2 ≤ fb_ct n.testBit 12 → r = -1 ∧ Inv S1 M)) → wX6_group M (nI c) (nI n) (fun r1 M1 => r = r1 ∧ Inv S1 M1) := by
    intro r S1 hh
    unfold wX6_group
    refine inB_t (N := 64) (by decide) (by omega) hcc (br1 ?_)
    rw [hm.hnp]
    refine inB_t (N := 2 ^ a.1 0 - 1) (rAll hnp) (by omega) (by omega) (br1 (rbits_spec (by omega) ?_))
    rw [two_le (by omega)]
    refine ⟨fun g => ?_, fun g => hh.2.2 g⟩
    rw [hm.hng]
    refine ⟨fun e => ?_, fun e => ?_⟩
    · rw [show (4 : Int32) = nI 4 from rfl, nI_eq (by omega) (by omega)] at e
      exact hh.1 g e
    · rw [show (4 : Int32) = nI 4 from rfl, nI_eq (by omega) (by omega)] at e
      refine ⟨vp_in_nI (by omega) (by omega), ?_⟩
      rintro _ rfl
      rw [show (uI M 11 (nI (a.1 2)).toNatClampNeg (nI c)).2.2 2 = nI (a.1 2) from hm.hng]
      refine ⟨vp_in_nI (by omega) (by omega), ?_⟩
      rintro _ rfl _ rfl
      rw [show (uI (uI M 11 (nI (a.1 2)).toNatClampNeg (nI c)) 12 (nI (a.1 2)).toNatClampNeg (nI n)).2.2 2 = nI (a.1 2) from hm.hng]
      rw [nI_1, nI_clamp (by omega)]
      have := hh.2.1 g (by omega)
      refine ⟨?_, this.2⟩
      rw [this.1, uF22, if_pos rfl, nI_s1 (by omega)]
      rfl
  rw [two_le (by omega)]
  refine ⟨fun g => ?_, fun g => hR ⟨fun g2 => absurd g2 g, fun g2 => absurd g2 g, fun _ => hI.bad⟩⟩
  unfold wX0_add
  rw [hc.hng]
  refine ⟨fun e => ?_, fun e => ?_⟩
  · rw [show (4 : Int32) = nI 4 from rfl, nI_ltI (by omega) (by omega)] at e
    refine ⟨vp_in_nI (by omega) (by omega), ?_⟩
    rintro _ rfl
    rw [show (uI S 6 (nI (a.1 2)).toNatClampNeg (nI c)).2.2 2 = nI (a.1 2) from hc.hng]
    refine ⟨vp_in_nI (by omega) (by omega), ?_⟩
    rintro _ rfl _ rfl
    rw [show (uI (uI S 6 (nI (a.1 2)).toNatClampNeg (nI c)) 7 (nI (a.1 2)).toNatClampNeg (nI n)).2.2 2 = nI (a.1 2) from hc.hng]
    rw [nI_1, nI_clamp (by omega), uF22, if_pos rfl, nI_s1 (by omega)]
    exact hR ⟨fun _ e2 => absurd e2 (by omega), fun _ _ => ⟨rfl, group_ok ok hc hm hcc hn e⟩, fun g2 => absurd g g2⟩
  · rw [show (4 : Int32) = nI 4 from rfl, nI_ltI (by omega) (by omega)] at e
    exact hR ⟨fun _ _ => hI.bad, fun _ e2 => absurd e2 e, fun g2 => absurd g g2⟩
