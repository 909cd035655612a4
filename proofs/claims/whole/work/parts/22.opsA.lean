/-! PURE SIDE: updates, and the calls that add parts and tests -/
theorem uI1 (S : MS) (k n : Nat) (v : Int32) (r : Nat) : (uI S k n v).1 r = if r = k then upd (S.1 r) n v else S.1 r := rfl
theorem uI2 (S : MS) (k n : Nat) (v : Int32) : (uI S k n v).2 = S.2 := rfl
theorem uF1 (S : MS) (k : Nat) (v : Int32) : (uF S k v).1 = S.1 := rfl
theorem uF21 (S : MS) (k : Nat) (v : Int32) : (uF S k v).2.1 = S.2.1 := rfl
theorem uF22 (S : MS) (k : Nat) (v : Int32) (r : Nat) : (uF S k v).2.2 r = if r = k then v else S.2.2 r := rfl
theorem uL1 (S : MS) (k n : Nat) (v : Int64) : (uL S k n v).1 = S.1 := rfl
theorem uL21 (S : MS) (k n : Nat) (v : Int64) (r : Nat) : (uL S k n v).2.1 r = if r = k then vp_updL (S.2.1 r) n v else S.2.1 r := rfl
theorem uL22 (S : MS) (k n : Nat) (v : Int64) : (uL S k n v).2.2 = S.2.2 := rfl
def aU (a : AS) (k i v : Nat) : AS := (a.1, fun r j => if r = k ∧ j = i then v else a.2 r j)
def aF (a : AS) (k v : Nat) : AS := (fun r => if r = k then v else a.1 r, a.2)
theorem aU1 (a : AS) (k i v : Nat) : (aU a k i v).1 = a.1 := rfl
theorem aU2 (a : AS) (k i v r j : Nat) : (aU a k i v).2 r j = if r = k ∧ j = i then v else a.2 r j := rfl
theorem aF1 (a : AS) (k v r : Nat) : (aF a k v).1 r = if r = k then v else a.1 r := rfl
theorem aF2 (a : AS) (k v : Nat) : (aF a k v).2 = a.2 := rfl
theorem aUn (a : AS) {k i v r : Nat} (h : r ≠ k) : (aU a k i v).2 r = a.2 r := by funext j; simp [aU2, h]
theorem row_uI {M : MS} {a : AS} {r k n i v : Nat} (h : M.1 r i = nI (a.2 r i)) : (uI M k n (nI v)).1 r i = nI ((aU a k n v).2 r i) := by
  rw [uI1, aU2]
  by_cases hr : r = k
  · subst hr
    by_cases hi : i = n
    · subst hi; simp [upd]
    · simp [upd, hi, h]
  · simp [hr, h]
theorem uI_ne {S : MS} {k n r : Nat} {v : Int32} (h : r ≠ k) : (uI S k n v).1 r = S.1 r := by rw [uI1, if_neg h]
theorem uI_nei {S : MS} {k n r i : Nat} {v : Int32} (h : i ≠ n) : (uI S k n v).1 r i = S.1 r i := by
  rw [uI1]; split
  · rename_i hr; subst hr; simp [upd, h]
  · rfl
theorem uI_at {S : MS} {k n : Nat} {v : Int32} : (uI S k n v).1 k n = v := by simp [uI1, upd]
theorem inB_cong {a a' : AS} (h15 : a'.2 15 = a.2 15) (f : Nat → Nat) (v : Nat) : ∀ j, inB a' f v j = inB a f v j
  | 0 => rfl
  | j + 1 => by unfold inB; rw [inB_cong h15 f v j, h15]
theorem belT_cong {a a' : AS} (h14 : a'.2 14 = a.2 14) (h15 : a'.2 15 = a.2 15) : ∀ m, belT a' m = belT a m
  | 0 => rfl
  | m + 1 => by
    funext v
    unfold belT
    rw [belT_cong h14 h15 m, h14, inB_cong h15]
theorem bel_cong {a a' : AS} (h14 : a'.2 14 = a.2 14) (h15 : a'.2 15 = a.2 15) (v : Nat) : bel a' v = bel a v := by
  unfold bel; rw [belT_cong h14 h15]
theorem inA_cong {a a' : AS} (h15 : a'.2 15 = a.2 15) (f A : Nat → Bool) (v : Nat) : ∀ j, inA a' f A v j = inA a f A v j
  | 0 => rfl
  | j + 1 => by unfold inA; rw [inA_cong h15 f A v j, h15]
theorem actT_cong {a a' : AS} (h13 : a'.2 13 = a.2 13) (h14 : a'.2 14 = a.2 14) (h15 : a'.2 15 = a.2 15) (A : Nat → Bool) : ∀ m, actT a' A m = actT a A m
  | 0 => rfl
  | m + 1 => by
    funext v
    unfold actT
    rw [actT_cong h13 h14 h15 A m, h13, h14, inA_cong h15]
theorem act_cong {a a' : AS} (h13 : a'.2 13 = a.2 13) (h14 : a'.2 14 = a.2 14) (h15 : a'.2 15 = a.2 15) (v : Nat) (A : Nat → Bool) : act a' v A = act a v A := by
  unfold act; rw [actT_cong h13 h14 h15]
theorem bypN_cong {a a' : AS} (h8 : a'.2 8 = a.2 8) (h9 : a'.2 9 = a.2 9) (h10 : a'.2 10 = a.2 10) (p d : Nat) : ∀ k, bypN a' p d k = bypN a p d k
  | 0 => rfl
  | k + 1 => by unfold bypN; rw [bypN_cong h8 h9 h10 p d k, h8, h9, h10]
theorem byp_cong {a a' : AS} (h1 : a'.1 1 = a.1 1) (h8 : a'.2 8 = a.2 8) (h9 : a'.2 9 = a.2 9) (h10 : a'.2 10 = a.2 10) (p d : Nat) : byp a' p d = byp a p d := by
  unfold byp; rw [h1, bypN_cong h8 h9 h10]
/-- votes, groups and bypasses are the same, and so is what the component holds of them -/
theorem aC.keep {S S' : MS} {a a' : AS} (h : aC S a) (hb : S'.2.2 0 = S.2.2 0) (hg : S'.2.2 2 = S.2.2 2) (hv : S'.2.2 3 = S.2.2 3) (h2 : S'.2.1 = S.2.1) (hr : ∀ r, 6 ≤ r → r ≤ 11 → S'.1 r = S.1 r) (ha : ∀ r, 8 ≤ r → r ≤ 15 → a'.2 r = a.2 r) (ha1 : ∀ r, 1 ≤ r → r ≤ 3 → a'.1 r = a.1 r)
    (hnp : S'.2.2 1 = nI (a'.1 0)) (hsh : ∀ p, p < a'.1 0 → S'.1 0 p = nI (a'.2 0 p) ∧ S'.1 1 p = nI (a'.2 1 p) ∧ S'.1 2 p = nI (a'.2 2 p) ∧ S'.1 3 p = nI (a'.2 3 p)) (htn : ∀ i, S'.1 4 i = nI (a'.2 4 i)) (hday : ∀ i, S'.1 5 i = nI (a'.2 5 i)) : aC S' a' := by
  have e14 := ha 14 (by omega) (by omega)
  have e15 := ha 15 (by omega) (by omega)
  have e13 := ha 13 (by omega) (by omega)
  have e3 := ha1 3 (by omega) (by omega)
  refine ⟨hnp, ?_, ?_, ?_, hsh, htn, hday, ?_, ?_, ?_, ?_, ?_, ?_, ?_, ?_, ?_, ?_⟩
  · rw [hb, ha1 1 (by omega) (by omega)]; exact h.hnb
  · rw [hg, ha1 2 (by omega) (by omega)]; exact h.hng
  · rw [hv, e3]; exact h.hnv
  · intro i; rw [hr 6 (by omega) (by omega), ha 11 (by omega) (by omega)]; exact h.hgc i
  · intro i; rw [hr 7 (by omega) (by omega), ha 12 (by omega) (by omega)]; exact h.hgp i
  · intro i; rw [hr 8 (by omega) (by omega), e13]; exact h.hvk i
  · intro i; rw [hr 9 (by omega) (by omega), e14]; exact h.hvn i
  · intro v j g1 g2; rw [hr 10 (by omega) (by omega), e15]; rw [e3] at g1; rw [e14] at g2; exact h.hvi v j g1 g2
  · intro v g1; rw [hr 11 (by omega) (by omega), bel_cong e14 e15]; rw [e3] at g1; exact h.hbel v g1
  · intro v g1; rw [hr 11 (by omega) (by omega)]; rw [e3] at g1; exact h.hbel0 v g1
  · intro p d g1 g2; rw [h2, byp_cong (ha1 1 (by omega) (by omega)) (ha 8 (by omega) (by omega)) (ha 9 (by omega) (by omega)) (ha 10 (by omega) (by omega))]; exact h.hbyp p d g1 g2
  · intro v g1 g2 s g3
    rw [bel_cong e14 e15] at g2 g3
    rw [h2, bel_cong e14 e15, act_cong e13 e14 e15]; rw [e3] at g1; exact h.hact v g1 g2 s g3
  · intro i g1; rw [h2]; rw [e3] at g1; exact h.hact0 i g1
theorem vpn {n N : Nat} {x : Int32} (hx : x = nI n) (h : n < N) (hN : N < 2 ^ 31) : vp_in x N := by rw [hx]; exact vp_in_nI h hN
theorem clp {n : Nat} {x : Int32} (hx : x = nI n) (h : n < 2 ^ 31) : x.toNatClampNeg = n := by rw [hx]; exact nI_clamp h
theorem Inv.bad {S M : MS} (h : Inv S M) {r : Int32} : r = r ∧ Inv S M := ⟨rfl, h⟩
theorem op_part : OK_part Inv := by
  intro S M x1 x2 x3 hI
  unfold wX5_part
  rcases (Classical.em (∃ j : Nat, j ≤ 64 ∧ x1 = nI j)).symm with h1 | ⟨b, hb, rfl⟩
  · exact isShare_f h1 (br0 (by unfold wX6_part; exact inB_f (N := 64) (by decide) h1 (br0 hI.bad)))
  refine isShare_t hb (br1 ?_)
  rcases (Classical.em (∃ j : Nat, j ≤ 64 ∧ x2 = nI j)).symm with h2 | ⟨d, hd, rfl⟩
  · exact isShare_f h2 (br0 (by unfold wX6_part; exact inB_t (N := 64) (by decide) (by omega) hb (br1 (inB_f (N := 64) (by decide) h2 (br0 hI.bad)))))
  refine isShare_t hd (br1 ?_)
  rcases (Classical.em (∃ j : Nat, j ≤ 64 ∧ x3 = nI j)).symm with h3 | ⟨z, hz, rfl⟩
  · exact isShare_f h3 (br0 (by unfold wX6_part; exact inB_t (N := 64) (by decide) (by omega) hb (br1 (inB_t (N := 64) (by decide) (by omega) hd (br1 (inB_f (N := 64) (by decide) h3 (br0 hI.bad)))))))
  refine isShare_t hz (br1 ?_)
  obtain ⟨a, ok, hc, hm⟩ := id hI
  have hnp := ok.hnp
  have e1 := hc.hnp
  have e0 := hm.hnp
  generalize hn : a.1 0 = n at hnp e1 e0
  unfold wX2_add
  rw [e1]
  refine ⟨fun hlt => ?_, fun hge => ?_⟩
  · rw [show (12 : Int32) = nI 12 from rfl, nI_ltI (by omega) (by omega)] at hlt
    refine ⟨vp_in_nI hlt (by omega), ?_⟩
    rintro _ rfl
    rw [show (uI S 0 (nI n).toNatClampNeg (nI b)).2.2 1 = nI n from e1]
    refine ⟨vp_in_nI hlt (by omega), ?_⟩
    rintro _ rfl
    rw [show (uI (uI S 0 (nI n).toNatClampNeg (nI b)) 1 (nI n).toNatClampNeg (nI d)).2.2 1 = nI n from e1]
    refine ⟨vp_in_nI hlt (by omega), ?_⟩
    rintro _ rfl
    rw [show (uI (uI (uI S 0 (nI n).toNatClampNeg (nI b)) 1 (nI n).toNatClampNeg (nI d)) 2 (nI n).toNatClampNeg (nI z)).2.2 1 = nI n from e1]
    refine ⟨vp_in_nI hlt (by omega), ?_⟩
    rintro _ rfl
    rintro _ rfl
    rw [show (uI (uI (uI (uI S 0 (nI n).toNatClampNeg (nI b)) 1 (nI n).toNatClampNeg (nI d)) 2 (nI n).toNatClampNeg (nI z)) 3 (nI n).toNatClampNeg 1).2.2 1 = nI n from e1]
    rw [nI_clamp (by omega)]
    unfold wX6_part
    refine inB_t (N := 64) (by decide) (by omega) hb (br1 (inB_t (N := 64) (by decide) (by omega) hd (br1 (inB_t (N := 64) (by decide) (by omega) hz (br1 ?_)))))
    rw [e0]
    refine ifF (by rw [show (12 : Int32) = nI 12 from rfl, nI_eq (by omega) (by omega)]; omega) ?_
    refine ⟨vp_in_nI hlt (by omega), ?_⟩
    rintro _ rfl
    rw [show (uI M 0 (nI n).toNatClampNeg (nI b)).2.2 0 = nI n from e0]
    refine ⟨vp_in_nI hlt (by omega), ?_⟩
    rintro _ rfl
    rw [show (uI (uI M 0 (nI n).toNatClampNeg (nI b)) 1 (nI n).toNatClampNeg (nI d)).2.2 0 = nI n from e0]
    refine ⟨vp_in_nI hlt (by omega), ?_⟩
    rintro _ rfl
    rintro _ rfl
    rw [show (uI (uI (uI M 0 (nI n).toNatClampNeg (nI b)) 1 (nI n).toNatClampNeg (nI d)) 2 (nI n).toNatClampNeg (nI z)).2.2 0 = nI n from e0]
    rw [nI_clamp (by omega)]
    refine ⟨rfl, aF (aU (aU (aU a 0 n b) 1 n d) 2 n z) 0 (n + 1), ?_, ?_, ?_⟩
    · have hot : ∀ r, 3 ≤ r → (aF (aU (aU (aU a 0 n b) 1 n d) 2 n z) 0 (n + 1)).2 r = a.2 r := fun r hr => by
        rw [aF2, aUn _ (by omega), aUn _ (by omega), aUn _ (by omega)]
      have ho1 : ∀ r, 1 ≤ r → (aF (aU (aU (aU a 0 n b) 1 n d) 2 n z) 0 (n + 1)).1 r = a.1 r := fun r hr => by
        rw [aF1, if_neg (by omega)]; rfl
      have ho0 : (aF (aU (aU (aU a 0 n b) 1 n d) 2 n z) 0 (n + 1)).1 0 = n + 1 := rfl
      refine ⟨by rw [ho0]; omega, by rw [ho1 1 (by omega)]; exact ok.hnb, by rw [ho1 2 (by omega)]; exact ok.hng, by rw [ho1 3 (by omega)]; exact ok.hnv, ?_, ?_, ?_, ?_, ?_, ?_, ?_, ?_, ?_, ?_, ?_⟩
      · intro p hp
        rw [ho0] at hp
        simp only [aF2, aU2]
        by_cases hpn : p = n
        · subst hpn; simp; omega
        · have := ok.hsh p (by omega)
          simp [hpn]; omega
      · intro p; rw [hot 3 (by omega)]; exact ok.hcost p
      · intro p g1 g2; rw [hot 3 (by omega)]; rw [ho0] at g1; exact ok.hcost1 p (by omega) g2
      · intro p; rw [hot 4 (by omega)]; exact ok.htn p
      · intro p g1; rw [hot 4 (by omega)]; rw [ho0] at g1; exact ok.htn0 p (by omega)
      · intro p i g1 g2; rw [hot 5 (by omega)]; rw [hot 4 (by omega)] at g2; exact ok.hday p i g1 g2
      · intro p i g1 g2; rw [hot 5 (by omega)]; rw [hot 4 (by omega)] at g2; exact ok.hsrt p i g1 g2
      · intro k g1; rw [hot 8 (by omega), hot 9 (by omega), hot 10 (by omega), ho0]; rw [ho1 1 (by omega)] at g1; have := ok.hbyp k g1; omega
      · intro k g1; rw [hot 11 (by omega), hot 12 (by omega), ho0]; rw [ho1 2 (by omega)] at g1; have := ok.hgrp k g1; rw [hn] at this; exact ⟨this.1, Nat.lt_trans this.2 (Nat.pow_lt_pow_right (by omega) (by omega))⟩
      · intro v g1; rw [hot 13 (by omega), hot 14 (by omega)]; rw [ho1 3 (by omega)] at g1; exact ok.hvot v g1
      · intro v j g1 g2; rw [hot 15 (by omega), ho0]; rw [ho1 3 (by omega)] at g1; rw [hot 14 (by omega)] at g2; have := ok.hinp v j g1 g2; omega
    · refine hc.keep rfl rfl rfl rfl (fun r h1 h2 => ?_) (fun r h1 h2 => ?_) (fun r h1 h2 => ?_) ?_ ?_ ?_ ?_
      · rw [uF1, uI_ne (by omega), uI_ne (by omega), uI_ne (by omega), uI_ne (by omega)]
      · rw [aF2, aUn _ (by omega), aUn _ (by omega), aUn _ (by omega)]
      · rw [aF1, if_neg (by omega)]; rfl
      · exact nI_1 n
      · intro p hp
        have hp : p < n + 1 := hp
        rw [uF1]
        by_cases hpn : p = n
        · subst hpn
          have h31 := ok.hcost1 p (by omega) (by omega)
          simp [uI1, upd, aF2, aU2, h31]
          rfl
        · have := hc.hsh p (by omega)
          simp [uI1, upd, aF2, aU2, hpn, this]
      · intro i; simp [uI1, uF1, aF2, aU2, hc.htn i]
      · intro i; simp [uI1, uF1, aF2, aU2, hc.hday i]
    · have hr : ∀ (r i : Nat), M.1 r i = nI (a.2 r i) → (uF (uI (uI (uI M 0 n (nI b)) 1 n (nI d)) 2 n (nI z)) 0 (nI n + 1)).1 r i = nI ((aF (aU (aU (aU a 0 n b) 1 n d) 2 n z) 0 (n + 1)).2 r i) := fun r i h => row_uI (row_uI (row_uI h))
      have hz : ∀ r, 3 ≤ r → (uF (uI (uI (uI M 0 n (nI b)) 1 n (nI d)) 2 n (nI z)) 0 (nI n + 1)).1 r = M.1 r := fun r h => by
        rw [uF1, uI_ne (by omega), uI_ne (by omega), uI_ne (by omega)]
      refine ⟨nI_1 n, hm.hnb, hm.hng, hm.hnv, fun i => hr _ _ (hm.hb i), fun i => hr _ _ (hm.ha i), fun i => hr _ _ (hm.hz i), fun i => hr _ _ (hm.hc i), fun i => hr _ _ (hm.htn i), fun i => hr _ _ (hm.hday i), ?_, ?_, fun i => hr _ _ (hm.hbp i), fun i => hr _ _ (hm.hbx i), fun i => hr _ _ (hm.hby i), fun i => hr _ _ (hm.hgc i), fun i => hr _ _ (hm.hgp i), fun i => hr _ _ (hm.hvk i), fun i => hr _ _ (hm.hvn i), ?_⟩
      · intro i hi; rw [hz 6 (by omega)]; exact hm.hev i hi
      · intro i hi; rw [hz 7 (by omega)]; exact hm.hfo i hi
      · intro v j g1 g2; exact hr _ _ (hm.hvi v j g1 (by simpa [aF2, aU2] using g2))
  · rw [show (12 : Int32) = nI 12 from rfl, nI_ltI (by omega) (by omega)] at hge
    unfold wX6_part
    refine inB_t (N := 64) (by decide) (by omega) hb (br1 (inB_t (N := 64) (by decide) (by omega) hd (br1 (inB_t (N := 64) (by decide) (by omega) hz (br1 ?_)))))
    rw [e0]
    have : n = 12 := by omega
    subst this
    exact ifT rfl hI.bad
