/-! PURE SIDE: bypass -/
theorem shlL {n k : Nat} (hk : k < 64) : jlshl (lN n) (nI k) = lN (n * 2 ^ k) := by unfold jlshl; exact wb_shl n hk
theorem shrL {n k : Nat} (hn : n < 2 ^ 64) (hk : k < 64) : jlushr (lN n) (nI k) = lN (n / 2 ^ k) := by unfold jlushr; exact wb_shr hn hk
theorem m1L : (-1 : Int64) = lN (2 ^ 64 - 1) := by decide
theorem mask_bit {s t j : Nat} (hs : s < 64) (ht : t < 64) (hj : j < 64) : bitL (jlshl (-1) (nI s) &&& jlushr (-1) (nI t)) j = decide (s ≤ j ∧ j + t < 64) := by
  rw [bitL_and, m1L, shlL hs, shrL (by omega) ht, bitL_lN hj, bitL_lN hj, ← Nat.shiftLeft_eq, Nat.testBit_shiftLeft, Nat.testBit_two_pow_sub_one, Nat.testBit_div_two_pow, Nat.testBit_two_pow_sub_one]
  rw [Bool.eq_iff_iff]
  simp
  omega
theorem daysInWord_spec {S : MS} {w x y : Nat} {Q : Int64 → MS → Prop} (hw : w < 16) (hy : y ≤ 999) (hxy : x ≤ y) (h : ∀ r : Int64, (∀ j, j < 64 → bitL r j = decide (x ≤ 64 * w + j ∧ 64 * w + j ≤ y)) → Q r S) : wX2_daysInWord S (nI w) (nI x) (nI y) Q := by
  unfold wX2_daysInWord
  rw [show nI w * 64 = nI (w * 64) from pk_mul w 64]
  have h1 : (nI x - nI (w * 64)).toInt = (x : Int) - (w * 64 : Nat) := pk_sub_toInt (by omega) (by omega)
  have h2 : (nI y - nI (w * 64)).toInt = (y : Int) - (w * 64 : Nat) := pk_sub_toInt (by omega) (by omega)
  rintro _ rfl _ rfl
  have e1 : (if nI x - nI (w * 64) < 0 then (0 : Int32) else nI x - nI (w * 64)) = nI (x - w * 64) := by
    split
    · rename_i g; rw [i32_lt, h1] at g
      have g : (x : Int) - (w * 64 : Nat) < 0 := g
      rw [show x - w * 64 = 0 by omega]; rfl
    · rename_i g; rw [i32_lt, h1] at g
      have g : ¬ (x : Int) - (w * 64 : Nat) < 0 := g
      exact pk_sub (by omega)
  rw [e1]
  by_cases gy : y < w * 64
  · -- the word is behind
    have e2 : (if 63 < nI y - nI (w * 64) then (63 : Int32) else nI y - nI (w * 64)) = nI y - nI (w * 64) := by
      rw [if_neg]
      rw [i32_lt, h2]
      show ¬ (63 : Int) < _
      omega
    rw [e2]
    refine ifF (by rw [i32_le, h2, nI_toInt (by omega)]; omega) (h 0 (fun j hj => ?_))
    rw [bitL_0]; symm; rw [decide_eq_false_iff_not]; omega
  · have e2 : (if 63 < nI y - nI (w * 64) then (63 : Int32) else nI y - nI (w * 64)) = nI (min 63 (y - w * 64)) := by
      split
      · rename_i g; rw [i32_lt, h2] at g
        have g : (63 : Int) < (y : Int) - (w * 64 : Nat) := g
        rw [Nat.min_eq_left (by omega)]; rfl
      · rename_i g; rw [i32_lt, h2] at g
        have g : ¬ (63 : Int) < (y : Int) - (w * 64 : Nat) := g
        rw [Nat.min_eq_right (by omega)]; exact pk_sub (by omega)
    rw [e2, nI_leI (by omega) (by omega)]
    refine ⟨fun g => h _ (fun j hj => ?_), fun g => h 0 (fun j hj => ?_)⟩
    · rw [show (63 : Int32) - nI (min 63 (y - w * 64)) = nI (63 - min 63 (y - w * 64)) from pk_sub (a := 63) (by omega), mask_bit (by omega) (by omega) hj, decide_eq_decide]
      omega
    · rw [bitL_0]; symm; rw [decide_eq_false_iff_not]; omega
/-- the words of a part are filled up to word w -/
def fillB (S S' : MS) (p x y w : Nat) : Prop := S'.1 = S.1 ∧ S'.2.2 = S.2.2 ∧ S'.2.1 1 = S.2.1 1 ∧
  ∀ q j, j < 64 → bitL (S'.2.1 0 q) j = (bitL (S.2.1 0 q) j || (decide (16 * p ≤ q ∧ q < 16 * p + w) && decide (x ≤ 64 * (q - 16 * p) + j ∧ 64 * (q - 16 * p) + j ≤ y)))
theorem addBypass_loop {S : MS} {p x y : Nat} {K : MS → Prop} {Q : Int32 → MS → Prop} (hp : p < 12) (hy : y ≤ 999) (hxy : x ≤ y) (h : ∀ S', fillB S S' p x y 16 → K S') :
    ∀ (r w : Nat) (S' : MS), w + r = 16 → fillB S S' p x y w → LX2_addBypass_15 (nI p) (nI x) (nI y) K Q (r + 1) S' (nI w) := by
  intro r
  induction r with
  | zero =>
    intro w S' hw hf
    have : w = 16 := by omega
    subst this
    rw [LX2_addBypass_15]
    exact ifT (by decide) (h S' hf)
  | succ r ih =>
    intro w S' hw hf
    rw [LX2_addBypass_15]
    refine ifF (by rw [show (16 : Int32) = nI 16 from rfl, nI_leI (by omega) (by omega)]; omega) ?_
    rw [show nI p * 16 + nI w = nI (16 * p + w) from ixm p w 16]
    refine ⟨vp_in_nI (by omega) (by omega), daysInWord_spec (by omega) hy hxy (fun d hd => ⟨vp_in_nI (by omega) (by omega), ?_⟩)⟩
    rintro _ rfl
    rw [nI_clamp (by omega), nI_1]
    refine ih (w + 1) _ (by omega) ?_
    obtain ⟨f1, f2, f3, f4⟩ := hf
    refine ⟨f1, f2, by rw [uL21, if_neg (by omega)]; exact f3, ?_⟩
    intro q j hj
    rw [uL21, if_pos rfl]
    by_cases hq : q = 16 * p + w
    · subst hq
      rw [show vp_updL (S'.2.1 0) (16 * p + w) (S'.2.1 0 (16 * p + w) ||| d) (16 * p + w) = S'.2.1 0 (16 * p + w) ||| d by simp [vp_updL], bitL_or, f4 _ _ hj, hd j hj]
      rw [show decide (16 * p ≤ 16 * p + w ∧ 16 * p + w < 16 * p + w) = false by simp, show decide (16 * p ≤ 16 * p + w ∧ 16 * p + w < 16 * p + (w + 1)) = true by simp, Bool.false_and, Bool.or_false, Bool.true_and]
      rw [show 16 * p + w - 16 * p = w by omega]
    · rw [show vp_updL (S'.2.1 0) (16 * p + w) (S'.2.1 0 (16 * p + w) ||| d) q = S'.2.1 0 q by simp [vp_updL, hq], f4 _ _ hj]
      congr 2
      rw [decide_eq_decide]
      omega
theorem bypN_ext {a a' : AS} (p d : Nat) : ∀ k, (∀ i, i < k → a'.2 8 i = a.2 8 i ∧ a'.2 9 i = a.2 9 i ∧ a'.2 10 i = a.2 10 i) → bypN a' p d k = bypN a p d k
  | 0, _ => rfl
  | k + 1, h => by
    unfold bypN
    have := h k (by omega)
    rw [bypN_ext p d k (fun i hi => h i (by omega)), this.1, this.2.1, this.2.2]
theorem bypass_ok {S M S' : MS} {a : AS} (ok : OKa a) (hc : aC S a) (hm : aM M a ev0 fo0) {p x y : Nat} (hp : p < a.1 0) (hy : y ≤ 999) (hxy : x ≤ y) (hb : a.1 1 < 20) (hf : fillB S S' p x y 16) :
    Inv (uF S' 0 (nI (a.1 1 + 1))) (uF (uI (uI (uI M 8 (a.1 1) (nI p)) 9 (a.1 1) (nI x)) 10 (a.1 1) (nI y)) 1 (nI (a.1 1 + 1))) := by
  have hnp := ok.hnp
  obtain ⟨f1, f2, f3, f4⟩ := hf
  generalize hn : a.1 1 = n at hb ⊢
  generalize ha' : aF (aU (aU (aU a 8 n p) 9 n x) 10 n y) 1 (n + 1) = a'
  have hr : ∀ r, r ≠ 8 → r ≠ 9 → r ≠ 10 → a'.2 r = a.2 r := fun r h1 h2 h3 => by
    rw [← ha', aF2, aUn _ h3, aUn _ h2, aUn _ h1]
  have h1 : ∀ r, r ≠ 1 → a'.1 r = a.1 r := fun r h => by rw [← ha', aF1, if_neg h]; rfl
  have h11 : a'.1 1 = n + 1 := by rw [← ha']; rfl
  have e8 : ∀ i, a'.2 8 i = if i = n then p else a.2 8 i := fun i => by rw [← ha']; simp [aF2, aU2]
  have e9 : ∀ i, a'.2 9 i = if i = n then x else a.2 9 i := fun i => by rw [← ha']; simp [aF2, aU2]
  have e10 : ∀ i, a'.2 10 i = if i = n then y else a.2 10 i := fun i => by rw [← ha']; simp [aF2, aU2]
  refine ⟨a', ?_, ?_, ?_⟩
  · refine ⟨by rw [h1 0 (by omega)]; exact ok.hnp, by rw [h11]; omega, by rw [h1 2 (by omega)]; exact ok.hng, by rw [h1 3 (by omega)]; exact ok.hnv, ?_, ?_, ?_, ?_, ?_, ?_, ?_, ?_, ?_, ?_, ?_⟩
    · rw [h1 0 (by omega), hr 0 (by omega) (by omega) (by omega), hr 1 (by omega) (by omega) (by omega), hr 2 (by omega) (by omega) (by omega)]; exact ok.hsh
    · rw [hr 3 (by omega) (by omega) (by omega)]; exact ok.hcost
    · rw [h1 0 (by omega), hr 3 (by omega) (by omega) (by omega)]; exact ok.hcost1
    · rw [hr 4 (by omega) (by omega) (by omega)]; exact ok.htn
    · rw [h1 0 (by omega), hr 4 (by omega) (by omega) (by omega)]; exact ok.htn0
    · rw [hr 4 (by omega) (by omega) (by omega), hr 5 (by omega) (by omega) (by omega)]; exact ok.hday
    · rw [hr 4 (by omega) (by omega) (by omega), hr 5 (by omega) (by omega) (by omega)]; exact ok.hsrt
    · intro k hk
      rw [h11] at hk
      rw [h1 0 (by omega), e8, e9, e10]
      by_cases e : k = n
      · rw [if_pos e, if_pos e, if_pos e]; exact ⟨hp, hxy, hy⟩
      · rw [if_neg e, if_neg e, if_neg e]; exact ok.hbyp k (by omega)
    · rw [h1 0 (by omega), h1 2 (by omega), hr 11 (by omega) (by omega) (by omega), hr 12 (by omega) (by omega) (by omega)]; exact ok.hgrp
    · rw [h1 3 (by omega), hr 13 (by omega) (by omega) (by omega), hr 14 (by omega) (by omega) (by omega)]; exact ok.hvot
    · rw [h1 0 (by omega), h1 3 (by omega), hr 14 (by omega) (by omega) (by omega), hr 15 (by omega) (by omega) (by omega)]; exact ok.hinp
  · have e14 := hr 14 (by omega) (by omega) (by omega)
    have e15 := hr 15 (by omega) (by omega) (by omega)
    have e13 := hr 13 (by omega) (by omega) (by omega)
    have eb := bel_cong e14 e15
    refine ⟨?_, ?_, ?_, ?_, ?_, ?_, ?_, ?_, ?_, ?_, ?_, ?_, ?_, ?_, ?_, ?_, ?_⟩
    · rw [uF22, if_neg (by omega), f2, h1 0 (by omega)]; exact hc.hnp
    · rw [uF22, if_pos rfl, h11]
    · rw [uF22, if_neg (by omega), f2, h1 2 (by omega)]; exact hc.hng
    · rw [uF22, if_neg (by omega), f2, h1 3 (by omega)]; exact hc.hnv
    · rw [uF1, f1, h1 0 (by omega), hr 0 (by omega) (by omega) (by omega), hr 1 (by omega) (by omega) (by omega), hr 2 (by omega) (by omega) (by omega), hr 3 (by omega) (by omega) (by omega)]; exact hc.hsh
    · rw [uF1, f1, hr 4 (by omega) (by omega) (by omega)]; exact hc.htn
    · rw [uF1, f1, hr 5 (by omega) (by omega) (by omega)]; exact hc.hday
    · rw [uF1, f1, hr 11 (by omega) (by omega) (by omega)]; exact hc.hgc
    · rw [uF1, f1, hr 12 (by omega) (by omega) (by omega)]; exact hc.hgp
    · rw [uF1, f1, e13]; exact hc.hvk
    · rw [uF1, f1, e14]; exact hc.hvn
    · rw [uF1, f1, h1 3 (by omega), e14, e15]; exact hc.hvi
    · intro v hv; rw [uF1, f1, eb]; rw [h1 3 (by omega)] at hv; exact hc.hbel v hv
    · intro v hv; rw [uF1, f1]; rw [h1 3 (by omega)] at hv; exact hc.hbel0 v hv
    · intro q d hq hd
      rw [uF21, f4 _ _ (Nat.mod_lt _ (by omega)), hc.hbyp q d hq hd]
      unfold byp
      rw [h11, hn]
      show _ = (bypN a' q d n || (a'.2 8 n == q && decide (a'.2 9 n ≤ d ∧ d ≤ a'.2 10 n)))
      rw [bypN_ext q d n (fun i hi => by rw [e8, e9, e10, if_neg (by omega), if_neg (by omega), if_neg (by omega)]; exact ⟨rfl, rfl, rfl⟩), e8, e9, e10, if_pos rfl, if_pos rfl, if_pos rfl]
      congr 1
      rw [Bool.eq_iff_iff]
      simp
      omega
    · intro v hv hl s hs
      rw [eb] at hl hs
      rw [h1 3 (by omega)] at hv
      rw [uF21, f3, eb, act_cong e13 e14 e15]; exact hc.hact v hv hl s hs
    · intro i hi; rw [uF21, f3]; rw [h1 3 (by omega)] at hi; exact hc.hact0 i hi
  · have hrow : ∀ (r i : Nat), M.1 r i = nI (a.2 r i) → (uF (uI (uI (uI M 8 n (nI p)) 9 n (nI x)) 10 n (nI y)) 1 (nI (n + 1))).1 r i = nI (a'.2 r i) := fun r i h => by
      rw [← ha']; exact row_uI (row_uI (row_uI h))
    refine hm.keep ?_ (fun r i g1 g2 g3 => hrow r i (hm.row r i g1 g2 g3)) ?_ ?_ ?_
    · intro k hk
      rw [uF22]
      split
      · rename_i e; subst e; rw [h11]
      · rename_i e; rw [h1 k e]; exact hm.sc k hk
    · rw [uF1, uI_ne (by omega), uI_ne (by omega), uI_ne (by omega)]
    · rw [uF1, uI_ne (by omega), uI_ne (by omega), uI_ne (by omega)]
    · intro v j g1 g2
      rw [h1 3 (by omega)] at g1
      rw [hr 14 (by omega) (by omega) (by omega)] at g2
      exact hrow _ _ (hm.hvi v j g1 g2)
theorem op_bypass : OK_bypass Inv := by
  intro S M x1 x2 x3 hI
  obtain ⟨a, ok, hc, hm⟩ := id hI
  have hnp := ok.hnp
  have hnb := ok.hnb
  unfold wX5_bypass
  rcases (Classical.em (∃ p : Nat, p < a.1 0 ∧ x1 = nI p)).symm with h1 | ⟨p, hp, rfl⟩
  · exact has_f hc.hnp hnp h1 (br0 (by unfold wX6_bypass; exact rPart_f hm.hnp hnp h1 (br0 hI.bad)))
  refine has_t hc.hnp hnp hp (br1 ?_)
  rcases (Classical.em (∃ i j : Nat, i ≤ j ∧ j ≤ 999 ∧ x2 = nI i ∧ x3 = nI j)).symm with h2 | ⟨x, y, hxy, hy, rfl, rfl⟩
  · exact areDays_f h2 (br0 (by unfold wX6_bypass; exact rPart_t hm.hnp hnp hp (br1 (rDays_f h2 (br0 hI.bad)))))
  refine areDays_t hy hxy (br1 ?_)
  unfold wX2_addBypass
  rw [hc.hnb]
  refine ⟨fun g => ?_, fun g => ?_⟩
  · rw [show (20 : Int32) = nI 20 from rfl, nI_ltI (by omega) (by omega)] at g
    have := addBypass_loop (S := S) (p := p) (x := x) (y := y) (K := fun S_1 => ∀ S_2 : MS, S_2 = uF S_1 0 ((S_1.2.2 0) + 1) → wX6_bypass M (nI p) (nI x) (nI y) (fun r1 M1 => S_2.2.2 0 = r1 ∧ Inv S_2 M1)) (Q := fun r S1 => wX6_bypass M (nI p) (nI x) (nI y) fun r1 M1 => r = r1 ∧ Inv S1 M1) (by omega) hy hxy ?_ 16 0 S (by omega) ⟨rfl, rfl, rfl, fun q j hj => by rw [show decide (16 * p ≤ q ∧ q < 16 * p + 0) = false by simp]; simp⟩
    · exact ⟨_, this⟩
    · rintro S' hf _ rfl
      have e0 : S'.2.2 0 = nI (a.1 1) := by rw [hf.2.1]; exact hc.hnb
      rw [e0, nI_1]
      unfold wX6_bypass
      refine rPart_t hm.hnp hnp hp (br1 (rDays_t hy hxy (br1 ?_)))
      rw [hm.hnb]
      refine ifF (by rw [show (20 : Int32) = nI 20 from rfl, nI_eq (by omega) (by omega)]; omega) ⟨vp_in_nI g (by omega), ?_⟩
      rintro _ rfl
      rw [show (uI M 8 (nI (a.1 1)).toNatClampNeg (nI p)).2.2 1 = nI (a.1 1) from hm.hnb]
      refine ⟨vp_in_nI g (by omega), ?_⟩
      rintro _ rfl
      rw [show (uI (uI M 8 (nI (a.1 1)).toNatClampNeg (nI p)) 9 (nI (a.1 1)).toNatClampNeg (nI x)).2.2 1 = nI (a.1 1) from hm.hnb]
      refine ⟨vp_in_nI g (by omega), ?_⟩
      rintro _ rfl _ rfl
      rw [show (uI (uI (uI M 8 (nI (a.1 1)).toNatClampNeg (nI p)) 9 (nI (a.1 1)).toNatClampNeg (nI x)) 10 (nI (a.1 1)).toNatClampNeg (nI y)).2.2 1 = nI (a.1 1) from hm.hnb]
      rw [nI_1, nI_clamp (by omega)]
      exact ⟨rfl, bypass_ok ok hc hm hp hy hxy g hf⟩
  · rw [show (20 : Int32) = nI 20 from rfl, nI_ltI (by omega) (by omega)] at g
    unfold wX6_bypass
    refine rPart_t hm.hnp hnp hp (br1 (rDays_t hy hxy (br1 ?_)))
    rw [hm.hnb]
    exact ifT (by rw [show (20 : Int32) = nI 20 from rfl, nI_eq (by omega) (by omega)]; omega) hI.bad
