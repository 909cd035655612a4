/-! PURE SIDE: cost, test, noTests, count -/
theorem ixm (p k c : Nat) : nI p * nI c + nI k = nI (c * p + k) := by rw [pk_mul, nI_add, Nat.mul_comm]
theorem ixn (p k c : Nat) : nI c * nI p + nI k = nI (c * p + k) := by rw [pk_mul, nI_add]
theorem ix12 (p k : Nat) : nI p * 12 + nI k = nI (12 * p + k) := ixm p k 12
theorem ix21 (p k : Nat) : 12 * nI p + nI k = nI (12 * p + k) := ixn p k 12
theorem nI_le0 {n : Nat} (h : n < 2 ^ 31) : nI n ≤ 0 ↔ n = 0 := by
  rw [← nI_0, nI_leI h (by omega)]; omega
theorem nI_e0 {n : Nat} (h : n < 2 ^ 31) : nI n = 0 ↔ n = 0 := by
  rw [← nI_0, nI_eq h (by omega)]
theorem nI_s1 {n : Nat} (h : 0 < n) : nI n - 1 = nI (n - 1) := pk_sub (a := n) (b := 1) h
/-- the reference keeps all but what is written -/
theorem aM.keep {M M' : MS} {a a' : AS} {ev : Nat → Nat} {fo : Nat → Int32} (h : aM M a ev fo) (h0 : ∀ k, k < 4 → M'.2.2 k = nI (a'.1 k)) (hr : ∀ r i, r < 15 → r ≠ 6 → r ≠ 7 → M'.1 r i = nI (a'.2 r i)) (h6 : M'.1 6 = M.1 6) (h7 : M'.1 7 = M.1 7) (hv : ∀ v j, v < a'.1 3 → j < a'.2 14 v → M'.1 15 (4 * v + j) = nI (a'.2 15 (4 * v + j))) : aM M' a' ev fo :=
  ⟨h0 0 (by omega), h0 1 (by omega), h0 2 (by omega), h0 3 (by omega), fun i => hr 0 i (by omega) (by omega) (by omega), fun i => hr 1 i (by omega) (by omega) (by omega), fun i => hr 2 i (by omega) (by omega) (by omega), fun i => hr 3 i (by omega) (by omega) (by omega), fun i => hr 4 i (by omega) (by omega) (by omega), fun i => hr 5 i (by omega) (by omega) (by omega), fun i hi => by rw [h6]; exact h.hev i hi, fun i hi => by rw [h7]; exact h.hfo i hi, fun i => hr 8 i (by omega) (by omega) (by omega), fun i => hr 9 i (by omega) (by omega) (by omega), fun i => hr 10 i (by omega) (by omega) (by omega), fun i => hr 11 i (by omega) (by omega) (by omega), fun i => hr 12 i (by omega) (by omega) (by omega), fun i => hr 13 i (by omega) (by omega) (by omega), fun i => hr 14 i (by omega) (by omega) (by omega), hv⟩
theorem aM.row {M : MS} {a : AS} {ev : Nat → Nat} {fo : Nat → Int32} (h : aM M a ev fo) : ∀ r i, r < 15 → r ≠ 6 → r ≠ 7 → M.1 r i = nI (a.2 r i) := by
  intro r i h1 h2 h3
  match r, h1 with
  | 0, _ => exact h.hb i
  | 1, _ => exact h.ha i
  | 2, _ => exact h.hz i
  | 3, _ => exact h.hc i
  | 4, _ => exact h.htn i
  | 5, _ => exact h.hday i
  | 8, _ => exact h.hbp i
  | 9, _ => exact h.hbx i
  | 10, _ => exact h.hby i
  | 11, _ => exact h.hgc i
  | 12, _ => exact h.hgp i
  | 13, _ => exact h.hvk i
  | 14, _ => exact h.hvn i
  | 6, _ => exact absurd rfl h2
  | 7, _ => exact absurd rfl h3
  | r + 15, h1 => omega
theorem aM.sc {M : MS} {a : AS} {ev : Nat → Nat} {fo : Nat → Int32} (h : aM M a ev fo) : ∀ k, k < 4 → M.2.2 k = nI (a.1 k) := by
  intro k h1
  match k, h1 with
  | 0, _ => exact h.hnp
  | 1, _ => exact h.hnb
  | 2, _ => exact h.hng
  | 3, _ => exact h.hnv
  | k + 4, h1 => omega
/-- one row of the reference is written at one place -/
theorem aM.one {M : MS} {a : AS} {ev : Nat → Nat} {fo : Nat → Int32} (h : aM M a ev fo) {k n v : Nat} (hk : k ≠ 6 ∧ k ≠ 7 ∧ k < 14) : aM (uI M k n (nI v)) (aU a k n v) ev fo :=
  h.keep h.sc (fun r i h1 h2 h3 => row_uI (h.row r i h1 h2 h3)) (uI_ne (by omega)) (uI_ne (by omega)) (fun w j h1 h2 => row_uI (h.hvi w j h1 (by rw [aUn _ (by omega)] at h2; exact h2)))
/-- changes of rows 3, 4, 5 leave the rest of what is right as it was -/
theorem OKa.keep {a a' : AS} (ok : OKa a) (h1 : a'.1 = a.1) (h : ∀ r, r ≤ 2 ∨ 8 ≤ r → a'.2 r = a.2 r)
    (hcost : ∀ p, a'.2 3 p ≤ 1000) (hcost1 : ∀ p, a.1 0 ≤ p → p < 12 → a'.2 3 p = 1) (htn : ∀ p, a'.2 4 p ≤ 12) (htn0 : ∀ p, a.1 0 ≤ p → a'.2 4 p = 0) (hday : ∀ p i, p < 12 → i < a'.2 4 p → a'.2 5 (12 * p + i) ≤ 999) (hsrt : ∀ p i, p < 12 → i + 1 < a'.2 4 p → a'.2 5 (12 * p + i) < a'.2 5 (12 * p + i + 1)) : OKa a' := by
  have hh : ∀ r i, r ≤ 2 ∨ 8 ≤ r → a'.2 r i = a.2 r i := fun r i hr => by rw [h r hr]
  refine ⟨by rw [h1]; exact ok.hnp, by rw [h1]; exact ok.hnb, by rw [h1]; exact ok.hng, by rw [h1]; exact ok.hnv, ?_, hcost, by rw [h1]; exact hcost1, htn, by rw [h1]; exact htn0, hday, hsrt, ?_, ?_, ?_, ?_⟩
  · intro p hp; rw [h1] at hp; rw [hh 0 p (by omega), hh 1 p (by omega), hh 2 p (by omega)]; exact ok.hsh p hp
  · intro k hk; rw [h1] at hk ⊢; rw [hh 8 k (by omega), hh 9 k (by omega), hh 10 k (by omega)]; exact ok.hbyp k hk
  · intro k hk; rw [h1] at hk ⊢; rw [hh 11 k (by omega), hh 12 k (by omega)]; exact ok.hgrp k hk
  · intro k hk; rw [h1] at hk; rw [hh 13 k (by omega), hh 14 k (by omega)]; exact ok.hvot k hk
  · intro v j hk hj; rw [h1] at hk ⊢; rw [hh 14 v (by omega)] at hj; rw [hh 15 _ (by omega)]; exact ok.hinp v j hk hj
theorem op_cost : OK_cost Inv := by
  intro S M x1 x2 hI
  obtain ⟨a, ok, hc, hm⟩ := id hI
  have hnp := ok.hnp
  unfold wX5_cost
  rcases (Classical.em (∃ p : Nat, p < a.1 0 ∧ x1 = nI p)).symm with h1 | ⟨p, hp, rfl⟩
  · exact has_f hc.hnp hnp h1 (br0 (by unfold wX6_cost; exact rPart_f hm.hnp hnp h1 (br0 hI.bad)))
  refine has_t hc.hnp hnp hp (br1 ?_)
  rcases (Classical.em (∃ j : Nat, j ≤ 1000 ∧ x2 = nI j)).symm with h2 | ⟨c, hcc, rfl⟩
  · have hb : wX6_cost M (nI p) x2 (fun r1 M1 => -1 = r1 ∧ Inv S M1) := by
      unfold wX6_cost
      exact rPart_t hm.hnp hnp hp (br1 (inB_f (N := 1000) (by decide) h2 (br0 hI.bad)))
    refine ⟨fun _ => hb, fun h3 => ⟨fun h4 => ?_, fun _ => hb⟩⟩
    rw [i32_lt] at h3
    rw [i32_le] at h4
    have h3 : ¬ x2.toInt < 0 := h3
    have h4 : x2.toInt ≤ 1000 := h4
    exact absurd (i32_nat x2 (N := 1000) (by omega) h4) h2
  · refine ifF (nI_pos (by omega)) (ifT (nI_le (b := 1000) hcc (by omega)) ?_)
    unfold wX2_changeCost
    refine ⟨vp_in_nI (by omega) (by omega), vp_in_nI (by omega) (by omega), ?_⟩
    rintro _ rfl
    unfold wX6_cost
    refine rPart_t hm.hnp hnp hp (br1 (inB_t (N := 1000) (by decide) (by omega) hcc (br1 ?_)))
    refine ⟨vp_in_nI (by omega) (by omega), vp_in_nI (by omega) (by omega), ?_⟩
    rintro _ rfl
    rw [nI_clamp (by omega)]
    refine ⟨by rw [(hc.hsh p hp).2.2.2, hm.hc p], aU a 3 p c, ?_, ?_, hm.one ⟨by omega, by omega, by omega⟩⟩
    · refine ok.keep rfl (fun r hr => aUn _ (by omega)) ?_ ?_ ?_ ?_ ?_ ?_
      · intro q; rw [aU2]; split
        · exact hcc
        · exact ok.hcost q
      · intro q g1 g2; rw [aU2, if_neg (by omega)]; exact ok.hcost1 q g1 g2
      · intro q; rw [aUn _ (by omega)]; exact ok.htn q
      · intro q; rw [aUn _ (by omega)]; exact ok.htn0 q
      · intro q i; rw [aUn _ (by omega), aUn _ (by omega)]; exact ok.hday q i
      · intro q i; rw [aUn _ (by omega), aUn _ (by omega)]; exact ok.hsrt q i
    · refine hc.keep rfl rfl rfl rfl (fun r h1 h2 => uI_ne (by omega)) (fun r h1 h2 => aUn _ (by omega)) (fun r h1 h2 => rfl) hc.hnp ?_ ?_ ?_
      · intro q hq
        have := hc.hsh q hq
        refine ⟨?_, ?_, ?_, row_uI this.2.2.2⟩
        · rw [uI_ne (by omega), aUn _ (by omega)]; exact this.1
        · rw [uI_ne (by omega), aUn _ (by omega)]; exact this.2.1
        · rw [uI_ne (by omega), aUn _ (by omega)]; exact this.2.2.1
      · intro i; rw [uI_ne (by omega), aUn _ (by omega)]; exact hc.htn i
      · intro i; rw [uI_ne (by omega), aUn _ (by omega)]; exact hc.hday i
/-- a test is added: both sides -/
theorem test_add {S M : MS} {a : AS} (ok : OKa a) (hc : aC S a) (hm : aM M a ev0 fo0) {p d : Nat} (hp : p < a.1 0) (hd : d ≤ 999) (ht : a.2 4 p < 12) (hl : 0 < a.2 4 p → a.2 5 (12 * p + (a.2 4 p - 1)) < d) :
    Inv (uI (uI S 5 (12 * p + a.2 4 p) (nI d)) 4 p (nI (a.2 4 p + 1))) (uI (uI M 5 (12 * p + a.2 4 p) (nI d)) 4 p (nI (a.2 4 p + 1))) := by
  have hnp := ok.hnp
  refine ⟨aU (aU a 5 (12 * p + a.2 4 p) d) 4 p (a.2 4 p + 1), ?_, ?_, (hm.one ⟨by omega, by omega, by omega⟩).one ⟨by omega, by omega, by omega⟩⟩
  · have e4 : ∀ q, (aU (aU a 5 (12 * p + a.2 4 p) d) 4 p (a.2 4 p + 1)).2 4 q = if q = p then a.2 4 p + 1 else a.2 4 q := fun q => by simp [aU2]
    have e5 : ∀ i, (aU (aU a 5 (12 * p + a.2 4 p) d) 4 p (a.2 4 p + 1)).2 5 i = if i = 12 * p + a.2 4 p then d else a.2 5 i := fun i => by simp [aU2]
    refine ok.keep rfl (fun r hr => by rw [aUn _ (by omega), aUn _ (by omega)]) ?_ ?_ ?_ ?_ ?_ ?_
    · intro q; rw [aUn _ (by omega), aUn _ (by omega)]; exact ok.hcost q
    · intro q; rw [aUn _ (by omega), aUn _ (by omega)]; exact ok.hcost1 q
    · intro q; rw [e4]; have := ok.htn q; split <;> omega
    · intro q g; rw [e4, if_neg (by omega)]; exact ok.htn0 q g
    · intro q i g1 g2
      rw [e4] at g2
      rw [e5]
      split
      · exact hd
      · split at g2
        · subst q; exact ok.hday p i g1 (by omega)
        · exact ok.hday q i g1 g2
    · intro q i g1 g2
      rw [e4] at g2
      rw [e5, e5]
      have tq := ok.htn q
      by_cases hq : q = p
      · subst hq
        rw [if_pos rfl] at g2
        rw [if_neg (by omega)]
        split
        · have := hl (by omega)
          rw [show a.2 4 q - 1 = i by omega] at this
          exact this
        · exact ok.hsrt q i g1 (by omega)
      · rw [if_neg hq] at g2
        rw [if_neg (by omega), if_neg (by omega)]
        exact ok.hsrt q i g1 g2
  · refine hc.keep rfl rfl rfl rfl (fun r h1 h2 => by rw [uI_ne (by omega), uI_ne (by omega)]) (fun r h1 h2 => by rw [aUn _ (by omega), aUn _ (by omega)]) (fun r h1 h2 => rfl) hc.hnp ?_ ?_ ?_
    · intro q hq
      have := hc.hsh q hq
      refine ⟨?_, ?_, ?_, ?_⟩
      · rw [uI_ne (by omega), uI_ne (by omega), aUn _ (by omega), aUn _ (by omega)]; exact this.1
      · rw [uI_ne (by omega), uI_ne (by omega), aUn _ (by omega), aUn _ (by omega)]; exact this.2.1
      · rw [uI_ne (by omega), uI_ne (by omega), aUn _ (by omega), aUn _ (by omega)]; exact this.2.2.1
      · rw [uI_ne (by omega), uI_ne (by omega), aUn _ (by omega), aUn _ (by omega)]; exact this.2.2.2
    · intro i; exact row_uI (row_uI (hc.htn i))
    · intro i; exact row_uI (row_uI (hc.hday i))
theorem op_test : OK_test Inv := by
  intro S M x1 x2 hI
  obtain ⟨a, ok, hc, hm⟩ := id hI
  have hnp := ok.hnp
  unfold wX5_test
  rcases (Classical.em (∃ p : Nat, p < a.1 0 ∧ x1 = nI p)).symm with h1 | ⟨p, hp, rfl⟩
  · exact has_f hc.hnp hnp h1 (br0 (by unfold wX6_test; exact rPart_f hm.hnp hnp h1 (br0 hI.bad)))
  refine has_t hc.hnp hnp hp (br1 ?_)
  rcases (Classical.em (∃ j : Nat, j ≤ 999 ∧ x2 = nI j)).symm with h2 | ⟨d, hd, rfl⟩
  · exact isDay_f h2 (br0 (by unfold wX6_test; exact rPart_t hm.hnp hnp hp (br1 (rDay_f h2 (br0 hI.bad)))))
  refine isDay_t hd (br1 ?_)
  have tn := ok.htn p
  have tn0 := hc.htn p
  have tm0 := hm.htn p
  -- the common end
  have hend : (0 < a.2 4 p → a.2 5 (12 * p + (a.2 4 p - 1)) < d) → JX2_addTest_31 S (nI p) (nI d) (nI (a.2 4 p)) (fun r S1 => wX6_test M (nI p) (nI d) (fun r1 M1 => r = r1 ∧ Inv S1 M1)) := by
    intro hl
    have hr : ∀ {r : Int32} {S1 : MS}, JX6_test_51 M (nI p) (nI d) (fun r1 M1 => r = r1 ∧ Inv S1 M1) → wX6_test M (nI p) (nI d) (fun r1 M1 => r = r1 ∧ Inv S1 M1) := by
      intro r S1 hj
      unfold wX6_test
      refine rPart_t hm.hnp hnp hp (br1 (rDay_t hd (br1 ⟨vp_in_nI (by omega) (by omega), ?_⟩)))
      rw [nI_clamp (by omega), tm0, nI_le0 (by omega)]
      refine ⟨fun _ => hj, fun h0 => ⟨vp_in_nI (by omega) (by omega), ?_⟩⟩
      rw [ix21, nI_s1 (by omega)]
      refine ⟨vp_in_nI (by omega) (by omega), ?_⟩
      rw [nI_clamp (by omega), hm.hday, nI_ltI (by have := ok.hday p (a.2 4 p - 1) (by omega) (by omega); rw [show 12 * p + a.2 4 p - 1 = 12 * p + (a.2 4 p - 1) by omega]; omega) (by omega)]
      have := hl (by omega)
      rw [show 12 * p + a.2 4 p - 1 = 12 * p + (a.2 4 p - 1) by omega]
      exact ifT this hj
    unfold JX2_addTest_31
    refine ⟨fun h3 => ?_, fun h3 => ?_⟩
    · rw [show (12 : Int32) = nI 12 from rfl, nI_ltI (by omega) (by omega)] at h3
      rw [ix12]
      refine ⟨vp_in_nI (by omega) (by omega), ?_⟩
      rintro _ rfl
      refine ⟨vp_in_nI (by omega) (by omega), ?_⟩
      rintro _ rfl
      refine hr ?_
      unfold JX6_test_51
      refine ⟨vp_in_nI (by omega) (by omega), ?_⟩
      rw [nI_clamp (by omega), tm0, show (12 : Int32) = nI 12 from rfl, nI_eq (by omega) (by omega)]
      refine ifF (by omega) ⟨vp_in_nI (by omega) (by omega), ?_⟩
      rw [ixn]
      refine ⟨vp_in_nI (by omega) (by omega), ?_⟩
      rintro _ rfl
      refine ⟨vp_in_nI (by omega) (by omega), vp_in_nI (by omega) (by omega), ?_⟩
      rintro _ rfl
      refine ⟨vp_in_nI (by omega) (by omega), ?_⟩
      rw [nI_clamp (by omega), uI_at, uI_ne (S := M) (by omega), tm0, nI_1]
      exact ⟨rfl, test_add ok hc hm hp hd h3 hl⟩
    · rw [show (12 : Int32) = nI 12 from rfl, nI_ltI (by omega) (by omega)] at h3
      refine hr ?_
      unfold JX6_test_51
      refine ⟨vp_in_nI (by omega) (by omega), ?_⟩
      rw [nI_clamp (by omega), tm0, show (12 : Int32) = nI 12 from rfl, nI_eq (by omega) (by omega)]
      exact ifT (by omega) hI.bad
  unfold wX2_addTest
  refine ⟨vp_in_nI (by omega) (by omega), ?_⟩
  rw [nI_clamp (by omega), tn0, nI_le0 (by omega)]
  refine ⟨fun h0 => hend (fun h => by omega), fun h0 => ?_⟩
  rw [ix12, nI_s1 (by omega)]
  refine ⟨vp_in_nI (by omega) (by omega), ?_⟩
  have hdd := ok.hday p (a.2 4 p - 1) (by omega) (by omega)
  rw [nI_clamp (by omega), hc.hday, show 12 * p + a.2 4 p - 1 = 12 * p + (a.2 4 p - 1) by omega, nI_ltI (by omega) (by omega)]
  refine ⟨fun h => hend (fun _ => h), fun h => ?_⟩
  unfold wX6_test
  refine rPart_t hm.hnp hnp hp (br1 (rDay_t hd (br1 ⟨vp_in_nI (by omega) (by omega), ?_⟩)))
  rw [nI_clamp (by omega), tm0, nI_le0 (by omega)]
  refine ifF (by omega) ⟨vp_in_nI (by omega) (by omega), ?_⟩
  rw [ix21, nI_s1 (by omega)]
  refine ⟨vp_in_nI (by omega) (by omega), ?_⟩
  rw [nI_clamp (by omega), hm.hday, show 12 * p + a.2 4 p - 1 = 12 * p + (a.2 4 p - 1) by omega, nI_ltI (by omega) (by omega)]
  exact ifF h hI.bad
