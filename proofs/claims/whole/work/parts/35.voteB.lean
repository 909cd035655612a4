/-! PURE SIDE: a vote is added -/
def vA (a : AS) (v k n : Nat) (q : Nat → Nat) : AS := (fun r => if r = 3 then v + 1 else a.1 r, fun r i => if r = 13 ∧ i = v then k else if r = 14 ∧ i = v then n else if r = 15 ∧ 4 * v ≤ i ∧ i < 4 * v + n then q (i - 4 * v) else a.2 r i)
theorem vA_r (a : AS) (v k n : Nat) (q : Nat → Nat) {r : Nat} (h : r ≠ 13 ∧ r ≠ 14 ∧ r ≠ 15) : (vA a v k n q).2 r = a.2 r := by
  funext i; simp [vA, h]
theorem vA_s (a : AS) (v k n : Nat) (q : Nat → Nat) {r : Nat} (h : r ≠ 3) : (vA a v k n q).1 r = a.1 r := by simp [vA, h]
theorem vA_3 (a : AS) (v k n : Nat) (q : Nat → Nat) : (vA a v k n q).1 3 = v + 1 := rfl
theorem vA_13 (a : AS) (v k n : Nat) (q : Nat → Nat) (i : Nat) : (vA a v k n q).2 13 i = if i = v then k else a.2 13 i := by simp [vA]
theorem vA_14 (a : AS) (v k n : Nat) (q : Nat → Nat) (i : Nat) : (vA a v k n q).2 14 i = if i = v then n else a.2 14 i := by simp [vA]
theorem vA_15 (a : AS) (v k n : Nat) (q : Nat → Nat) (i : Nat) : (vA a v k n q).2 15 i = if 4 * v ≤ i ∧ i < 4 * v + n then q (i - 4 * v) else a.2 15 i := by simp [vA]
theorem inB_loc {a a' : AS} (f : Nat → Nat) (v : Nat) : ∀ j, (∀ i, i < j → a'.2 15 (4 * v + i) = a.2 15 (4 * v + i)) → inB a' f v j = inB a f v j
  | 0, _ => rfl
  | j + 1, h => by unfold inB; rw [inB_loc f v j (fun i hi => h i (by omega)), h j (by omega)]
theorem belT_loc {a a' : AS} : ∀ m, (∀ w, w < m → a'.2 14 w = a.2 14 w ∧ ∀ j, j < a.2 14 w → a'.2 15 (4 * w + j) = a.2 15 (4 * w + j)) → belT a' m = belT a m
  | 0, _ => rfl
  | m + 1, h => by
    funext w
    unfold belT
    rw [belT_loc m (fun w hw => h w (by omega)), (h m (by omega)).1, inB_loc _ _ _ (h m (by omega)).2]
theorem inA_loc {a a' : AS} (f A : Nat → Bool) (v : Nat) : ∀ j, (∀ i, i < j → a'.2 15 (4 * v + i) = a.2 15 (4 * v + i)) → inA a' f A v j = inA a f A v j
  | 0, _ => rfl
  | j + 1, h => by unfold inA; rw [inA_loc f A v j (fun i hi => h i (by omega)), h j (by omega)]
theorem actT_loc {a a' : AS} (A : Nat → Bool) : ∀ m, (∀ w, w < m → a'.2 13 w = a.2 13 w ∧ a'.2 14 w = a.2 14 w ∧ ∀ j, j < a.2 14 w → a'.2 15 (4 * w + j) = a.2 15 (4 * w + j)) → actT a' A m = actT a A m
  | 0, _ => rfl
  | m + 1, h => by
    funext w
    unfold actT
    rw [actT_loc A m (fun w hw => h w (by omega)), (h m (by omega)).1, (h m (by omega)).2.1, inA_loc _ _ _ _ (h m (by omega)).2.2]
theorem vA_old {a : AS} (ok : OKa a) (k n : Nat) (q : Nat → Nat) : ∀ w, w < a.1 3 → (vA a (a.1 3) k n q).2 13 w = a.2 13 w ∧ (vA a (a.1 3) k n q).2 14 w = a.2 14 w ∧ ∀ j, j < a.2 14 w → (vA a (a.1 3) k n q).2 15 (4 * w + j) = a.2 15 (4 * w + j) := by
  intro w hw
  have := ok.hvot w hw
  refine ⟨by rw [vA_13, if_neg (by omega)], by rw [vA_14, if_neg (by omega)], fun j hj => by rw [vA_15, if_neg (by omega)]⟩
theorem vA_bel {a : AS} (ok : OKa a) (k n : Nat) (q : Nat → Nat) {w : Nat} (hw : w < a.1 3) : bel (vA a (a.1 3) k n q) w = bel a w := by
  unfold bel
  rw [belT_loc (w + 1) (fun u hu => (vA_old ok k n q u (by omega)).2)]
theorem vA_act {a : AS} (ok : OKa a) (k n : Nat) (q : Nat → Nat) {w : Nat} (hw : w < a.1 3) (A : Nat → Bool) : act (vA a (a.1 3) k n q) w A = act a w A := by
  unfold act
  rw [actT_loc A (w + 1) (fun u hu => vA_old ok k n q u (by omega))]
theorem vA_ok {a : AS} (ok : OKa a) {k n : Nat} {q : Nat → Nat} (hk : 1 ≤ k) (hkn : k ≤ n) (hn : n ≤ 4) (hv : a.1 3 < 12) (hq : ∀ j, j < n → q j < a.1 0 ∨ (12 ≤ q j ∧ q j < 12 + a.1 3)) : OKa (vA a (a.1 3) k n q) := by
  have r0 : ∀ r, r ≤ 12 → (vA a (a.1 3) k n q).2 r = a.2 r := fun r h => vA_r _ _ _ _ _ ⟨by omega, by omega, by omega⟩
  have s0 : ∀ r, r ≤ 2 → (vA a (a.1 3) k n q).1 r = a.1 r := fun r h => vA_s _ _ _ _ _ (by omega)
  refine ⟨by rw [s0 0 (by omega)]; exact ok.hnp, by rw [s0 1 (by omega)]; exact ok.hnb, by rw [s0 2 (by omega)]; exact ok.hng, by rw [vA_3]; omega, ?_, ?_, ?_, ?_, ?_, ?_, ?_, ?_, ?_, ?_, ?_⟩
  · rw [s0 0 (by omega), r0 0 (by omega), r0 1 (by omega), r0 2 (by omega)]; exact ok.hsh
  · rw [r0 3 (by omega)]; exact ok.hcost
  · rw [s0 0 (by omega), r0 3 (by omega)]; exact ok.hcost1
  · rw [r0 4 (by omega)]; exact ok.htn
  · rw [s0 0 (by omega), r0 4 (by omega)]; exact ok.htn0
  · rw [r0 4 (by omega), r0 5 (by omega)]; exact ok.hday
  · rw [r0 4 (by omega), r0 5 (by omega)]; exact ok.hsrt
  · rw [s0 0 (by omega), s0 1 (by omega), r0 8 (by omega), r0 9 (by omega), r0 10 (by omega)]; exact ok.hbyp
  · rw [s0 0 (by omega), s0 2 (by omega), r0 11 (by omega), r0 12 (by omega)]; exact ok.hgrp
  · intro w hw
    rw [vA_3] at hw
    rw [vA_13, vA_14]
    by_cases e : w = a.1 3
    · rw [if_pos e, if_pos e]; exact ⟨hk, hkn, hn⟩
    · rw [if_neg e, if_neg e]; exact ok.hvot w (by omega)
  · intro w j hw hj
    rw [vA_3] at hw
    rw [vA_14] at hj
    rw [s0 0 (by omega), vA_15]
    by_cases e : w = a.1 3
    · rw [if_pos e] at hj
      rw [if_pos (by omega), e, show 4 * a.1 3 + j - 4 * a.1 3 = j by omega]
      exact hq j hj
    · rw [if_neg e] at hj
      have := ok.hvot w (by omega)
      rw [if_neg (by omega)]
      exact ok.hinp w j (by omega) hj
/-- the state while inputs are laid -/
def layI (S S' : MS) (a' : AS) (v i : Nat) (q : Nat → Nat) : Prop := (∀ r, r ≠ 10 → r ≠ 11 → S'.1 r = S.1 r) ∧ S'.2 = S.2 ∧ (∀ x, x < 4 * v → S'.1 10 x = S.1 10 x) ∧ (∀ j, j < i → S'.1 10 (4 * v + j) = nI (q j)) ∧ (∀ w, w ≠ v → S'.1 11 w = S.1 11 w) ∧ S'.1 11 v = nI (inB a' (bel a') v i)
theorem add_loop {S : MS} {a a' : AS} {v n : Nat} {q : Nat → Nat} {K : MS → Prop} {Q : Int32 → MS → Prop} (hv : v < 12) (hn : n ≤ 4) (hnp : a'.1 0 ≤ 12) (hq : ∀ j, j < n → q j < a'.1 0 ∨ (12 ≤ q j ∧ q j < 12 + v)) (ha : ∀ j, j < n → a'.2 15 (4 * v + j) = q j) (hx : ∀ j, j < n → S.1 16 j = nI (q j)) (hbl : ∀ w, w < v → S.1 11 w = nI (bel a' w))
    (h : ∀ S', layI S S' a' v n q → K S') : ∀ (r i : Nat) (S' : MS), i + r = n → layI S S' a' v i q → LX4_add_37 (nI n) (nI v) K Q (r + 1) S' (nI i) := by
  intro r
  induction r with
  | zero =>
    intro i S' hi hl
    rw [LX4_add_37, nI_leI (by omega) (by omega)]
    exact ifT (by omega) (h S' (by rw [show n = i by omega]; exact hl))
  | succ r ih =>
    intro i S' hi hl
    obtain ⟨l1, l2, l3, l4, l5, l6⟩ := hl
    have hqi := hq i (by omega)
    have hai := ha i (by omega)
    rw [LX4_add_37, nI_leI (by omega) (by omega)]
    refine ifF (by omega) ⟨vp_in_nI (by omega) (by omega), ?_⟩
    rw [show nI v * 4 + nI i = nI (4 * v + i) from ixm v i 4]
    refine ⟨vp_in_nI (by omega) (by omega), ?_⟩
    rintro _ rfl
    rw [nI_clamp (by omega), nI_clamp (by omega), nI_clamp (by omega), l1 16 (by omega) (by omega), hx i (by omega)]
    refine ⟨vp_in_nI (by omega) (by omega), vp_in_nI (by omega) (by omega), ?_⟩
    rw [uI_ne (S := S') (k := 10) (r := 16) (by omega), uI_ne (S := S') (k := 10) (r := 11) (by omega), l1 16 (by omega) (by omega), hx i (by omega), l6, nI_1]
    have hin : inB a' (bel a') v (i + 1) = inB a' (bel a') v i ||| (if q i < 12 then 2 ^ q i else bel a' (q i - 12)) := by
      rw [← hai]; rfl
    have hfin : ∀ z : Int32, z = nI (if q i < 12 then 2 ^ q i else bel a' (q i - 12)) → vp_in (nI v) 12 ∧ ∀ S_4 : MS, S_4 = uI (uI S' 10 (4 * v + i) (nI (q i))) 11 v (nI (inB a' (bel a') v i) ||| z) → LX4_add_37 (nI n) (nI v) K Q (r + 1) S_4 (nI (i + 1)) := by
      intro z hz
      refine ⟨vp_in_nI (by omega) (by omega), ?_⟩
      rintro _ rfl
      rw [hz, fa_or, ← hin]
      refine ih (i + 1) _ (by omega) ⟨fun r h1 h2 => ?_, l2, fun x hx2 => ?_, fun j hj => ?_, fun w hw => ?_, uI_at⟩
      · rw [uI_ne h2, uI_ne h1]; exact l1 r h1 h2
      · rw [uI_ne (by omega), uI_nei (by omega)]; exact l3 x hx2
      · rw [uI_ne (by omega)]
        by_cases e : j = i
        · rw [e, uI_at]
        · rw [uI_nei (by omega)]; exact l4 j (by omega)
      · rw [uI_nei hw, uI_ne (by omega)]; exact l5 w hw
    unfold wX4_partsOfInput
    rw [le12 (by omega)]
    refine ⟨fun g => ?_, fun g => ?_⟩
    · rw [nI12 g]
      refine ⟨vp_in_nI (by omega) (by omega), ?_⟩
      rw [nI_clamp (by omega), uI_ne (by omega), l5 _ (by omega), hbl _ (by omega)]
      exact hfin _ (by rw [if_neg (by omega)])
    · rw [shl1 (by omega)]
      exact hfin _ (by rw [if_pos (by omega)])
theorem vote_aC {S S1 S2 : MS} {a : AS} (ok : OKa a) (hc : aC S a) {k n : Nat} {q : Nat → Nat} (hk : 1 ≤ k) (hkn : k ≤ n) (hn : n ≤ 4) (hv : a.1 3 < 12) (hq : ∀ j, j < n → q j < a.1 0 ∨ (12 ≤ q j ∧ q j < 12 + a.1 3))
    (hl : layI (uI (uI S 8 (a.1 3) (nI k)) 9 (a.1 3) (nI n)) S1 (vA a (a.1 3) k n q) (a.1 3) n q)
    (hw : S2.1 = S1.1 ∧ S2.2.2 = S1.2.2 ∧ S2.2.1 0 = S1.2.1 0 ∧ (∀ x, x < 4 * a.1 3 ∨ 4 * a.1 3 + 4 ≤ x → S2.2.1 1 x = S1.2.1 1 x) ∧ ((mems (bel (vA a (a.1 3) k n q) (a.1 3))).length ≤ 8 → ∀ s, s < 2 ^ (mems (bel (vA a (a.1 3) k n q) (a.1 3))).length → bitL (S2.2.1 1 (4 * a.1 3 + s / 64)) (s % 64) = act (vA a (a.1 3) k n q) (a.1 3) (sprd (bel (vA a (a.1 3) k n q) (a.1 3)) s))) :
    aC (uF S2 3 (nI (a.1 3 + 1))) (vA a (a.1 3) k n q) := by
  have ok' := vA_ok ok hk hkn hn hv hq
  obtain ⟨l1, l2, l3, l4, l5, l6⟩ := hl
  obtain ⟨w1, w2, w3, w4, w5⟩ := hw
  have r0 : ∀ r, r ≤ 12 → (vA a (a.1 3) k n q).2 r = a.2 r := fun r h => vA_r _ _ _ _ _ ⟨by omega, by omega, by omega⟩
  have s0 : ∀ r, r ≤ 2 → (vA a (a.1 3) k n q).1 r = a.1 r := fun r h => vA_s _ _ _ _ _ (by omega)
  have f22 : ∀ r, r ≠ 3 → (uF S2 3 (nI (a.1 3 + 1))).2.2 r = S.2.2 r := fun r h => by rw [uF22, if_neg h, w2, l2]; rfl
  have g1 : ∀ r, r ≤ 7 → (uF S2 3 (nI (a.1 3 + 1))).1 r = S.1 r := fun r h => by rw [uF1, w1, l1 r (by omega) (by omega), uI_ne (by omega), uI_ne (by omega)]
  refine ⟨?_, ?_, ?_, ?_, ?_, ?_, ?_, ?_, ?_, ?_, ?_, ?_, ?_, ?_, ?_, ?_, ?_⟩
  · rw [f22 1 (by omega), s0 0 (by omega)]; exact hc.hnp
  · rw [f22 0 (by omega), s0 1 (by omega)]; exact hc.hnb
  · rw [f22 2 (by omega), s0 2 (by omega)]; exact hc.hng
  · rw [uF22, if_pos rfl]; rfl
  · rw [g1 0 (by omega), g1 1 (by omega), g1 2 (by omega), g1 3 (by omega), s0 0 (by omega), r0 0 (by omega), r0 1 (by omega), r0 2 (by omega), r0 3 (by omega)]; exact hc.hsh
  · rw [g1 4 (by omega), r0 4 (by omega)]; exact hc.htn
  · rw [g1 5 (by omega), r0 5 (by omega)]; exact hc.hday
  · rw [g1 6 (by omega), r0 11 (by omega)]; exact hc.hgc
  · rw [g1 7 (by omega), r0 12 (by omega)]; exact hc.hgp
  · intro i
    rw [uF1, w1, l1 8 (by omega) (by omega), uI_ne (by omega), uI1, if_pos rfl, vA_13]
    by_cases e : i = a.1 3
    · rw [if_pos e]; simp [upd, e]
    · rw [if_neg e]; simp [upd, e]; exact hc.hvk i
  · intro i
    rw [uF1, w1, l1 9 (by omega) (by omega), uI1, if_pos rfl, vA_14]
    by_cases e : i = a.1 3
    · rw [if_pos e]; simp [upd, e]
    · rw [if_neg e]; simp [upd, e]; rw [uI_ne (by omega)]; exact hc.hvn i
  · intro w j hw2 hj
    rw [vA_3] at hw2
    rw [vA_14] at hj
    rw [uF1, w1, vA_15]
    by_cases e : w = a.1 3
    · rw [if_pos e] at hj
      rw [if_pos (by omega), e, show 4 * a.1 3 + j - 4 * a.1 3 = j by omega]
      exact l4 j hj
    · rw [if_neg e] at hj
      have := ok.hvot w (by omega)
      rw [if_neg (by omega), l3 _ (by omega), uI_ne (by omega), uI_ne (by omega)]
      exact hc.hvi w j (by omega) hj
  · intro w hw2
    rw [vA_3] at hw2
    rw [uF1, w1]
    by_cases e : w = a.1 3
    · rw [e, l6, bel_eq ok' (by rw [vA_3]; omega), vA_14, if_pos rfl]
    · rw [l5 w e, uI_ne (by omega), uI_ne (by omega), vA_bel ok _ _ _ (by omega)]
      exact hc.hbel w (by omega)
  · intro w hw2
    rw [vA_3] at hw2
    rw [uF1, w1, l5 w (by omega), uI_ne (by omega), uI_ne (by omega)]
    exact hc.hbel0 w (by omega)
  · intro p d hp hd
    rw [uF21, w3, l2, byp_cong (s0 1 (by omega)) (r0 8 (by omega)) (r0 9 (by omega)) (r0 10 (by omega))]
    exact hc.hbyp p d hp hd
  · intro w hw2 h8 s hs
    rw [vA_3] at hw2
    rw [uF21]
    by_cases e : w = a.1 3
    · rw [e] at h8 hs ⊢; exact w5 h8 s hs
    · have hwl : w < a.1 3 := by omega
      rw [vA_bel ok _ _ _ hwl] at h8 hs
      have := p256 h8
      rw [vA_bel ok _ _ _ hwl, vA_act ok _ _ _ hwl, w4 _ (by omega), l2]
      exact hc.hact w hwl h8 s hs
  · intro i hi
    rw [vA_3] at hi
    rw [uF21, w4 _ (by omega), l2]
    exact hc.hact0 i (by omega)
theorem vote_aM {M : MS} {a : AS} (ok : OKa a) (hm : aM M a ev0 fo0) {k n : Nat} {q : Nat → Nat} {x3 x4 x5 x6 : Int32} (hn : n ≤ 4) (h3 : 0 < n → x3 = nI (q 0)) (h4 : 1 < n → x4 = nI (q 1)) (h5 : 2 < n → x5 = nI (q 2)) (h6 : 3 < n → x6 = nI (q 3)) :
    aM (uF (uI (uI (uI (uI (uI (uI M 13 (a.1 3) (nI k)) 14 (a.1 3) (nI n)) 15 (4 * a.1 3) x3) 15 (4 * a.1 3 + 1) x4) 15 (4 * a.1 3 + 2) x5) 15 (4 * a.1 3 + 3) x6) 3 (nI (a.1 3 + 1))) (vA a (a.1 3) k n q) ev0 fo0 := by
  have r0 : ∀ r, r ≤ 12 → (vA a (a.1 3) k n q).2 r = a.2 r := fun r h => vA_r _ _ _ _ _ ⟨by omega, by omega, by omega⟩
  have m0 : ∀ r, r ≠ 15 → (uF (uI (uI (uI (uI (uI (uI M 13 (a.1 3) (nI k)) 14 (a.1 3) (nI n)) 15 (4 * a.1 3) x3) 15 (4 * a.1 3 + 1) x4) 15 (4 * a.1 3 + 2) x5) 15 (4 * a.1 3 + 3) x6) 3 (nI (a.1 3 + 1))).1 r = (uI (uI M 13 (a.1 3) (nI k)) 14 (a.1 3) (nI n)).1 r := fun r h => by
    rw [uF1, uI_ne h, uI_ne h, uI_ne h, uI_ne h]
  refine hm.keep (fun r hr => ?_) (fun r i h1 h2 h3 => ?_) ?_ ?_ (fun w j hw hj => ?_)
  · rw [uF22]
    by_cases e : r = 3
    · subst e; rw [if_pos rfl]; rfl
    · rw [if_neg e, vA_s _ _ _ _ _ e]; exact hm.sc r hr
  · rw [m0 r (by omega)]
    rcases (show r = 13 ∨ r = 14 ∨ r ≤ 12 by omega) with e | e | e
    · subst e
      rw [uI_ne (by omega), uI1, if_pos rfl, vA_13]
      by_cases e : i = a.1 3
      · rw [if_pos e]; simp [upd, e]
      · rw [if_neg e]; simp [upd, e]; exact hm.hvk i
    · subst e
      rw [uI1, if_pos rfl, vA_14]
      by_cases e : i = a.1 3
      · rw [if_pos e]; simp [upd, e]
      · rw [if_neg e]; simp [upd, e]; rw [uI_ne (by omega)]; exact hm.hvn i
    · rw [uI_ne (by omega), uI_ne (by omega), r0 r e]; exact hm.row r i h1 h2 h3
  · rw [m0 6 (by omega), uI_ne (by omega), uI_ne (by omega)]
  · rw [m0 7 (by omega), uI_ne (by omega), uI_ne (by omega)]
  · rw [vA_3] at hw
    rw [vA_14] at hj
    rw [uF1, vA_15]
    by_cases e : w = a.1 3
    · rw [if_pos e] at hj
      rw [if_pos (by omega), e, show 4 * a.1 3 + j - 4 * a.1 3 = j by omega]
      rcases (show j = 0 ∨ j = 1 ∨ j = 2 ∨ j = 3 by omega) with rfl | rfl | rfl | rfl
      · rw [uI_nei (by omega), uI_nei (by omega), uI_nei (by omega), Nat.add_zero, uI_at]; exact h3 hj
      · rw [uI_nei (by omega), uI_nei (by omega), uI_at]; exact h4 hj
      · rw [uI_nei (by omega), uI_at]; exact h5 hj
      · rw [uI_at]; exact h6 hj
    · rw [if_neg e] at hj
      have := ok.hvot w (by omega)
      rw [if_neg (by omega), uI_nei (by omega), uI_nei (by omega), uI_nei (by omega), uI_nei (by omega), uI_ne (by omega), uI_ne (by omega)]
      exact hm.hvi w j (by omega) hj
theorem op_vote : OK_vote Inv := by
  intro S M x1 x2 x3 x4 x5 x6 hI
  obtain ⟨a, ok, hc, hm⟩ := id hI
  have hnv := ok.hnv
  have hnp := ok.hnp
  refine cvote ok hc (fun hv S' he a0 a1 a2 a3 => ?_) (fun hv S' he => rvote ok hm (fun h => absurd h hv) (fun _ => ⟨rfl, a, ok, hc.eqx (by omega) he, hm⟩))
  have hc' := hc.eqx (by omega) he
  obtain ⟨n, k, rfl, rfl, hk, hkn, hn, v3, v4, v5, v6⟩ := id hv
  -- the inputs as numbers
  obtain ⟨q, hq⟩ : ∃ q : Nat → Nat, ∀ j, j < n → S'.1 16 j = nI (q j) ∧ (q j < a.1 0 ∨ (12 ≤ q j ∧ q j < 12 + a.1 3)) := by
    have hall : ∀ j, ∃ y : Nat, j < n → S'.1 16 j = nI y ∧ (y < a.1 0 ∨ (12 ≤ y ∧ y < 12 + a.1 3)) := by
      intro j
      by_cases hj : j < n
      · have : vin a (S'.1 16 j) := by
          rcases (show j = 0 ∨ j = 1 ∨ j = 2 ∨ j = 3 by omega) with rfl | rfl | rfl | rfl
          · rw [a0]; exact v3
          · rw [a1]; exact v4 (by omega)
          · rw [a2]; exact v5 (by omega)
          · rw [a3]; exact v6 (by omega)
        obtain ⟨y, h1, h2⟩ := this
        exact ⟨y, fun _ => ⟨h1, h2⟩⟩
      · exact ⟨0, fun h => absurd h hj⟩
    exact ⟨fun j => (hall j).choose, fun j hj => (hall j).choose_spec hj⟩
  have hq1 := fun j hj => (hq j hj).1
  have hq2 := fun j hj => (hq j hj).2
  have hR : ∀ {r : Int32} {S1 : MS}, (a.1 3 = 12 → r = -3 ∧ Inv S1 M) → (a.1 3 < 12 → r = nI (a.1 3) ∧ OKa (vA a (a.1 3) k n q) ∧ aC S1 (vA a (a.1 3) k n q)) → wX6_vote M (nI k) (nI n) x3 x4 x5 x6 (fun r1 M1 => r = r1 ∧ Inv S1 M1) := by
    intro r S1 h12 hlt
    refine rvote ok hm (fun _ => br1 ?_) (fun h => absurd hv h)
    rw [hm.hnv]
    refine ⟨fun e => ?_, fun e => ⟨vp_in_nI ?_ (by omega), ?_⟩⟩
    · rw [show (12 : Int32) = nI 12 from rfl, nI_eq (by omega) (by omega)] at e
      exact h12 e
    · rw [show (12 : Int32) = nI 12 from rfl, nI_eq (by omega) (by omega)] at e
      omega
    rw [show (12 : Int32) = nI 12 from rfl, nI_eq (by omega) (by omega)] at e
    have f4 : ∀ j : Nat, (4 : Int32) * nI (a.1 3) + nI j = nI (4 * a.1 3 + j) := fun j => ix4 _ _
    have f40 : (4 : Int32) * nI (a.1 3) = nI (4 * a.1 3) := pk_mul 4 _
    rintro _ rfl
    rw [show (uI M 13 (nI (a.1 3)).toNatClampNeg (nI k)).2.2 3 = nI (a.1 3) from hm.hnv, nI_clamp (by omega)]
    refine ⟨vp_in_nI (by omega) (by omega), ?_⟩
    rintro _ rfl
    rw [show (uI (uI M 13 (a.1 3) (nI k)) 14 (a.1 3) (nI n)).2.2 3 = nI (a.1 3) from hm.hnv, f40, nI_clamp (by omega)]
    refine ⟨vp_in_nI (by omega) (by omega), ?_⟩
    rintro _ rfl
    rw [show (uI (uI (uI M 13 (a.1 3) (nI k)) 14 (a.1 3) (nI n)) 15 (4 * a.1 3) x3).2.2 3 = nI (a.1 3) from hm.hnv, show (4 : Int32) * nI (a.1 3) + 1 = nI (4 * a.1 3 + 1) from f4 1, nI_clamp (by omega)]
    refine ⟨vp_in_nI (by omega) (by omega), ?_⟩
    rintro _ rfl
    rw [show (uI (uI (uI (uI M 13 (a.1 3) (nI k)) 14 (a.1 3) (nI n)) 15 (4 * a.1 3) x3) 15 (4 * a.1 3 + 1) x4).2.2 3 = nI (a.1 3) from hm.hnv, show (4 : Int32) * nI (a.1 3) + 2 = nI (4 * a.1 3 + 2) from f4 2, nI_clamp (by omega)]
    refine ⟨vp_in_nI (by omega) (by omega), ?_⟩
    rintro _ rfl
    rw [show (uI (uI (uI (uI (uI M 13 (a.1 3) (nI k)) 14 (a.1 3) (nI n)) 15 (4 * a.1 3) x3) 15 (4 * a.1 3 + 1) x4) 15 (4 * a.1 3 + 2) x5).2.2 3 = nI (a.1 3) from hm.hnv, show (4 : Int32) * nI (a.1 3) + 3 = nI (4 * a.1 3 + 3) from f4 3, nI_clamp (by omega)]
    refine ⟨vp_in_nI (by omega) (by omega), ?_⟩
    rintro _ rfl _ rfl
    rw [show (uI (uI (uI (uI (uI (uI M 13 (a.1 3) (nI k)) 14 (a.1 3) (nI n)) 15 (4 * a.1 3) x3) 15 (4 * a.1 3 + 1) x4) 15 (4 * a.1 3 + 2) x5) 15 (4 * a.1 3 + 3) x6).2.2 3 = nI (a.1 3) from hm.hnv, nI_1]
    obtain ⟨e1, e2, e3⟩ := hlt (by omega)
    refine ⟨?_, vA a (a.1 3) k n q, e2, e3, vote_aM ok hm hn (fun h => by rw [← a0]; exact hq1 0 h) (fun h => by rw [← a1]; exact hq1 1 h) (fun h => by rw [← a2]; exact hq1 2 h) (fun h => by rw [← a3]; exact hq1 3 h)⟩
    rw [e1, uF22, if_pos rfl, nI_s1 (by omega)]
    rfl
  unfold wX4_add
  rw [hc'.hnv]
  refine ⟨fun g => ?_, fun g => ?_⟩
  · rw [show (12 : Int32) = nI 12 from rfl, nI_ltI (by omega) (by omega)] at g
    have ok' := vA_ok ok (q := q) hk hkn hn g hq2
    have hb' : ∀ w, w < a.1 3 → (uI (uI S' 8 (a.1 3) (nI k)) 9 (a.1 3) (nI n)).1 11 w = nI (bel (vA a (a.1 3) k n q) w) := fun w hw => by
      rw [uI_ne (by omega), uI_ne (by omega), vA_bel ok _ _ _ hw]; exact hc'.hbel w hw
    refine ⟨vp_in_nI g (by omega), ?_⟩
    rintro _ rfl
    refine ⟨vp_in_nI g (by omega), ?_⟩
    rintro _ rfl
    rw [nI_clamp (by omega)]
    generalize hK : (fun S_3 : MS => wX4_sizeBelow S_3 (nI (a.1 3)) fun r_5 S_4 => (8 < r_5 → JX4_add_100 S_4 (nI (a.1 3)) fun r S1 => wX6_vote M (nI k) (nI n) x3 x4 x5 x6 fun r1 M1 => r = r1 ∧ Inv S1 M1) ∧ (¬8 < r_5 → wX4_workOutActingSets S_4 (nI (a.1 3)) fun S_6 => JX4_add_100 S_6 (nI (a.1 3)) fun r S1 => wX6_vote M (nI k) (nI n) x3 x4 x5 x6 fun r1 M1 => r = r1 ∧ Inv S1 M1)) = K
    have hKf : ∀ S1, layI (uI (uI S' 8 (a.1 3) (nI k)) 9 (a.1 3) (nI n)) S1 (vA a (a.1 3) k n q) (a.1 3) n q → K S1 := by
      intro S1 hl
      rw [← hK]
      have hbv : S1.1 11 (a.1 3) = nI (bel (vA a (a.1 3) k n q) (a.1 3)) := by
        rw [hl.2.2.2.2.2, bel_eq ok' (by rw [vA_3]; omega), vA_14, if_pos rfl]
      have hb4 := bel_4096 ok' (v := a.1 3) (by rw [vA_3]; omega)
      have hend : ∀ S2 : MS, (S2.1 = S1.1 ∧ S2.2.2 = S1.2.2 ∧ S2.2.1 0 = S1.2.1 0 ∧ (∀ x, x < 4 * a.1 3 ∨ 4 * a.1 3 + 4 ≤ x → S2.2.1 1 x = S1.2.1 1 x) ∧ ((mems (bel (vA a (a.1 3) k n q) (a.1 3))).length ≤ 8 → ∀ s, s < 2 ^ (mems (bel (vA a (a.1 3) k n q) (a.1 3))).length → bitL (S2.2.1 1 (4 * a.1 3 + s / 64)) (s % 64) = act (vA a (a.1 3) k n q) (a.1 3) (sprd (bel (vA a (a.1 3) k n q) (a.1 3)) s))) → JX4_add_100 S2 (nI (a.1 3)) fun r S1 => wX6_vote M (nI k) (nI n) x3 x4 x5 x6 fun r1 M1 => r = r1 ∧ Inv S1 M1 := by
        intro S2 hw
        unfold JX4_add_100
        rintro _ rfl
        have e3 : S2.2.2 3 = nI (a.1 3) := by rw [hw.2.1, hl.2.1]; exact hc'.hnv
        rw [e3, nI_1]
        exact hR (fun h => absurd h (by omega)) (fun _ => ⟨rfl, ok', vote_aC ok hc' hk hkn hn g hq2 hl hw⟩)
      unfold wX4_sizeBelow
      refine ⟨vp_in_nI g (by omega), ?_⟩
      rw [nI_clamp (by omega), hbv]
      refine cbits_spec hb4 ?_
      have hct := fb_ct_le (bel (vA a (a.1 3) k n q) (a.1 3)).testBit 12
      dsimp only
      rw [show (8 : Int32) = nI 8 from rfl, nI_ltI (by omega) (by omega), ← mems_len]
      refine ⟨fun g8 => hend S1 ⟨rfl, rfl, rfl, fun _ _ => rfl, fun h => absurd h (by omega)⟩, fun g8 => ?_⟩
      have hV : VV S1 (vA a (a.1 3) k n q) (a.1 3) := by
        obtain ⟨l1, l2, l3, l4, l5, l6⟩ := hl
        refine ⟨fun i => ?_, fun i => ?_, fun w j hw hj => ?_, fun w hw => ?_, fun w hw h8 s hs => ?_⟩
        · rw [l1 8 (by omega) (by omega), uI_ne (by omega), uI1, if_pos rfl, vA_13]
          by_cases e : i = a.1 3
          · rw [if_pos e]; simp [upd, e]
          · rw [if_neg e]; simp [upd, e]; exact hc'.hvk i
        · rw [l1 9 (by omega) (by omega), uI1, if_pos rfl, vA_14]
          by_cases e : i = a.1 3
          · rw [if_pos e]; simp [upd, e]
          · rw [if_neg e]; simp [upd, e]; rw [uI_ne (by omega)]; exact hc'.hvn i
        · rw [vA_3] at hw
          rw [vA_14] at hj
          rw [vA_15]
          by_cases e : w = a.1 3
          · rw [if_pos e] at hj
            rw [if_pos (by omega), e, show 4 * a.1 3 + j - 4 * a.1 3 = j by omega]
            exact l4 j hj
          · rw [if_neg e] at hj
            have := ok.hvot w (by omega)
            rw [if_neg (by omega), l3 _ (by omega), uI_ne (by omega), uI_ne (by omega)]
            exact hc'.hvi w j (by omega) hj
        · rw [vA_3] at hw
          by_cases e : w = a.1 3
          · rw [e]; exact hbv
          · rw [l5 w e]; exact hb' w (by omega)
        · rw [vA_bel ok _ _ _ hw] at h8 hs
          rw [vA_bel ok _ _ _ hw, vA_act ok _ _ _ hw, l2]
          exact hc'.hact w hw h8 s hs
      refine workOut_spec ok' hV (by rw [vA_3]; omega) (by omega) (fun i hi => by rw [hl.2.1]; exact hc'.hact0 i hi) (fun S2 hw => hend S2 ?_)
      obtain ⟨w1, w2, w3, w4, w5⟩ := hw
      refine ⟨w1, w2, w3, w4, fun h8 s hs => ?_⟩
      have := p256 h8
      rw [w5 s (by omega), show decide (s < 2 ^ (mems (bel (vA a (a.1 3) k n q) (a.1 3))).length) = true by rw [decide_eq_true_iff]; exact hs, Bool.true_and]
    have := add_loop (S := uI (uI S' 8 (a.1 3) (nI k)) 9 (a.1 3) (nI n)) (a := a) (a' := vA a (a.1 3) k n q) (v := a.1 3) (n := n) (q := q) (K := K) (Q := fun r S1 => wX6_vote M (nI k) (nI n) x3 x4 x5 x6 fun r1 M1 => r = r1 ∧ Inv S1 M1) g hn (by rw [vA_s _ _ _ _ _ (by omega)]; exact hnp) (fun j hj => by rw [vA_s _ _ _ _ _ (by omega)]; exact hq2 j hj) (fun j hj => by rw [vA_15, if_pos (by omega), show 4 * a.1 3 + j - 4 * a.1 3 = j by omega]) (fun j hj => by rw [uI_ne (by omega), uI_ne (by omega)]; exact hq1 j hj) hb' hKf n 0 _ (by omega) ⟨fun _ _ _ => rfl, rfl, fun _ _ => rfl, fun j hj => by omega, fun _ _ => rfl, by rw [uI_ne (by omega), uI_ne (by omega)]; exact hc'.hbel0 _ (Nat.le_refl _)⟩
    exact ⟨_, this⟩
  · rw [show (12 : Int32) = nI 12 from rfl, nI_ltI (by omega) (by omega)] at g
    exact hR (fun _ => ⟨rfl, a, ok, hc', hm⟩) (fun h => absurd h g)
