/-! PURE SIDE: the component's odds -/
def mb (b i : Nat) : Nat := (mems b).getD i 0
theorem memN_at (b : Nat) : ∀ (k i : Nat), i < (memN b k).length → ∃ p, (memN b k)[i]? = some p ∧ p < k ∧ b.testBit p = true ∧ fb_ct b.testBit p = i
  | 0, i, h => by simp [memN] at h
  | k + 1, i, h => by
    have hlen : (memN b k).length = fb_ct b.testBit k := by
      have key : ∀ n, (memN b n).length = fb_ct b.testBit n := by
        intro n
        induction n with
        | zero => rfl
        | succ n ih => rw [memN_succ, List.length_append, ih, fb_ct_succ]; split <;> rfl
      exact key k
    rw [memN_succ] at h ⊢
    by_cases hi : i < (memN b k).length
    · obtain ⟨p, h1, h2, h3⟩ := memN_at b k i hi
      exact ⟨p, by rw [List.getElem?_append_left hi]; exact h1, by omega, h3⟩
    · by_cases hb : b.testBit k = true
      · rw [if_pos hb] at h ⊢
        rw [List.length_append, List.length_singleton] at h
        have e : i = (memN b k).length := by omega
        subst e
        exact ⟨k, by simp, by omega, hb, by rw [hlen]⟩
      · rw [if_neg hb, List.append_nil] at h
        exact absurd h hi
theorem mb_spec {b i : Nat} (h : i < (mems b).length) : mb b i < 12 ∧ b.testBit (mb b i) = true ∧ fb_ct b.testBit (mb b i) = i := by
  obtain ⟨p, h1, h2, h3, h4⟩ := memN_at b 12 i h
  have : mb b i = p := by
    unfold mb
    rw [List.getD_eq_getElem?_getD, show (mems b)[i]? = some p from h1]
    rfl
  rw [this]
  exact ⟨h2, h3, h4⟩
theorem mb_of {b p : Nat} (hb : b.testBit p = true) (hp : p < 12) : fb_ct b.testBit p < (mems b).length ∧ mb b (fb_ct b.testBit p) = p := by
  have h1 : fb_ct b.testBit p < (mems b).length := by
    rw [mems_len]
    have := fb_ct_mono b.testBit (show p + 1 ≤ 12 by omega)
    rw [fb_ct_succ, if_pos hb] at this
    omega
  have := mb_spec h1
  exact ⟨h1, fb_ct_kth_one this.2.1 hb this.2.2⟩
/-- only rows that are worked with have changed -/
def scC (S S' : MS) : Prop := (∀ r, r ≤ 11 ∨ r = 14 → S'.1 r = S.1 r) ∧ (∀ r, r ≤ 1 → S'.2.1 r = S.2.1 r) ∧ ∀ k, k < 4 → S'.2.2 k = S.2.2 k
theorem scC.rf (S : MS) : scC S S := ⟨fun _ _ => rfl, fun _ _ => rfl, fun _ _ => rfl⟩
theorem scC.tr {S S' S'' : MS} (h : scC S S') (h' : scC S' S'') : scC S S'' := ⟨fun r hr => (h'.1 r hr).trans (h.1 r hr), fun r hr => (h'.2.1 r hr).trans (h.2.1 r hr), fun k hk => (h'.2.2 k hk).trans (h.2.2 k hk)⟩
theorem aC.sc {S S' : MS} {a : AS} (h : aC S a) (hs : scC S S') : aC S' a := h.same (fun r hr => hs.1 r (Or.inl hr)) hs.2.1 hs.2.2
theorem fb_ct_step1 (p : Nat → Bool) (k : Nat) (h : p k = true) : fb_ct p (k + 1) = fb_ct p k + 1 := by rw [fb_ct_succ, if_pos h]
theorem takeMembers_spec {S : MS} {a : AS} (ok : OKa a) (hc : aC S a) {v : Nat} (hv : v < a.1 3) (h8 : (mems (bel a v)).length ≤ 8) {Q : MS → Prop}
    (h : ∀ S', scC S S' → S'.2.2 4 = nI (mems (bel a v)).length → S'.2.2 5 = nI (mems (bel a v)).length → (∀ i, i < (mems (bel a v)).length → S'.1 12 i = nI (mb (bel a v) i)) → Q S') : wX1_takeMembers S (nI v) Q := by
  have hb4 := bel_4096 ok hv
  generalize hn : (mems (bel a v)).length = n at h8 h
  have hn12 : fb_ct (bel a v).testBit 12 = n := by rw [← mems_len]; exact hn
  unfold wX1_takeMembers
  rintro _ rfl
  generalize hK : (fun S_2 : MS => ∀ S_3 : MS, S_3 = uF S_2 5 (S_2.2.2 4) → Q S_3) = K
  have hKf : ∀ S', scC S S' → S'.2.2 4 = nI n → (∀ i, i < n → S'.1 12 i = nI (mb (bel a v) i)) → K S' := by
    intro S' hs h4 hmb
    rw [← hK]
    rintro _ rfl
    rw [h4]
    refine h _ ⟨fun r hr => hs.1 r hr, fun r hr => hs.2.1 r hr, fun k hk => ?_⟩ ?_ ?_ hmb
    · rw [uF22, if_neg (by omega)]; exact hs.2.2 k hk
    · rw [uF22, if_neg (by omega)]; exact h4
    · rw [uF22, if_pos rfl]
  have key : ∀ (r k : Nat) (S' : MS), k + r = 12 → scC S S' → S'.2.2 4 = nI (fb_ct (bel a v).testBit k) → (∀ i, i < fb_ct (bel a v).testBit k → S'.1 12 i = nI (mb (bel a v) i)) → LX1_takeMembers_7 (nI v) K Q (r + 1) S' (nI k) := by
    intro r
    induction r with
    | zero =>
      intro k S' hk hs h4 hmb
      have : k = 12 := by omega
      subst this
      rw [hn12] at h4 hmb
      rw [LX1_takeMembers_7]
      exact ifT (by decide) (hKf S' hs h4 hmb)
    | succ r ih =>
      intro k S' hk hs h4 hmb
      have hmono := fb_ct_mono (bel a v).testBit (show k ≤ 12 by omega)
      have hc' := hc.sc hs
      rw [LX1_takeMembers_7]
      refine ifF (by rw [le12 (by omega)]; omega) ?_
      rw [h4, show (8 : Int32) = nI 8 from rfl, nI_leI (by omega) (by omega)]
      refine ⟨fun g => ?_, fun g => ?_⟩
      · have e : fb_ct (bel a v).testBit k = n := by omega
        rw [e] at h4 hmb
        exact hKf S' hs h4 hmb
      · refine partsBelow_spec ok hc' hv (hasBit_spec (by omega) (by omega) ?_)
        unfold JX1_takeMembers_57
        rw [nI_1]
        refine brB (fun hb => ?_) (fun hb => ?_)
        · rw [h4]
          refine ⟨vp_in_nI (by omega) (by omega), ?_⟩
          rintro _ rfl _ rfl
          rw [show (uI S' 12 (nI (fb_ct (bel a v).testBit k)).toNatClampNeg (nI k)).2.2 4 = nI (fb_ct (bel a v).testBit k) from h4, nI_clamp (by omega), nI_1]
          refine ih (k + 1) _ (by omega) ⟨fun r hr => by rw [uF1, uI_ne (by omega)]; exact hs.1 r hr, fun r hr => hs.2.1 r hr, fun j hj => by rw [uF22, if_neg (by omega)]; exact hs.2.2 j hj⟩ ?_ (fun i hi => ?_)
          · rw [uF22, if_pos rfl, fb_ct_step1 _ _ hb]
          · rw [fb_ct_step1 _ _ hb] at hi
            rw [uF1]
            by_cases e : i = fb_ct (bel a v).testBit k
            · subst e; rw [uI_at, (mb_of hb (by omega)).2]
            · rw [uI_nei e]; exact hmb i (by omega)
        · have e : fb_ct (bel a v).testBit (k + 1) = fb_ct (bel a v).testBit k := by rw [fb_ct_succ, if_neg (by rw [hb]; decide), Nat.add_zero]
          exact ih (k + 1) S' (by omega) hs (by rw [e]; exact h4) (by rw [e]; exact hmb)
  have := key 12 0 (uF S 4 0) (by omega) ⟨fun _ _ => rfl, fun _ _ => rfl, fun k hk => by rw [uF22, if_neg (by omega)]⟩ rfl (fun i hi => by simp [fb_ct] at hi)
  exact ⟨_, this⟩
/-- a function of masks that looks at the parts of b alone -/
def locF (b : Nat) (h : Nat → Nat) : Prop := ∀ s s', (∀ p, b.testBit p = true → s.testBit p = s'.testBit p) → h s = h s'
theorem locF.op {b w k : Nat} {h : Nat → Nat} (hl : locF b h) : locF b (op1 w k h) := by
  intro s s' hs
  unfold op1
  rw [hl s s' hs, hl (s ||| k) (s' ||| k) (fun p hp => by rw [Nat.testBit_or, Nat.testBit_or, hs p hp])]
theorem locF.opL {b : Nat} {h : Nat → Nat} (hl : locF b h) : ∀ L, locF b (opL L h)
  | [] => hl
  | _ :: L => (locF.opL hl L).op
theorem gF_loc {a : AS} (ok : OKa a) {v : Nat} (hv : v < a.1 3) : locF (bel a v) (gF a v) := by
  intro s s' hs
  unfold gF
  rw [act_dep ok v hv (fun p hp => by rw [hs p hp])]
theorem lt12 {b p : Nat} (hb : b < 4096) (hp : b.testBit p = true) : p < 12 := by
  rcases Nat.lt_or_ge p 12 with g | g
  · exact g
  · rw [Nat.testBit_lt_two_pow (Nat.lt_of_lt_of_le hb (Nat.pow_le_pow_right (n := 2) (by omega) g))] at hp; exact absurd hp (by decide)
theorem spB {F b p : Nat} (hb : b < 4096) (hp : b.testBit p = true) : (spN F b 12).testBit p = F.testBit (fb_ct b.testBit p) := by
  rw [spN_bit]
  unfold sprd
  rw [hp]
  simp [lt12 hb hp]
theorem pkB {n b p : Nat} (hb : b < 4096) (hp : b.testBit p = true) : (pkN n b 12).testBit (fb_ct b.testBit p) = n.testBit p := by
  have := sprd_pk (n := n) (b := b) (lt12 hb hp)
  unfold sprd at this
  rw [hp, Bool.true_and, Bool.true_and] at this
  exact this
def eqL (k : Nat) (S S' : MS) : Prop := S'.1 = S.1 ∧ S'.2.2 = S.2.2 ∧ ∀ r, r ≠ k → S'.2.1 r = S.2.1 r
theorem eqL.rf (k : Nat) (S : MS) : eqL k S S := ⟨rfl, rfl, fun _ _ => rfl⟩
theorem eqL.put {k : Nat} {S S' : MS} (h : eqL k S S') (n : Nat) (x : Int64) : eqL k S (uL S' k n x) := ⟨h.1, h.2.1, fun r hr => by rw [uL21, if_neg hr]; exact h.2.2 r hr⟩
theorem eqL.sc {k : Nat} {S S' : MS} (h : eqL k S S') (hk : 2 ≤ k) : scC S S' := ⟨fun _ _ => by rw [h.1], fun r hr => h.2.2 r (by omega), fun _ _ => by rw [h.2.1]⟩
theorem uL_at {S : MS} {k n : Nat} {x : Int64} : (uL S k n x).2.1 k n = x := by rw [uL21, if_pos rfl]; simp [vp_updL]
theorem uL_nei {S : MS} {k n i : Nat} {x : Int64} (h : i ≠ n) : (uL S k n x).2.1 k i = S.2.1 k i := by rw [uL21, if_pos rfl]; simp [vp_updL, h]
/-- a group is worked in -/
theorem workIn_spec {S : MS} {n st w E : Nat} (hn : n ≤ 8) (h4 : S.2.2 4 = nI n) (h5 : S.2.2 5 = nI E) (hst : st < 2 ^ n) (hw : w ≤ 64) {B : Nat → Nat} (hB : ∀ F, F < 2 ^ n → S.2.1 2 F = lN (B F)) {Q : MS → Prop}
    (h : ∀ S', scC S S' → S'.1 12 = S.1 12 → S'.2.2 4 = nI n → S'.2.2 5 = nI (E + 1) → (∀ F, F < 2 ^ n → S'.2.1 2 F = lN ((64 - w) * B F + w * B (F ||| st))) → Q S') : wX1_workIn S (nI st) (nI w).toInt64 Q := by
  have hp := p256 hn
  unfold wX1_workIn
  rw [h4, shl1 (by omega), nI_l (by omega)]
  rintro _ rfl
  have key : ∀ (r t : Nat) (S' : MS), t + r = 2 ^ n → eqL 2 S S' → (∀ F, F < 2 ^ n → S'.2.1 2 F = lN (if F < t then (64 - w) * B F + w * B (F ||| st) else B F)) → LX1_workIn_11 (nI st) (lN w) (nI (2 ^ n)) (fun S_2 => ∀ S_3 : MS, S_3 = uF S_2 5 ((S_2.2.2 5) + 1) → Q S_3) Q (r + 1) S' (nI t) := by
    intro r
    induction r with
    | zero =>
      intro t S' ht he hf
      rw [LX1_workIn_11, nI_leI (by omega) (by omega)]
      refine ifT (by omega) ?_
      rintro _ rfl
      rw [he.2.1, h5, nI_1]
      refine h _ ⟨fun r _ => by rw [uF1, he.1], fun r hr => by rw [uF21]; exact he.2.2 r (by omega), fun k hk => by rw [uF22, if_neg (by omega), he.2.1]⟩ (by rw [uF1, he.1]) (by rw [uF22, if_neg (by omega), he.2.1]; exact h4) (by rw [uF22, if_pos rfl]) (fun F hF => ?_)
      rw [uF21, hf F hF, if_pos (by omega)]
    | succ r ih =>
      intro t S' ht he hf
      have hor : t ||| st < 2 ^ n := Nat.or_lt_two_pow (by omega) hst
      have hge : t ≤ t ||| st := Nat.left_le_or
      rw [LX1_workIn_11, nI_leI (by omega) (by omega)]
      refine ifF (by omega) ⟨vp_in_nI (by omega) (by omega), ?_⟩
      rw [fa_or]
      refine ⟨vp_in_nI (by omega) (by omega), vp_in_nI (by omega) (by omega), ?_⟩
      rintro _ rfl
      rw [nI_clamp (by omega), nI_clamp (by omega), hf t (by omega), hf _ hor, if_neg (by omega), if_neg (by omega), show (64 : Int64) = lN 64 from rfl, lN_sub hw, lN_mul, lN_mul, lN_add, nI_1]
      refine ih (t + 1) _ (by omega) (he.put _ _) (fun F hF => ?_)
      by_cases e : F = t
      · subst e; rw [uL_at, if_pos (by omega)]
      · rw [uL_nei e, hf F hF]
        by_cases g : F < t
        · rw [if_pos g, if_pos (by omega)]
        · rw [if_neg g, if_neg (by omega)]
  have := key (2 ^ n) 0 S (by omega) (eqL.rf _ _) (fun F hF => by rw [if_neg (by omega)]; exact hB F hF)
  exact ⟨_, this⟩
/-- what holds once a vote is taken -/
def OD (S : MS) (a : AS) (v : Nat) : Prop := aC S a ∧ S.2.2 4 = nI (mems (bel a v)).length ∧ S.2.2 5 = nI (evs a v) ∧ (∀ i, i < (mems (bel a v)).length → S.1 12 i = nI (mb (bel a v) i)) ∧
  ∀ F, F < 2 ^ (mems (bel a v)).length → S.2.1 2 F = lN (opL (evG a (bel a v)).reverse (gF a v) (spN F (bel a v) 12))
theorem str_pk {a : AS} {b g : Nat} (hb : b < 4096) : pkN (a.2 12 g) b 12 = 0 ↔ str a b g = false := by
  constructor
  · intro h
    unfold str
    rw [bne_eq_false_iff_eq]
    refine Nat.eq_of_testBit_eq (fun p => ?_)
    rw [Nat.testBit_and, Nat.zero_testBit]
    cases hp : b.testBit p
    · simp
    · have := pkB (n := a.2 12 g) hb hp
      rw [h, Nat.zero_testBit] at this
      rw [← this]; rfl
  · intro h
    unfold str at h
    rw [bne_eq_false_iff_eq] at h
    refine Nat.eq_of_testBit_eq (fun i => ?_)
    rw [Nat.zero_testBit]
    cases hi : (pkN (a.2 12 g) b 12).testBit i
    · rfl
    · rw [pkN_bit] at hi
      obtain ⟨p, h1, h2, h3, h4⟩ := hi
      have : (a.2 12 g &&& b).testBit p = true := by rw [Nat.testBit_and, h2, h4]; rfl
      rw [h, Nat.zero_testBit] at this
      exact absurd this (by decide)
theorem startFailing_spec {S : MS} {a : AS} (ok : OKa a) (hc : aC S a) {v : Nat} (hv : v < a.1 3) (h8 : evs a v ≤ 8) {Q : MS → Prop} (h : ∀ S', scC S S' → OD S' a v → Q S') : wX1_startFailing S (nI v) Q := by
  have hb4 := bel_4096 ok hv
  have hng := ok.hng
  have hnv := ok.hnv
  have hln : (mems (bel a v)).length ≤ 8 := by unfold evs at h8; omega
  have hp := p256 hln
  unfold wX1_startFailing
  refine takeMembers_spec ok hc hv hln (fun S1 hs1 h4 h5 hmb => ?_)
  generalize hbb : bel a v = b at *
  generalize hn : (mems b).length = n at *
  rw [h4, shl1 (by omega)]
  rintro _ rfl
  -- groups
  have hgrp : ∀ (r g : Nat) (S' : MS), g + r = a.1 2 → scC S S' → S'.2.2 4 = nI n → S'.2.2 5 = nI (n + fb_ct (str a b) g) → (∀ i, i < n → S'.1 12 i = nI (mb b i)) → (∀ F, F < 2 ^ n → S'.2.1 2 F = lN (opL ((grL a b g).map (fun g => (a.2 11 g, a.2 12 g))).reverse (gF a v) (spN F b 12))) → LX1_startFailing_54 (nI v) (fun S_5 => Q S_5) Q (r + 1) S' (nI g) := by
    intro r
    induction r with
    | zero =>
      intro g S' hg hs k4 k5 kmb kB
      have hc' := hc.sc hs
      rw [LX1_startFailing_54]
      unfold wX0_size
      dsimp only
      rw [hc'.hng, nI_leI (by omega) (by omega)]
      have e : g = a.1 2 := by omega
      subst e
      refine ifT (by omega) (h S' hs ⟨hc', ?_, ?_, ?_, ?_⟩)
      · rw [hbb, hn]; exact k4
      · unfold evs; rw [hbb, hn]; exact k5
      · rw [hbb, hn]; exact kmb
      · rw [hbb, hn]; exact kB
    | succ r ih =>
      intro g S' hg hs k4 k5 kmb kB
      have hc' := hc.sc hs
      have hlt := gp_lt ok (g := g) (by omega)
      have hgc := (ok.hgrp g (by omega)).1
      rw [LX1_startFailing_54]
      unfold wX0_size wX0_struckBy
      dsimp only
      rw [hc'.hng, nI_leI (by omega) (by omega)]
      refine ifF (by omega) ⟨vp_in_nI (by omega) (by omega), partsBelow_spec ok hc' hv ?_⟩
      rw [hbb, nI_clamp (by omega), hc'.hgp]
      refine packed_spec (by omega) (by omega) ?_
      have hpk := pkN_lt (a.2 12 g) b 12
      rw [← mems_len, hn] at hpk
      unfold JX1_startFailing_106
      rw [nI_e0 (by omega), str_pk hb4, nI_1]
      refine ⟨fun g0 => ?_, fun g0 => ?_⟩
      · refine ih (g + 1) S' (by omega) hs k4 ?_ kmb ?_
        · rw [fb_ct_succ, if_neg (by rw [g0]; decide), Nat.add_zero]; exact k5
        · rw [grL_succ, if_neg (by rw [g0]; decide), List.append_nil]; exact kB
      · have g1 : str a b g = true := by simpa using g0
        unfold wX0_shareOf
        refine ⟨vp_in_nI (by omega) (by omega), ?_⟩
        rw [nI_clamp (by omega), hc'.hgc]
        refine workIn_spec hln k4 k5 hpk hgc kB (fun S2 hs2 m12 m4 m5 mB => ih (g + 1) S2 (by omega) (hs.tr hs2) m4 ?_ (by rw [m12]; exact kmb) (fun F hF => ?_))
        · rw [fb_ct_succ, if_pos g1, ← Nat.add_assoc]; exact m5
        · rw [mB F hF, grL_succ, if_pos g1, List.map_append, List.reverse_append]
          show _ = lN (op1 (a.2 11 g) (a.2 12 g) (opL ((grL a b g).map (fun g => (a.2 11 g, a.2 12 g))).reverse (gF a v)) (spN F b 12))
          unfold op1
          have hloc := (gF_loc ok hv).opL ((grL a b g).map (fun g => (a.2 11 g, a.2 12 g))).reverse
          rw [hbb] at hloc
          rw [hloc (spN (F ||| pkN (a.2 12 g) b 12) b 12) (spN F b 12 ||| a.2 12 g) (fun p hp2 => ?_)]
          rw [spB hb4 hp2, Nat.testBit_or, Nat.testBit_or, spB hb4 hp2, pkB hb4 hp2]
  -- the sets without groups
  have hset : ∀ (r t : Nat) (S' : MS), t + r = 2 ^ n → eqL 2 S1 S' → (∀ F, F < t → S'.2.1 2 F = lN (gF a v (spN F b 12))) → LX1_startFailing_14 (nI v) (nI (2 ^ n)) (fun S_4 => ∃ n0 : Nat, LX1_startFailing_54 (nI v) (fun S_5 => Q S_5) Q n0 S_4 0) Q (r + 1) S' (nI t) := by
    intro r
    induction r with
    | zero =>
      intro t S' ht he hf
      rw [LX1_startFailing_14, nI_leI (by omega) (by omega)]
      refine ifT (by omega) ⟨_, hgrp (a.1 2) 0 S' (by omega) (hs1.tr (he.sc (by omega))) (by rw [he.2.1]; exact h4) (by rw [he.2.1]; exact h5) (by rw [he.1]; exact hmb) (fun F hF => hf F (by omega))⟩
    | succ r ih =>
      intro t S' ht he hf
      have hc' := hc.sc (hs1.tr (he.sc (by omega)))
      rw [LX1_startFailing_14, nI_leI (by omega) (by omega)]
      refine ifF (by omega) ?_
      rw [nI_s1 (by omega), pk_sub (show t ≤ 2 ^ n - 1 by omega)]
      refine actsIn_spec ok hc'.VV (Nat.le_refl _) hv (by rw [hbb, hn]; exact hln) (by rw [hbb, hn]; omega) ?_
      rw [hbb]
      have hact : act a v (sprd b (2 ^ n - 1 - t)) = act a v (fun p => !(spN t b 12).testBit p) := by
        refine act_dep ok v hv (fun p hp2 => ?_)
        rw [hbb] at hp2
        rw [spB hb4 hp2]
        unfold sprd
        have := (mb_of hp2 (lt12 hb4 hp2)).1
        rw [hn] at this
        rw [hp2, Bool.true_and, show 2 ^ n - 1 - t = 2 ^ n - (t + 1) by omega, Nat.testBit_two_pow_sub_succ (by omega)]
        simp [this]
      have hgo : ∀ z : Nat, z = gF a v (spN t b 12) → vp_in (nI t) 256 ∧ ∀ S_1 : MS, S_1 = uL S' 2 (nI t).toNatClampNeg (lN z) → LX1_startFailing_14 (nI v) (nI (2 ^ n)) (fun S_4 => ∃ n0 : Nat, LX1_startFailing_54 (nI v) (fun S_5 => Q S_5) Q n0 S_4 0) Q (r + 1) S_1 (nI (t + 1)) := by
        intro z hz
        refine ⟨vp_in_nI (by omega) (by omega), ?_⟩
        rintro _ rfl
        rw [nI_clamp (by omega)]
        refine ih (t + 1) _ (by omega) (he.put _ _) (fun F hF => ?_)
        by_cases e : F = t
        · subst e; rw [uL_at, hz]
        · rw [uL_nei e]; exact hf F (by omega)
      unfold JX1_startFailing_45
      rw [nI_1, hact]
      refine brB (fun e => hgo 0 (by unfold gF; rw [if_pos e])) (fun e => hgo 1 (by unfold gF; rw [if_neg (by rw [e]; decide)]))
  have := hset (2 ^ n) 0 S1 (by omega) (eqL.rf _ _) (fun F hF => by omega)
  exact ⟨_, this⟩
