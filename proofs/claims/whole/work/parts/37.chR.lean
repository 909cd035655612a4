/-! PURE SIDE: the reference's chance -/
def memN (b k : Nat) : List Nat := (List.range k).filter (fun p => b.testBit p)
theorem memN_succ (b k : Nat) : memN b (k + 1) = memN b k ++ (if b.testBit k = true then [k] else []) := by
  unfold memN
  rw [List.range_succ, List.filter_append]
  cases hb : b.testBit k <;> simp [hb]
theorem memN_tail {b n : Nat} (hb : b < 2 ^ n) : ∀ r, memN b (n + r) = memN b n
  | 0 => rfl
  | r + 1 => by
    rw [← Nat.add_assoc, memN_succ, memN_tail hb r, Nat.testBit_lt_two_pow (Nat.lt_of_lt_of_le hb (Nat.pow_le_pow_right (n := 2) (by omega) (by omega)))]
    simp
theorem memN_np {b n : Nat} (hb : b < 2 ^ n) (hn : n ≤ 12) : memN b n = mems b := by
  have := memN_tail hb (12 - n)
  rw [show n + (12 - n) = 12 by omega] at this
  exact this.symm
def grL (a : AS) (b k : Nat) : List Nat := (List.range k).filter (str a b)
theorem grL_succ (a : AS) (b k : Nat) : grL a b (k + 1) = grL a b k ++ (if str a b k = true then [k] else []) := by
  unfold grL
  rw [List.range_succ, List.filter_append]
  cases hb : str a b k <;> simp [hb]
theorem grL_len (a : AS) (b : Nat) : ∀ k, (grL a b k).length = fb_ct (str a b) k
  | 0 => rfl
  | k + 1 => by rw [grL_succ, List.length_append, grL_len a b k, fb_ct_succ]; split <;> rfl
def evP (b : Nat) (sh : Nat → Nat) : List (Nat × Nat) := (mems b).map (fun p => (sh p, 2 ^ p))
def evG (a : AS) (b : Nat) : List (Nat × Nat) := (grL a b (a.1 2)).map (fun g => (a.2 11 g, a.2 12 g))
def gF (a : AS) (v s : Nat) : Nat := if act a v (fun p => !s.testBit p) = true then 0 else 1
/-- the chance of a vote, by 64 to the 8th, for given shares -/
def CH (a : AS) (v : Nat) (sh : Nat → Nat) : Nat := opL (evP (bel a v) sh ++ evG a (bel a v)) (gF a v) 0 * 64 ^ (8 - evs a v)
theorem ev_len (a : AS) (v : Nat) (sh : Nat → Nat) : (evP (bel a v) sh ++ evG a (bel a v)).length = evs a v := by
  unfold evs evP evG
  rw [List.length_append, List.length_map, List.length_map, grL_len]
theorem mem_mems {b p : Nat} : p ∈ mems b ↔ p < 12 ∧ b.testBit p = true := by simp [mems]
theorem ev_le {a : AS} (ok : OKa a) {b : Nat} {sh : Nat → Nat} (hsh : ∀ p, b.testBit p = true → sh p ≤ 64) : ∀ e ∈ evP b sh ++ evG a b, e.1 ≤ 64 ∧ e.2 < 4096 := by
  intro e he
  rcases List.mem_append.mp he with h | h
  · obtain ⟨p, hp, rfl⟩ := List.mem_map.mp h
    rw [mem_mems] at hp
    exact ⟨hsh p hp.2, Nat.pow_lt_pow_right (a := 2) (n := 12) (by omega) hp.1⟩
  · obtain ⟨g, hg, rfl⟩ := List.mem_map.mp h
    have hg2 : g < a.1 2 := by
      have := (List.mem_filter.mp hg).1
      simpa using this
    exact ⟨(ok.hgrp g hg2).1, gp_lt ok hg2⟩
theorem getD_all {α : Type} {P : α → Prop} {L : List α} {d : α} (h : ∀ e ∈ L, P e) {i : Nat} (hi : i < L.length) : P (L.getD i d) := by
  rw [List.getD_eq_getElem?_getD, List.getElem?_eq_getElem hi]
  exact h _ (List.getElem_mem hi)
theorem gF_le (a : AS) (v s : Nat) : gF a v s ≤ 1 := by unfold gF; split <;> omega
theorem CH_le {a : AS} (ok : OKa a) {v : Nat} {sh : Nat → Nat} (h8 : evs a v ≤ 8) (hsh : ∀ p, (bel a v).testBit p = true → sh p ≤ 64) : CH a v sh ≤ 281474976710656 := by
  unfold CH
  have h := opL_le (evP (bel a v) sh ++ evG a (bel a v)) (gF a v) 1 (fun e he => (ev_le ok hsh e he).1) (gF_le a v) 0
  rw [ev_len, Nat.mul_one] at h
  have h2 := Nat.mul_le_mul_right (64 ^ (8 - evs a v)) h
  rw [← Nat.pow_add, show evs a v + (8 - evs a v) = 8 by omega] at h2
  exact h2
/-- only what is worked with has changed -/
def scR (M M' : MS) : Prop := (∀ r, r ≤ 15 ∨ r = 19 → M'.1 r = M.1 r) ∧ ∀ k, k < 4 → M'.2.2 k = M.2.2 k
theorem scR.rf (M : MS) : scR M M := ⟨fun _ _ => rfl, fun _ _ => rfl⟩
theorem scR.tr {M M' M'' : MS} (h : scR M M') (h' : scR M' M'') : scR M M'' := ⟨fun r hr => (h'.1 r hr).trans (h.1 r hr), fun k hk => (h'.2 k hk).trans (h.2 k hk)⟩
theorem eqx.sc {k : Nat} {M M' : MS} (h : eqx k M M') (hk : 16 ≤ k ∧ k ≠ 19) : scR M M' := ⟨fun r hr => h.1 r (by omega), fun _ _ => by rw [h.2]⟩
theorem aM.sc' {M M' : MS} {a : AS} {ev : Nat → Nat} {fo : Nat → Int32} (h : aM M a ev fo) (hs : scR M M') : aM M' a ev fo := h.same (fun r hr => hs.1 r (Or.inl hr)) hs.2
theorem getD_snoc {L : List (Nat × Nat)} {x : Nat × Nat} {e : Nat} (he : e < (L ++ [x]).length) : (L ++ [x]).getD e (0, 0) = if e = L.length then x else L.getD e (0, 0) := by
  rw [List.length_append, List.length_singleton] at he
  by_cases h : e = L.length
  · subst h; simp
  · rw [if_neg h, List.getD_eq_getElem?_getD, List.getD_eq_getElem?_getD, List.getElem?_append_left (by omega)]
theorem adds_spec {M : MS} {L : List (Nat × Nat)} (hL : evL M L) (hl : L.length < 24) {w k : Nat} {Q : MS → Prop} (h : ∀ M', scR M M' → evL M' (L ++ [(w, k)]) → Q M') : wX6_adds M (nI w) (nI k) Q := by
  unfold wX6_adds
  rw [hL.1]
  refine ⟨vp_in_nI hl (by omega), ?_⟩
  rintro _ rfl
  rw [show (uI M 17 (nI L.length).toNatClampNeg (nI w)).2.2 4 = nI L.length from hL.1]
  refine ⟨vp_in_nI hl (by omega), ?_⟩
  rintro _ rfl _ rfl
  rw [show (uI (uI M 17 (nI L.length).toNatClampNeg (nI w)) 18 (nI L.length).toNatClampNeg (nI k)).2.2 4 = nI L.length from hL.1, nI_clamp (by omega), nI_1]
  refine h _ ⟨fun r hr => by rw [uF1, uI_ne (by omega), uI_ne (by omega)], fun r hr => by rw [uF22, if_neg (by omega)]; rfl⟩ ⟨?_, fun e he => ?_⟩
  · rw [uF22, if_pos rfl, List.length_append, List.length_singleton]
  · rw [getD_snoc he, uF1, uI_ne (r := 17) (by omega)]
    rw [List.length_append, List.length_singleton] at he
    by_cases e1 : e = L.length
    · subst e1; rw [if_pos rfl, uI_at, uI_at]; exact ⟨rfl, rfl⟩
    · rw [if_neg e1, uI_nei e1, uI_nei e1, uI_ne (by omega)]
      exact hL.2 e (by omega)
theorem shv_le {a : AS} {ev : Nat → Nat} {fo : Nat → Int32} {p d : Nat} (h : (fo p).toInt ≤ 64) : shv a ev fo p d ≤ 64 := by
  unfold shv
  split
  · omega
  · split
    · omega
    · exact Nat.min_le_left _ _
theorem bitS1 {n k : Nat} (hn : n < 2 ^ 31) (hk : k < 32) : nI n >>> (nI k &&& 31) &&& 1 = 1 ↔ n.testBit k = true := by
  rw [bitS hn hk]
  cases n.testBit k
  · exact ⟨fun h => absurd h (by decide), fun h => absurd h (by decide)⟩
  · exact ⟨fun _ => rfl, fun _ => rfl⟩
theorem chanceOf_spec {M : MS} {a : AS} {ev : Nat → Nat} {fo : Nat → Int32} (ok : OKa a) (hm : aM M a ev fo) {v d : Nat} (hv : v < a.1 3) (h8 : evs a v ≤ 8) (hd : d ≤ 999) (hev : ∀ p, p < a.1 0 → ev p ≤ 100) (hfo : ∀ p, p < a.1 0 → (fo p).toInt ≤ 64) {Q : Int64 → MS → Prop}
    (h : ∀ M', scR M M' → Q (lN (CH a v (fun p => shv a ev fo p d))) M') : wX6_chanceOf M (nI v) (nI d) Q := by
  have hnp := ok.hnp
  have hng := ok.hng
  have hblt := bel_lt ok v hv
  have hb4 := bel_4096 ok hv
  have hbp : ∀ p, (bel a v).testBit p = true → p < a.1 0 := by
    intro p hp
    rcases Nat.lt_or_ge p (a.1 0) with g | g
    · exact g
    · rw [Nat.testBit_lt_two_pow (Nat.lt_of_lt_of_le hblt (Nat.pow_le_pow_right (n := 2) (by omega) g))] at hp; exact absurd hp (by decide)
  unfold wX6_chanceOf
  refine partsOf_spec ok hm hv (fun M1 he1 => ?_)
  rintro _ rfl
  have hsc1 : scR M (uF M1 4 0) := ⟨fun r hr => he1.1 r (by omega), fun k hk => by rw [uF22, if_neg (by omega), he1.2]⟩
  -- groups
  have hgrp : ∀ (r g : Nat) (M' : MS), g + r = a.1 2 → scR M M' → evL M' (evP (bel a v) (fun p => shv a ev fo p d) ++ (grL a (bel a v) g).map (fun g => (a.2 11 g, a.2 12 g))) → ∀ {K : MS → Prop} {Q : Int64 → MS → Prop}, (∀ M'', scR M M'' → evL M'' (evP (bel a v) (fun p => shv a ev fo p d) ++ evG a (bel a v)) → K M'') → LX6_chanceOf_57 (nI v) (nI (bel a v)) K Q (r + 1) M' (nI g) := by
    intro r
    induction r with
    | zero =>
      intro g M' hg hs hl K Q hK
      have hm' := hm.sc' hs
      rw [LX6_chanceOf_57, hm'.hng, nI_leI (by omega) (by omega)]
      exact ifT (by omega) (hK M' hs (by rw [show g = a.1 2 by omega] at hl; exact hl))
    | succ r ih =>
      intro g M' hg hs hl K Q hK
      have hm' := hm.sc' hs
      have hlt := gp_lt ok (g := g) (by omega)
      rw [LX6_chanceOf_57, hm'.hng, nI_leI (by omega) (by omega)]
      refine ifF (by omega) ⟨vp_in_nI (by omega) (by omega), ?_⟩
      rw [nI_clamp (by omega), hm'.hgp, hm'.hgc, str_iff (by omega)]
      unfold JX6_chanceOf_96
      rw [nI_1]
      refine ⟨fun g0 => ?_, fun g0 => ⟨vp_in_nI (by omega) (by omega), vp_in_nI (by omega) (by omega), ?_⟩⟩
      · refine ih (g + 1) M' (by omega) hs ?_ hK
        rw [grL_succ, g0, if_neg (by decide), List.append_nil]
        exact hl
      · have hlen : (evP (bel a v) (fun p => shv a ev fo p d) ++ (grL a (bel a v) g).map (fun g => (a.2 11 g, a.2 12 g))).length < 24 := by
          rw [List.length_append, List.length_map, grL_len]
          unfold evP
          rw [List.length_map]
          have := fb_ct_le (str a (bel a v)) g
          have := fb_ct_le (bel a v).testBit 12
          rw [← mems_len] at this
          omega
        refine adds_spec hl hlen (fun M2 hs2 hl2 => ih (g + 1) M2 (by omega) (hs.tr hs2) ?_ hK)
        rw [grL_succ, if_pos (by simpa using g0), List.map_append, ← List.append_assoc]
        exact hl2
  -- parts
  have hprt : ∀ (r p : Nat) (M' : MS), p + r = a.1 0 → scR M M' → evL M' ((memN (bel a v) p).map (fun p => (shv a ev fo p d, 2 ^ p))) → ∀ {K : MS → Prop} {Q : Int64 → MS → Prop}, (∀ M'', scR M M'' → evL M'' (evP (bel a v) (fun p => shv a ev fo p d)) → K M'') → LX6_chanceOf_14 (nI v) (nI d) (nI (bel a v)) K Q (r + 1) M' (nI p) := by
    intro r
    induction r with
    | zero =>
      intro p M' hp hs hl K Q hK
      have hm' := hm.sc' hs
      rw [LX6_chanceOf_14, hm'.hnp, nI_leI (by omega) (by omega)]
      refine ifT (by omega) (hK M' hs ?_)
      rw [show p = a.1 0 by omega, memN_np hblt hnp] at hl
      exact hl
    | succ r ih =>
      intro p M' hp hs hl K Q hK
      have hm' := hm.sc' hs
      rw [LX6_chanceOf_14, hm'.hnp, nI_leI (by omega) (by omega)]
      refine ifF (by omega) ?_
      rw [bitS1 (by omega) (by omega)]
      unfold JX6_chanceOf_48
      rw [nI_1]
      refine ⟨fun g0 => ?_, fun g0 => ?_⟩
      · refine shareOf_spec ok hm' (by omega) hd (hev p (by omega)) ?_
        rw [shl1 (by omega)]
        have hlen : ((memN (bel a v) p).map (fun p => (shv a ev fo p d, 2 ^ p))).length < 24 := by
          rw [List.length_map]
          have := List.length_filter_le (fun q => (bel a v).testBit q) (List.range p)
          rw [List.length_range] at this
          unfold memN
          omega
        refine adds_spec hl hlen (fun M2 hs2 hl2 => ih (p + 1) M2 (by omega) (hs.tr hs2) ?_ hK)
        rw [memN_succ, if_pos g0, List.map_append]
        exact hl2
      · refine ih (p + 1) M' (by omega) hs ?_ hK
        rw [memN_succ, if_neg g0, List.append_nil]
        exact hl
  have hsh : ∀ p, (bel a v).testBit p = true → shv a ev fo p d ≤ 64 := fun p hp => shv_le (hfo p (hbp p hp))
  have hend : ∀ M'', scR M M'' → evL M'' (evP (bel a v) (fun p => shv a ev fo p d) ++ evG a (bel a v)) → wX6_sums M'' (nI v) 1 fun r_7 S_6 => Q r_7 S_6 := by
    intro M'' hs hl
    refine sums_spec (fl := true) (g := gF a v) ok (hm.sc' hs) hv hl (by rw [ev_len]; exact h8) (fun e he => getD_all (P := fun x => x.1 ≤ 64) (fun x hx => (ev_le ok hsh x hx).1) he) (fun e he => getD_all (P := fun x => x.2 < 4096) (fun x hx => (ev_le ok hsh x hx).2) he) (fun s hs => ?_) (fun M3 he3 => ?_)
    · unfold gF; simp
    · rw [ev_len, opL_perm (List.reverse_perm _)]
      exact h M3 (hs.tr (he3.sc (by omega)))
  have := hprt (a.1 0) 0 (uF M1 4 0) (by omega) hsc1 ⟨rfl, fun e he => by simp [memN] at he⟩ (K := fun S_4 => ∃ n0 : Nat, LX6_chanceOf_57 (nI v) (nI (bel a v)) (fun S_5 => wX6_sums S_5 (nI v) 1 fun r_7 S_6 => Q r_7 S_6) Q n0 S_4 0) (Q := Q) (fun M'' hs hl => ⟨_, hgrp (a.1 2) 0 M'' (by omega) hs (by simpa [grL] using hl) hend⟩)
  exact ⟨_, this⟩
