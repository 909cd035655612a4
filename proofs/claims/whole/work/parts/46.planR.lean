/-! PURE SIDE: plan, the reference -/
theorem aM.put6 {M : MS} {a : AS} {ev ev' : Nat → Nat} {fo : Nat → Int32} {p w : Nat} (h : aM M a ev fo) (hf : ∀ i, i < 12 → ev' i = if i = p then w else ev i) : aM (uI M 6 p (nI w)) a ev' fo := by
  have h6 : ∀ i, i < 12 → (uI M 6 p (nI w)).1 6 i = nI (ev' i) := by
    intro i hi
    rw [hf i hi]
    by_cases e : i = p
    · rw [e, uI_at, if_pos rfl]
    · rw [uI_nei e, if_neg e]; exact h.hev i hi
  have h1 : ∀ r, r ≠ 6 → (uI M 6 p (nI w)).1 r = M.1 r := fun r hr => uI_ne hr
  have h2 : (uI M 6 p (nI w)).2.2 = M.2.2 := rfl
  generalize uI M 6 p (nI w) = M' at *
  obtain ⟨g1, g2, g3, g4, r0, r1, r2, r3, r4, r5, r6, r7, r8, r9, r10, r11, r12, r13, r14, r15⟩ := h
  unfold aM
  rw [h2, h1 0 (by omega), h1 1 (by omega), h1 2 (by omega), h1 3 (by omega), h1 4 (by omega), h1 5 (by omega), h1 7 (by omega), h1 8 (by omega), h1 9 (by omega), h1 10 (by omega), h1 11 (by omega), h1 12 (by omega), h1 13 (by omega), h1 14 (by omega), h1 15 (by omega)]
  exact ⟨g1, g2, g3, g4, r0, r1, r2, r3, r4, r5, h6, r7, r8, r9, r10, r11, r12, r13, r14, r15⟩
theorem aM.evc {M : MS} {a : AS} {ev ev' : Nat → Nat} {fo : Nat → Int32} (h : aM M a ev fo) (hf : ∀ i, i < 12 → ev' i = ev i) : aM M a ev' fo := by
  obtain ⟨g1, g2, g3, g4, r0, r1, r2, r3, r4, r5, r6, r7, r8, r9, r10, r11, r12, r13, r14, r15⟩ := h
  exact ⟨g1, g2, g3, g4, r0, r1, r2, r3, r4, r5, fun i hi => by rw [hf i hi]; exact r6 i hi, r7, r8, r9, r10, r11, r12, r13, r14, r15⟩
theorem lifted_spec {M : MS} {a : AS} {ev : Nat → Nat} (hm : aM M a ev fo0) {Q : MS → Prop} (h : ∀ M', aM M' a ev0 fo0 → Q M') : wX6_lifted M Q := by
  have key : ∀ (r k : Nat) (M' : MS), k + r = 12 → aM M' a (fun p => if p < k then 0 else ev p) fo0 → LX6_lifted_2 (fun S_1 => Q S_1) Q (r + 1) M' (nI k) := by
    intro r
    induction r with
    | zero =>
      intro k M' hk hm'
      rw [LX6_lifted_2, show (12 : Int32) = nI 12 from rfl, nI_leI (by omega) (by omega)]
      exact ifT (by omega) (h M' (hm'.evc (fun i hi => by rw [if_pos (by omega)])))
    | succ r ih =>
      intro k M' hk hm'
      rw [LX6_lifted_2, show (12 : Int32) = nI 12 from rfl, nI_leI (by omega) (by omega)]
      refine ifF (by omega) ⟨vp_in_nI (by omega) (by omega), ?_⟩
      rintro _ rfl
      rw [nI_clamp (by omega), nI_1]
      refine ih (k + 1) _ (by omega) (hm'.put6 (w := 0) (fun i hi => ?_))
      by_cases e : i = k
      · rw [if_pos (by omega), if_pos e]
      · rw [if_neg e]
        by_cases g : i < k
        · rw [if_pos (by omega), if_pos g]
        · rw [if_neg (by omega), if_neg g]
  have := key 12 0 M (by omega) (hm.evc (fun i hi => by rw [if_neg (by omega)]))
  exact ⟨_, this⟩
theorem pw3 {n c : Nat} (h : c < n) : 3 ^ (n - 1) / 3 ^ c = 3 ^ (n - 1 - c) := by
  rw [Nat.pow_div (by omega) (by omega)]
theorem laid_spec {M : MS} {a : AS} (ok : OKa a) {ev : Nat → Nat} (hm : aM M a ev fo0) {v t : Nat} (hv : v < a.1 3) (hn : (mems (bel a v)).length ≤ 3) (ht : t < 2 ^ 31) {iv : Nat → Nat} (hI : IV iv) (h19 : ∀ j, j < 3 → M.1 19 j = nI (iv j)) (hz : ∀ p, (bel a v).testBit p = false → ev p = 0) {Q : Int32 → MS → Prop}
    (h : ∀ M', aM M' a (evA a v iv t) fo0 → M'.1 19 = M.1 19 → Q (nI (cA a v iv t (mems (bel a v)).length)) M') : wX6_laid M (nI (bel a v)) (nI (mems (bel a v)).length) (nI t) Q := by
  have hb4 := bel_4096 ok hv
  have hnp := ok.hnp
  have hl1 := mems_pos ok hv
  have hmm : fb_ct (bel a v).testBit (a.1 0) = (mems (bel a v)).length := by
    rw [← memN_np (bel_lt ok v hv) hnp]
    exact (memN_len _ _).symm
  have key2 : ∀ (r k : Nat) (M' : MS), k + r = a.1 0 → aM M' a (fun p => if p < k then evA a v iv t p else ev p) fo0 → M'.1 19 = M.1 19 → LX6_laid_30 (nI (bel a v)) (nI t) (fun S_3 y_4 => Q y_4 S_3) Q (r + 1) M' (nI (cA a v iv t (fb_ct (bel a v).testBit k))) (nI (3 ^ ((mems (bel a v)).length - 1) / 3 ^ (fb_ct (bel a v).testBit k))) (nI k) := by
    intro r
    induction r with
    | zero =>
      intro k M' hk hm' h19'
      rw [LX6_laid_30, hm'.hnp, nI_leI (by omega) (by omega)]
      refine ifT (by omega) ?_
      rw [show k = a.1 0 by omega, hmm]
      refine h M' (hm'.evc (fun i hi => ?_)) h19'
      by_cases g : i < k
      · rw [if_pos g]
      · rw [if_neg g]
        have hbf : (bel a v).testBit i = false := by
          cases e : (bel a v).testBit i with
          | false => rfl
          | true => have := bel_np ok hv e; omega
        rw [hz i hbf]
        unfold evA
        rw [if_neg (by rw [hbf]; decide)]
    | succ r ih =>
      intro k M' hk hm' h19'
      have hs := fb_ct_succ (bel a v).testBit k
      rw [LX6_laid_30, hm'.hnp, nI_leI (by omega) (by omega)]
      refine ifF (by omega) ?_
      rw [bitS1 (by omega) (by omega)]
      unfold JX6_laid_96
      rw [nI_1]
      refine ⟨fun hb => ?_, fun hb => ?_⟩
      · have hmk := mb_of hb (show k < 12 by omega)
        rw [if_pos hb] at hs
        have hc3 := chA_lt a v t (fb_ct (bel a v).testBit k)
        have hii := hI _ hc3
        have hpos : 0 < 3 ^ ((mems (bel a v)).length - 1 - fb_ct (bel a v).testBit k) := Nat.pow_pos (by omega)
        have hle : 3 ^ ((mems (bel a v)).length - 1 - fb_ct (bel a v).testBit k) ≤ 27 := p27 (by omega)
        have hdl : t / 3 ^ ((mems (bel a v)).length - 1 - fb_ct (bel a v).testBit k) < 2 ^ 31 := Nat.lt_of_le_of_lt (Nat.div_le_self _ _) ht
        have hch : t / 3 ^ ((mems (bel a v)).length - 1 - fb_ct (bel a v).testBit k) % 3 = chA a v t (fb_ct (bel a v).testBit k) := rfl
        have hnx : 3 ^ ((mems (bel a v)).length - 1 - fb_ct (bel a v).testBit k) / 3 = 3 ^ ((mems (bel a v)).length - 1) / 3 ^ (fb_ct (bel a v).testBit (k + 1)) := by
          rw [hs, ← dv3, pw3 hmk.1]
        rw [pw3 hmk.1, pk_div ht hpos (by omega), m3 hdl, hch, nI_clamp (by omega), nI_clamp (by omega), h19', h19 _ hc3, d3 (by omega), hnx]
        refine ⟨by rw [nI_e0 (by omega)]; omega, vp_in_nI (by omega) (by omega), vp_in_nI (by omega) (by omega), ?_⟩
        rintro _ rfl
        refine ⟨vp_in_nI (by omega) (by omega), vp_in_nI (by omega) (by omega), by rw [uI_at, nI_e0 (by omega)]; omega, ?_⟩
        rintro _ rfl
        have hev : aM (uI M' 6 k (nI (iv (chA a v t (fb_ct (bel a v).testBit k))))) a (fun p => if p < k + 1 then evA a v iv t p else ev p) fo0 := by
          refine hm'.put6 (fun i hi => ?_)
          by_cases e : i = k
          · subst e
            rw [if_pos (by omega), if_pos rfl]
            unfold evA
            rw [if_pos hb]
          · rw [if_neg e]
            by_cases g : i < k
            · rw [if_pos (by omega), if_pos g]
            · rw [if_neg (by omega), if_neg g]
        have := ih (k + 1) _ (by omega) hev (by rw [uI_ne (by omega)]; exact h19')
        have hcs : cA a v iv t (fb_ct (bel a v).testBit (k + 1)) = cA a v iv t (fb_ct (bel a v).testBit k) + a.2 3 k * (100 / iv (chA a v t (fb_ct (bel a v).testBit k))) := by
          rw [hs]
          unfold cA
          rw [fb_sm_succ, hmk.2]
        rw [uI_at, uI_ne (by omega), hm'.hc, show (100 : Int32) = nI 100 from rfl, pk_div (by omega) (by omega) (by omega), pk_mul, nI_add, ← hcs]
        exact this
      · rw [if_neg hb, Nat.add_zero] at hs
        have hbf : (bel a v).testBit k = false := by simpa using hb
        have := ih (k + 1) M' (by omega) (hm'.evc (fun i hi => by
          by_cases e : i = k
          · subst e
            rw [if_pos (by omega), if_neg (by omega), hz i hbf]
            unfold evA
            rw [if_neg hb]
          · by_cases g : i < k
            · rw [if_pos (by omega), if_pos g]
            · rw [if_neg (by omega), if_neg g])) h19'
        rw [hs] at this
        exact this
  have key1 : ∀ (r k : Nat), k + 1 + r = (mems (bel a v)).length → LX6_laid_9 (nI (bel a v)) (nI (mems (bel a v)).length) (nI t) 0 (fun S_1 y_2 => ∃ n0 : Nat, LX6_laid_30 (nI (bel a v)) (nI t) (fun S_3 y_4 => Q y_4 S_3) Q n0 S_1 0 y_2 0) Q (r + 1) M (nI (3 ^ k)) (nI (k + 1)) := by
    intro r
    induction r with
    | zero =>
      intro k hk
      rw [LX6_laid_9, nI_leI (by omega) (by omega)]
      refine ifT (by omega) ?_
      have := key2 (a.1 0) 0 M (by omega) (hm.evc (fun i hi => by rw [if_neg (by omega)])) rfl
      rw [show k = (mems (bel a v)).length - 1 by omega]
      rw [show fb_ct (bel a v).testBit 0 = 0 from rfl, Nat.pow_zero, Nat.div_one] at this
      exact ⟨_, this⟩
    | succ r ih =>
      intro k hk
      rw [LX6_laid_9, nI_leI (by omega) (by omega), show (3 : Int32) = nI 3 from rfl, pk_mul, nI_1, ← Nat.pow_succ]
      exact ifF (by omega) (ih (k + 1) (by omega))
  have := key1 ((mems (bel a v)).length - 1) 0 (by omega)
  exact ⟨_, this⟩
theorem evA_le {a : AS} {v : Nat} {iv : Nat → Nat} (hI : IV iv) (t p : Nat) : evA a v iv t p ≤ 100 := by
  unfold evA
  split
  · exact (hI _ (chA_lt a v t _)).2
  · omega
theorem days_r {M : MS} {a : AS} (ok : OKa a) {v t : Nat} {iv : Nat → Nat} (hI : IV iv) (hm : aM M a (evA a v iv t) fo0) (hv : v < a.1 3) (h8 : evs a v ≤ 8) {x5 : Int64} {x7 x8 x9 x10 x11 x12 x13 x14 : Int32} (hx : x10 < 0 ∨ ¬ x10 ≤ x14) {K : MS → Int64 → Prop} {Q : Int32 → MS → Prop}
    (h : ∀ M', scR M M' → K M' (lN (sA a v iv t 100))) : ∃ n, LX6_plan_185 (nI v) x5 x7 x8 x9 x10 x11 x12 x13 x14 K Q n M 0 0 := by
  have key : ∀ (r k : Nat) (M' : MS), k + r = 100 → scR M M' → LX6_plan_185 (nI v) x5 x7 x8 x9 x10 x11 x12 x13 x14 K Q (r + 1) M' (lN (sA a v iv t k)) (nI k) := by
    intro r
    induction r with
    | zero =>
      intro k M' hk hs
      rw [LX6_plan_185, show (100 : Int32) = nI 100 from rfl, nI_leI (by omega) (by omega), show k = 100 by omega]
      exact ifT (by omega) (h M' hs)
    | succ r ih =>
      intro k M' hk hs
      have hgo : wX6_chanceOf M' (nI v) (nI k) fun r_2 S_1 => LX6_plan_185 (nI v) x5 x7 x8 x9 x10 x11 x12 x13 x14 K Q (r + 1) S_1 (lN (sA a v iv t k) + r_2) (nI k + 1) := by
        refine chanceOf_spec ok (hm.sc' hs) hv h8 (by omega) (fun p _ => evA_le hI t p) (fun p _ => fo0_le p) (fun M2 hs2 => ?_)
        have := ih (k + 1) M2 (by omega) (hs.tr hs2)
        unfold sA at this ⊢
        rw [fb_sm_succ, ← lN_add] at this
        rw [nI_1]
        exact this
      rw [LX6_plan_185, show (100 : Int32) = nI 100 from rfl, nI_leI (by omega) (by omega)]
      refine ifF (by omega) ?_
      unfold JX6_plan_204
      refine ⟨fun _ => hgo, fun g => ?_⟩
      rcases hx with g' | g'
      · exact absurd g' g
      · exact ifF g' hgo
  have := key 100 0 M (by omega) (scR.rf _)
  exact ⟨_, this⟩
/-- what the reference knows once some plans were looked at -/
def PSR (a : AS) (v : Nat) (iv : Nat → Nat) (L t : Nat) (x y : Int32) : Prop :=
  (bp a v iv L t = none → x = -4 ∧ y = -1) ∧ ∀ s, bp a v iv L t = some s → x = nI (cA a v iv s (mems (bel a v)).length) ∧ y = nI s
theorem PSR.keep {a : AS} {v : Nat} {iv : Nat → Nat} {L t t' : Nat} {x y : Int32} (h : PSR a v iv L t x y) (hb : bp a v iv L t' = bp a v iv L t) : PSR a v iv L t' x y :=
  ⟨fun g => h.1 (by rw [← hb]; exact g), fun s g => h.2 s (by rw [← hb]; exact g)⟩
theorem PSR.new {a : AS} {v : Nat} {iv : Nat → Nat} {L t s : Nat} (hb : bp a v iv L t = some s) : PSR a v iv L t (nI (cA a v iv s (mems (bel a v)).length)) (nI s) := by
  refine ⟨fun g => ?_, fun s' g => ?_⟩
  · rw [hb] at g; exact absurd g (by simp)
  · rw [hb] at g
    have := Option.some.inj g
    subst this
    exact ⟨rfl, rfl⟩
def resP (a : AS) (v : Nat) (iv : Nat → Nat) (L : Nat) (x7 : Int32) : Int32 := match bp a v iv L (3 ^ (mems (bel a v)).length) with
  | none => -4
  | some s => if x7 = 0 then nI (cA a v iv s (mems (bel a v)).length) else nI (tld s (mems (bel a v)).length)
theorem resP_n {a : AS} {v : Nat} {iv : Nat → Nat} {L : Nat} {x7 : Int32} (h : bp a v iv L (3 ^ (mems (bel a v)).length) = none) : resP a v iv L x7 = -4 := by unfold resP; rw [h]
theorem resP_s {a : AS} {v : Nat} {iv : Nat → Nat} {L s : Nat} {x7 : Int32} (h : bp a v iv L (3 ^ (mems (bel a v)).length) = some s) : resP a v iv L x7 = if x7 = 0 then nI (cA a v iv s (mems (bel a v)).length) else nI (tld s (mems (bel a v)).length) := by unfold resP; rw [h]
theorem told_r {M : MS} {s n : Nat} (hn : n ≤ 3) (hs : s < 2 ^ 31) {Q : Int32 → MS → Prop} (h : Q (nI (tld s n)) M) : ∃ n0, LX6_plan_283 (nI n) (fun S_6 y_7 => Q y_7 S_6) Q n0 M 0 (nI s) 0 := by
  have key : ∀ (r k : Nat), k + r = n → LX6_plan_283 (nI n) (fun S_6 y_7 => Q y_7 S_6) Q (r + 1) M (nI (tld s k)) (nI (s / 3 ^ k)) (nI k) := by
    intro r
    induction r with
    | zero =>
      intro k hk
      rw [LX6_plan_283, nI_leI (by omega) (by omega)]
      exact ifT (by omega) (by rw [show k = n by omega]; exact h)
    | succ r ih =>
      intro k hk
      have hlt : s / 3 ^ k < 2 ^ 31 := Nat.lt_of_le_of_lt (Nat.div_le_self _ _) hs
      have := ih (k + 1) (by omega)
      rw [LX6_plan_283, nI_leI (by omega) (by omega), m3 hlt, d3 hlt, dv3, show (3 : Int32) = nI 3 from rfl, pk_mul, nI_add, nI_1, Nat.mul_comm 3]
      exact ifF (by omega) this
  have := key n 0 (by omega)
  rw [Nat.pow_zero, Nat.div_one] at this
  exact ⟨_, this⟩
theorem plan_r {M : MS} {a : AS} (ok : OKa a) (hm : aM M a ev0 fo0) {v L : Nat} (hv : v < a.1 3) (h8 : evs a v ≤ 8) (hn : (mems (bel a v)).length ≤ 3) (hL : L ≤ 28147497671065600) {iv : Nat → Nat} (hI : IV iv) (h19 : ∀ j, j < 3 → M.1 19 j = nI (iv j)) {x7 : Int32} {Q : Int32 → MS → Prop}
    (h : ∀ M', aM M' a ev0 fo0 → Q (resP a v iv L x7) M') : JX6_plan_155 M (nI v) (lN L) x7 (nI (bel a v)) (nI (mems (bel a v)).length) (-4) (-1) (nI (3 ^ (mems (bel a v)).length)) Q := by
  have h27 := p27 hn
  unfold JX6_plan_155
  generalize hK : (fun (S_1 : MS) (y_2 y_3 : Int32) => wX6_lifted S_1 fun S_4 => ((x7 = 0 → Q y_2 S_4) ∧ (¬ x7 = 0 → (((0 : Int32) ≤ y_3 → ∃ n0 : Nat, LX6_plan_283 (nI (mems (bel a v)).length) (fun S_6 y_7 => Q y_7 S_6) Q n0 S_4 0 y_3 0) ∧ (¬ (0 : Int32) ≤ y_3 → Q y_2 S_4))))) = K
  have hfin : ∀ (M' : MS) (ev : Nat → Nat) (x y : Int32), aM M' a ev fo0 → PSR a v iv L (3 ^ (mems (bel a v)).length) x y → K M' x y := by
    intro M' ev x y hm' hP
    rw [← hK]
    refine lifted_spec hm' (fun M2 hm2 => ?_)
    have hQ := h M2 hm2
    cases e : bp a v iv L (3 ^ (mems (bel a v)).length) with
    | none =>
      rw [resP_n e] at hQ
      rw [(hP.1 e).1, (hP.1 e).2]
      exact ⟨fun _ => hQ, fun _ => ifF (by decide) hQ⟩
    | some s =>
      have hsl := bp_lt e
      rw [resP_s e] at hQ
      rw [(hP.2 s e).1, (hP.2 s e).2]
      refine ⟨fun g => ?_, fun g => ifT ?_ (told_r hn (by omega) ?_)⟩
      · rw [if_pos g] at hQ; exact hQ
      · rw [show (0 : Int32) = nI 0 from rfl, nI_leI (by omega) (by omega)]; omega
      · rw [if_neg g] at hQ; exact hQ
  clear hK
  have key : ∀ (r t : Nat) (M' : MS) (ev : Nat → Nat) (x y : Int32), t + r = 3 ^ (mems (bel a v)).length → aM M' a ev fo0 → (∀ p, (bel a v).testBit p = false → ev p = 0) → M'.1 19 = M.1 19 → PSR a v iv L t x y → LX6_plan_160 (nI v) (lN L) x7 (nI (bel a v)) (nI (mems (bel a v)).length) (nI (3 ^ (mems (bel a v)).length)) K Q (r + 1) M' x y (nI t) := by
    intro r
    induction r with
    | zero =>
      intro t M' ev x y ht hm' hz h19' hP
      rw [LX6_plan_160, nI_leI (by omega) (by omega)]
      exact ifT (by omega) (hfin M' ev x y hm' (by rw [show 3 ^ (mems (bel a v)).length = t by omega]; exact hP))
    | succ r ih =>
      intro t M' ev x y ht hm' hz h19' hP
      have hl2 := cA_le ok (v := v) (iv := iv) (t := t) (mems (bel a v)).length
      have hs100 := sA_le ok h8 (iv := iv) (t := t) (Nat.le_refl 100)
      have hzA : ∀ p, (bel a v).testBit p = false → evA a v iv t p = 0 := fun p hp => by unfold evA; rw [if_neg (by rw [hp]; decide)]
      rw [LX6_plan_160, nI_leI (by omega) (by omega)]
      refine ifF (by omega) (laid_spec ok hm' hv hn (by omega) hI (by rw [h19']; exact h19) hz (fun M2 hm2 h192 => ?_))
      have h192' := h192.trans h19'
      have h234 : ∀ (M3 : MS), scR M2 M3 → (sA a v iv t 100 ≤ L → bp a v iv L (t + 1) = some t) → (¬ sA a v iv t 100 ≤ L → bp a v iv L (t + 1) = bp a v iv L t) → JX6_plan_234 M3 (nI v) (lN L) x7 (nI (bel a v)) (nI (mems (bel a v)).length) x y (nI (3 ^ (mems (bel a v)).length)) (nI t) (nI (cA a v iv t (mems (bel a v)).length)) (lN (sA a v iv t 100)) (fun S a10 a11 a13 => LX6_plan_160 (nI v) (lN L) x7 (nI (bel a v)) (nI (mems (bel a v)).length) (nI (3 ^ (mems (bel a v)).length)) K Q (r + 1) S a10 a11 a13) K Q := by
        intro M3 hs3 hb1 hb0
        unfold JX6_plan_234 JX6_plan_250
        rw [lgN (by omega) (by omega), nI_1]
        have h193 : M3.1 19 = M.1 19 := (hs3.1 19 (Or.inr rfl)).trans h192'
        refine ⟨fun g => ih (t + 1) M3 _ x y (by omega) (hm2.sc' hs3) hzA h193 (hP.keep (hb0 (by omega))), fun g => ih (t + 1) M3 _ _ _ (by omega) (hm2.sc' hs3) hzA h193 (PSR.new (hb1 (by omega)))⟩
      cases e : bp a v iv L t with
      | none =>
        have hb := bp_n e
        have hx : x < 0 := by rw [(hP.1 e).1]; decide
        refine days_r ok hI hm2 hv h8 (Or.inl hx) (fun M3 hs3 => ifT hx (h234 M3 hs3 (fun g => by rw [hb, if_pos g]) (fun g => by rw [hb, if_neg g, e])))
      | some s =>
        have hb := bp_s e
        have hxy := hP.2 s e
        have hl1 := cA_le ok (v := v) (iv := iv) (t := s) (mems (bel a v)).length
        have hx : ¬ x < 0 := by rw [hxy.1]; exact nlt0 (by omega)
        by_cases g : cA a v iv s (mems (bel a v)).length ≤ cA a v iv t (mems (bel a v)).length
        · have hx2 : x ≤ nI (cA a v iv t (mems (bel a v)).length) := by rw [hxy.1, nI_leI (by omega) (by omega)]; exact g
          refine ⟨1, ?_⟩
          rw [LX6_plan_185]
          refine ifF (by decide) (ifF hx (ifT hx2 (ifF hx (ifT hx2 ?_))))
          unfold JX6_plan_250
          rw [nI_1]
          exact ih (t + 1) M2 _ x y (by omega) hm2 hzA h192' (hP.keep (by rw [hb, if_pos g, e]))
        · have hx2 : ¬ x ≤ nI (cA a v iv t (mems (bel a v)).length) := by rw [hxy.1, nI_leI (by omega) (by omega)]; exact g
          refine days_r ok hI hm2 hv h8 (Or.inr hx2) (fun M3 hs3 => ifF hx (ifF hx2 (h234 M3 hs3 (fun g2 => by rw [hb, if_neg g, if_pos g2]) (fun g2 => by rw [hb, if_neg g, if_neg g2, e]))))
  have := key (3 ^ (mems (bel a v)).length) 0 M ev0 (-4) (-1) (by omega) hm (fun _ _ => rfl) rfl ⟨fun _ => ⟨rfl, rfl⟩, fun s g => by unfold bp at g; exact absurd g (by simp)⟩
  exact ⟨_, this⟩
