/-! PURE SIDE: plan, findCheapest -/
/-- what the planner knows once some plans were looked at -/
def PS (a : AS) (v : Nat) (iv : Nat → Nat) (L t : Nat) (x : Int32) (S : MS) : Prop :=
  (bp a v iv L t = none → x = 0) ∧ ∀ s, bp a v iv L t = some s → x = 1 ∧ S.2.2 6 = nI (cA a v iv s (mems (bel a v)).length) ∧ S.2.2 7 = nI (tld s (mems (bel a v)).length)
theorem PS.keep {a : AS} {v : Nat} {iv : Nat → Nat} {L t t' : Nat} {x : Int32} {S S' : MS} (h : PS a v iv L t x S) (hb : bp a v iv L t' = bp a v iv L t) (hS : S'.2.2 = S.2.2) : PS a v iv L t' x S' := by
  refine ⟨fun g => h.1 (by rw [← hb]; exact g), fun s g => ?_⟩
  rw [hS]
  exact h.2 s (by rw [← hb]; exact g)
theorem PS.new {a : AS} {v : Nat} {iv : Nat → Nat} {L t s : Nat} {S : MS} (hb : bp a v iv L t = some s) (h6 : S.2.2 6 = nI (cA a v iv s (mems (bel a v)).length)) (h7 : S.2.2 7 = nI (tld s (mems (bel a v)).length)) : PS a v iv L t 1 S := by
  refine ⟨fun g => ?_, fun s' g => ?_⟩
  · rw [hb] at g; exact absurd g (by simp)
  · rw [hb] at g
    have := Option.some.inj g
    subst this
    exact ⟨rfl, h6, h7⟩
theorem OD.F {S : MS} {a : AS} {v k : Nat} {x : Int32} (h : OD S a v) (hk : 6 ≤ k) : OD (uF S k x) a v :=
  ⟨h.1.sc ⟨fun _ _ => rfl, fun _ _ => rfl, fun j hj => by rw [uF22, if_neg (by omega)]⟩, by rw [uF22, if_neg (by omega)]; exact h.2.1, by rw [uF22, if_neg (by omega)]; exact h.2.2.1, h.2.2.2.1, h.2.2.2.2⟩
theorem sc_F {S : MS} {k : Nat} {x : Int32} (hk : 4 ≤ k) : scC S (uF S k x) := ⟨fun _ _ => rfl, fun _ _ => rfl, fun j hj => by rw [uF22, if_neg (by omega)]⟩
theorem p27 {n : Nat} (h : n ≤ 3) : 3 ^ n ≤ 27 := Nat.pow_le_pow_right (n := 3) (by omega) h
theorem findIn_spec {S S0 : MS} {a : AS} (ok : OKa a) {v L t : Nat} (hv : v < a.1 3) (h8 : evs a v ≤ 8) (hn : (mems (bel a v)).length ≤ 3) (hL : L ≤ 28147497671065600) {iv : Nat → Nat} (hI : IV iv)
    (hs : scC S0 S) (hO : OD S a v) (h14 : ∀ j, j < 3 → S.1 14 j = nI (iv j)) (hch : ∀ i, i < (mems (bel a v)).length → S.1 15 i = nI (chA a v t i)) {x5 : Int32} {x4 : Int32} {Hd : MS → Int32 → Int32 → Prop} {K : MS → Int32 → Prop} {Q : Int32 → MS → Prop}
    (hP : PS a v iv L t x5 S) (hb1 : sA a v iv t 100 ≤ L → bp a v iv L (t + 1) = some t) (hb0 : ¬ sA a v iv t 100 ≤ L → bp a v iv L (t + 1) = bp a v iv L t)
    (h : ∀ S' x, scC S0 S' → OD S' a v → (∀ j, j < 3 → S'.1 14 j = nI (iv j)) → PS a v iv L (t + 1) x S' → Hd S' x (nI (t + 1))) : JX3_findCheapest_77 S (lN L) x4 x5 (nI t) (nI (cA a v iv t (mems (bel a v)).length)) Hd K Q := by
  unfold JX3_findCheapest_77
  refine keepsLaw_spec ok hv h8 hO hn hL hI h14 hch (fun S1 hk => brB (fun e => ?_) (fun e => ?_))
  · rw [decide_eq_true_iff] at e
    rintro _ rfl
    refine toldChoices_spec (t := t) (by rw [uF22, if_neg (by omega), hk.2.1]; exact hO.2.1) hn (fun i hi => by show S1.1 15 i = _; rw [hk.1 15 (by omega)]; exact hch i hi) ?_
    rintro _ rfl
    unfold JX3_findCheapest_102
    rw [nI_1]
    refine h _ _ ((hs.tr hk.sc).tr ((sc_F (by omega)).tr (sc_F (by omega)))) (((hk.OD hO).F (by omega)).F (by omega)) (fun j hj => by show S1.1 14 j = _; rw [hk.1 14 (by omega)]; exact h14 j hj) (PS.new (hb1 e) ?_ ?_)
    · rw [uF22, if_neg (by omega), uF22, if_pos rfl]
    · rw [uF22, if_pos rfl]
  · rw [decide_eq_false_iff_not] at e
    unfold JX3_findCheapest_102
    rw [nI_1]
    exact h _ _ (hs.tr hk.sc) (hk.OD hO) (fun j hj => by rw [hk.1 14 (by omega)]; exact h14 j hj) (hP.keep (hb0 e) hk.2.1)
theorem findCheapest_spec {S : MS} {a : AS} (ok : OKa a) (hc : aC S a) {v L : Nat} (hv : v < a.1 3) (h8 : evs a v ≤ 8) (hn : (mems (bel a v)).length ≤ 3) (hL : L ≤ 28147497671065600) {iv : Nat → Nat} (hI : IV iv) (h14 : ∀ j, j < 3 → S.1 14 j = nI (iv j)) {Q : Int32 → MS → Prop}
    (h : ∀ S' x, scC S S' → PS a v iv L (3 ^ (mems (bel a v)).length) x S' → Q x S') : wX3_findCheapest S (nI v) (lN L) Q := by
  have h27 := p27 hn
  unfold wX3_findCheapest
  refine startFailing_spec ok hc hv h8 (fun S1 hs1 hO1 => ?_)
  have h141 : ∀ j, j < 3 → S1.1 14 j = nI (iv j) := fun j hj => by rw [hs1.1 14 (Or.inr rfl)]; exact h14 j hj
  have key2 : ∀ (r t : Nat) (S' : MS) (x : Int32), t + r = 3 ^ (mems (bel a v)).length → scC S S' → OD S' a v → (∀ j, j < 3 → S'.1 14 j = nI (iv j)) → PS a v iv L t x S' → LX3_findCheapest_44 (lN L) (nI (3 ^ (mems (bel a v)).length)) (fun S_5 y_6 => narrow .boolean (.int y_6) = .int y_6 ∧ Q y_6 S_5) Q (r + 1) S' x (nI t) := by
    intro r
    induction r with
    | zero =>
      intro t S' x ht hs hO' h14' hP
      rw [LX3_findCheapest_44, nI_leI (by omega) (by omega)]
      refine ifT (by omega) ⟨?_, h S' x hs (by rw [show 3 ^ (mems (bel a v)).length = t by omega]; exact hP)⟩
      cases e : bp a v iv L t with
      | none => rw [hP.1 e]; rfl
      | some s => rw [(hP.2 s e).1]; rfl
    | succ r ih =>
      intro t S' x ht hs hO' h14' hP
      rw [LX3_findCheapest_44, nI_leI (by omega) (by omega)]
      refine ifF (by omega) (takeChoices_spec hO' hn (by omega) (fun S2 he2 hch => costOfChoices_spec ok hv (hO'.x15 he2) hn hI (by rw [he2.1 14 (by omega)]; exact h14') hch ?_))
      have h142 : ∀ j, j < 3 → S2.1 14 j = nI (iv j) := by rw [he2.1 14 (by omega)]; exact h14'
      have hs2 := hs.tr he2.sc15
      have hP2 : PS a v iv L t x S2 := hP.keep rfl (by rw [he2.2])
      cases e : bp a v iv L t with
      | none =>
        have hb := bp_n e
        exact ifT (hP.1 e) (findIn_spec ok hv h8 hn hL hI hs2 (hO'.x15 he2) h142 hch hP2 (fun g => by rw [hb, if_pos g]) (fun g => by rw [hb, if_neg g, e]) (fun S3 x3 hs3 hO3 h143 hP3 => ih (t + 1) S3 x3 (by omega) hs3 hO3 h143 hP3))
      | some s =>
        have hb := bp_s e
        have hx := hP2.2 s e
        have hl1 := cA_le ok (v := v) (iv := iv) (t := s) (mems (bel a v)).length
        have hl2 := cA_le ok (v := v) (iv := iv) (t := t) (mems (bel a v)).length
        rw [hx.2.1, nI_leI (by omega) (by omega)]
        refine ifF (by rw [hx.1]; decide) ⟨fun g => ?_, fun g => ?_⟩
        · unfold JX3_findCheapest_102
          rw [nI_1]
          exact ih (t + 1) S2 x (by omega) hs2 (hO'.x15 he2) h142 (hP2.keep (by rw [hb, if_pos g, e]) rfl)
        · exact findIn_spec ok hv h8 hn hL hI hs2 (hO'.x15 he2) h142 hch hP2 (fun g2 => by rw [hb, if_neg g, if_pos g2]) (fun g2 => by rw [hb, if_neg g, if_neg g2, e]) (fun S3 x3 hs3 hO3 h143 hP3 => ih (t + 1) S3 x3 (by omega) hs3 hO3 h143 hP3)
  have key1 : ∀ (r k : Nat), k + r = (mems (bel a v)).length → LX3_findCheapest_14 (lN L) (fun S_3 y_4 => ∃ n0 : Nat, LX3_findCheapest_44 (lN L) y_4 (fun S_5 y_6 => narrow .boolean (.int y_6) = .int y_6 ∧ Q y_6 S_5) Q n0 S_3 0 0) Q (r + 1) S1 (nI (3 ^ k)) (nI k) := by
    intro r
    induction r with
    | zero =>
      intro k hk
      rw [LX3_findCheapest_14]
      unfold wX1_memberCount
      dsimp only
      rw [hO1.2.1, nI_leI (by omega) (by omega)]
      refine ifT (by omega) ?_
      rw [show k = (mems (bel a v)).length by omega]
      have := key2 (3 ^ (mems (bel a v)).length) 0 S1 0 (by omega) hs1 hO1 h141 ⟨fun _ => rfl, fun s g => by unfold bp at g; exact absurd g (by simp)⟩
      exact ⟨_, this⟩
    | succ r ih =>
      intro k hk
      rw [LX3_findCheapest_14]
      unfold wX1_memberCount
      dsimp only
      rw [hO1.2.1, nI_leI (by omega) (by omega), show (3 : Int32) = nI 3 from rfl, pk_mul, nI_1, ← Nat.pow_succ]
      exact ifF (by omega) (ih (k + 1) (by omega))
  have := key1 (mems (bel a v)).length 0 (by omega)
  exact ⟨_, this⟩
