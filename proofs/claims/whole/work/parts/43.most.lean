/-! PURE SIDE: most -/
def sub (s s' : Nat) : Prop := ∀ p, s.testBit p = true → s'.testBit p = true
theorem sub.or {s s' : Nat} (h : sub s s') (k : Nat) : sub (s ||| k) (s' ||| k) := by
  intro p hp
  rw [Nat.testBit_or] at hp ⊢
  rcases Bool.or_eq_true_iff.mp hp with g | g
  · rw [h p g, Bool.true_or]
  · rw [g, Bool.or_true]
theorem sub.left (s k : Nat) : sub s (s ||| k) := by
  intro p hp
  rw [Nat.testBit_or, hp, Bool.true_or]
theorem sub.rf (s : Nat) : sub s s := fun _ h => h
def monF (f : Nat → Nat) : Prop := ∀ s s', sub s s' → f s ≤ f s'
theorem monF.op {w k : Nat} {f : Nat → Nat} (h : monF f) : monF (op1 w k f) := by
  intro s s' hs
  unfold op1
  exact Nat.add_le_add (Nat.mul_le_mul_left _ (h _ _ hs)) (Nat.mul_le_mul_left _ (h _ _ (hs.or k)))
theorem monF.opL {f : Nat → Nat} (h : monF f) : ∀ L, monF (opL L f)
  | [] => h
  | e :: L => (monF.opL h L).op
theorem inA_mono {a : AS} (f g A B : Nat → Bool) (v : Nat) : ∀ j, (∀ i, i < j → (a.2 15 (4 * v + i) < 12 → A (a.2 15 (4 * v + i)) = true → B (a.2 15 (4 * v + i)) = true) ∧ (12 ≤ a.2 15 (4 * v + i) → f (a.2 15 (4 * v + i) - 12) = true → g (a.2 15 (4 * v + i) - 12) = true)) → inA a f A v j ≤ inA a g B v j
  | 0, _ => Nat.le_refl _
  | j + 1, h => by
    have ih := inA_mono f g A B v j (fun i hi => h i (by omega))
    have hj := h j (by omega)
    unfold inA
    by_cases e : a.2 15 (4 * v + j) < 12
    · rw [if_pos e, if_pos e]
      by_cases g1 : A (a.2 15 (4 * v + j)) = true
      · rw [if_pos g1, if_pos (hj.1 e g1)]; omega
      · rw [if_neg g1]; omega
    · rw [if_neg e, if_neg e]
      by_cases g1 : f (a.2 15 (4 * v + j) - 12) = true
      · rw [if_pos g1, if_pos (hj.2 (by omega) g1)]; omega
      · rw [if_neg g1]; omega
theorem act_mono {a : AS} (ok : OKa a) {A B : Nat → Bool} (h : ∀ p, A p = true → B p = true) : ∀ (v : Nat), v < a.1 3 → act a v A = true → act a v B = true := by
  intro v
  induction v using Nat.strongRecOn with
  | ind v ih =>
    intro hv ha
    rw [act_eq ok hv, decide_eq_true_iff] at ha ⊢
    refine Nat.le_trans ha (inA_mono _ _ A B v (a.2 14 v) (fun i hi => ⟨fun _ => h _, fun g => ?_⟩))
    have := ok.hinp v i hv hi
    have := ok.hnp
    exact ih _ (by omega) (by omega)
theorem gF_mono {a : AS} (ok : OKa a) {v : Nat} (hv : v < a.1 3) : monF (gF a v) := by
  intro s s' hs
  unfold gF
  by_cases g : act a v (fun p => !s.testBit p) = true
  · rw [if_pos g]; exact Nat.zero_le _
  · have g' : ¬ act a v (fun p => !s'.testBit p) = true := by
      intro e
      refine g (act_mono ok (A := fun p => !s'.testBit p) (fun p hp => ?_) v hv e)
      cases h1 : s.testBit p with
      | false => rfl
      | true => have := hs p h1; rw [this] at hp; exact absurd hp (by decide)
    rw [if_neg g, if_neg g']
    exact Nat.le_refl _
theorem wsum_le {w w' x y x' y' : Nat} (hw : w ≤ w') (hw' : w' ≤ 64) (hx : x ≤ x') (hy : y ≤ y') (hxy : x' ≤ y') : (64 - w) * x + w * y ≤ (64 - w') * x' + w' * y' := by
  obtain ⟨t, rfl⟩ := Nat.exists_eq_add_of_le hw
  have h1 := Nat.mul_le_mul_left (64 - w) hx
  have h2 := Nat.mul_le_mul_left w hy
  have h3 := Nat.mul_le_mul_left t hxy
  rw [show 64 - w = (64 - (w + t)) + t by omega, Nat.add_mul] at h1 ⊢
  rw [Nat.add_mul w t]
  rw [Nat.add_mul] at h1
  omega
theorem opL_sh {f : Nat → Nat} (hf : monF f) (G : List (Nat × Nat)) {sh sh' : Nat → Nat} : ∀ (L : List Nat), (∀ q ∈ L, sh q ≤ sh' q ∧ sh' q ≤ 64) → ∀ s, opL (L.map (fun q => (sh q, 2 ^ q)) ++ G) f s ≤ opL (L.map (fun q => (sh' q, 2 ^ q)) ++ G) f s
  | [], _, s => Nat.le_refl _
  | q :: L, h, s => by
    have ih := opL_sh hf G (sh := sh) (sh' := sh') L (fun q hq => h q (List.mem_cons_of_mem _ hq))
    have hq := h q List.mem_cons_self
    show op1 (sh q) (2 ^ q) (opL (L.map (fun q => (sh q, 2 ^ q)) ++ G) f) s ≤ op1 (sh' q) (2 ^ q) (opL (L.map (fun q => (sh' q, 2 ^ q)) ++ G) f) s
    unfold op1
    exact wsum_le hq.1 hq.2 (ih _) (ih _) (hf.opL _ _ _ (sub.left _ _))
theorem CH_mono {a : AS} (ok : OKa a) {v : Nat} (hv : v < a.1 3) {sh sh' : Nat → Nat} (h : ∀ q, sh q ≤ sh' q ∧ sh' q ≤ 64) : CH a v sh ≤ CH a v sh' := by
  unfold CH evP
  exact Nat.mul_le_mul_right _ (opL_sh (gF_mono ok hv) _ _ (fun q _ => h q) 0)
theorem shP_le (a : AS) {d p w : Nat} (hw : w ≤ 64) (q : Nat) : shP a d p w q ≤ 64 := by
  unfold shP
  by_cases e : q = p
  · rw [if_pos e]; exact hw
  · rw [if_neg e]; exact shv_le (fo0_le _)
theorem WT_pos {a : AS} (ok : OKa a) {v : Nat} (hv : v < a.1 3) (h8 : evs a v ≤ 8) (d p : Nat) : 0 ≤ (WT a v d p).toInt := by
  have h1 : CH a v (shP a d p 0) ≤ CH a v (shP a d p 64) := CH_mono ok hv (fun q => ⟨by
    unfold shP
    by_cases e : q = p
    · rw [if_pos e, if_pos e]; omega
    · rw [if_neg e, if_neg e]; exact Nat.le_refl _, shP_le a (Nat.le_refl _) q⟩)
  have h2 := CH_le ok (v := v) h8 (fun q _ => shP_le a (d := d) (p := p) (Nat.le_refl 64) q)
  unfold WT
  rw [lN_sub h1, pk_lT (by omega)]
  omega
/-- the place of the weightiest of the first places -/
def bst (W : Nat → Int64) : Nat → Nat
  | 0 => 0
  | 1 => 0
  | i + 2 => if lg_cmp (W (i + 1)) (W (bst W (i + 1))) ≤ 0 then bst W (i + 1) else i + 1
theorem bst_lt (W : Nat → Int64) : ∀ i, 1 ≤ i → bst W i < i
  | 0, h => absurd h (by omega)
  | 1, _ => by unfold bst; omega
  | i + 2, _ => by
    have := bst_lt W (i + 1) (by omega)
    unfold bst
    split <;> omega
theorem bst_s (W : Nat → Int64) {i : Nat} (h : 1 ≤ i) : bst W (i + 1) = if lg_cmp (W i) (W (bst W i)) ≤ 0 then bst W i else i := by
  obtain ⟨j, rfl⟩ : ∃ j, i = j + 1 := ⟨i - 1, by omega⟩
  rfl
theorem bel_ne0 {a : AS} (ok : OKa a) : ∀ (v : Nat), v < a.1 3 → ∃ p, (bel a v).testBit p = true := by
  intro v
  induction v using Nat.strongRecOn with
  | ind v ih =>
    intro hv
    have h1 := ok.hvot v hv
    have hb := bel_bits ok hv (j := 0) (by omega)
    have hi := ok.hinp v 0 hv (by omega)
    have := ok.hnp
    rcases Nat.lt_or_ge (a.2 15 (4 * v + 0)) 12 with g | g
    · exact ⟨_, hb.1 g⟩
    · obtain ⟨p, hp⟩ := ih (a.2 15 (4 * v + 0) - 12) (by omega) (by omega)
      exact ⟨p, hb.2 g p hp⟩
theorem mems_pos {a : AS} (ok : OKa a) {v : Nat} (hv : v < a.1 3) : 1 ≤ (mems (bel a v)).length := by
  obtain ⟨p, hp⟩ := bel_ne0 ok v hv
  have := (mb_of hp (lt12 (bel_4096 ok hv) hp)).1
  omega
theorem most_c {S : MS} {a : AS} (ok : OKa a) {v d : Nat} (hv : v < a.1 3) (h8 : evs a v ≤ 8) (hd : d ≤ 999) (hO : OD S a v) {Q : Int32 → MS → Prop}
    (h : ∀ S', scC S S' → Q (nI (mb (bel a v) (bst (fun i => WT a v d (mb (bel a v) i)) (mems (bel a v)).length))) S') : wX1_weightiestPart S (nI d) Q := by
  have hln : (mems (bel a v)).length ≤ 8 := by unfold evs at h8; omega
  have hl1 := mems_pos ok hv
  unfold wX1_weightiestPart
  refine takeShares_spec ok hv h8 hd hO (fun S1 he1 hS => ?_)
  have hO1 := hO.x13 he1
  have hs1 : scC S S1 := he1.sc13
  refine weightAt_spec (i := 0) ok hv h8 hO1 hS (by omega) (fun S2 hs2 hO2 hS2 => ?_)
  have key : ∀ (r k : Nat) (S' : MS), k + r = (mems (bel a v)).length → 1 ≤ k → scC S S' → OD S' a v → SH S' a v d → LX1_weightiestPart_16 (fun S_5 y_6 => vp_in y_6 8 ∧ Q (S_5.1 12 y_6.toNatClampNeg) S_5) Q (r + 1) S' (nI (bst (fun i => WT a v d (mb (bel a v) i)) k)) (WT a v d (mb (bel a v) (bst (fun i => WT a v d (mb (bel a v) i)) k))) (nI k) := by
    intro r
    induction r with
    | zero =>
      intro k S' hk h1 hs hO' hS'
      have hb := bst_lt (fun i => WT a v d (mb (bel a v) i)) k h1
      rw [LX1_weightiestPart_16, hO'.2.1, nI_leI (by omega) (by omega)]
      refine ifT (by omega) ⟨vp_in_nI (by omega) (by omega), ?_⟩
      rw [nI_clamp (by omega), hO'.2.2.2.1 _ (by omega), show k = (mems (bel a v)).length by omega]
      exact h S' hs
    | succ r ih =>
      intro k S' hk h1 hs hO' hS'
      rw [LX1_weightiestPart_16, hO'.2.1, nI_leI (by omega) (by omega)]
      refine ifF (by omega) (weightAt_spec ok hv h8 hO' hS' (by omega) (fun S3 hs3 hO3 hS3 => ?_))
      have := ih (k + 1) S3 (by omega) (by omega) (hs.tr hs3) hO3 hS3
      rw [bst_s _ h1] at this
      unfold JX1_weightiestPart_46
      rw [nI_1]
      refine ⟨fun g => ?_, fun g => ?_⟩
      · rw [if_pos g] at this; exact this
      · rw [if_neg g] at this; exact this
  have := key ((mems (bel a v)).length - 1) 1 S2 (by omega) (by omega) (hs1.tr hs2) hO2 hS2
  exact ⟨_, this⟩
theorem memN_len (b : Nat) : ∀ k, (memN b k).length = fb_ct b.testBit k
  | 0 => rfl
  | k + 1 => by
    rw [memN_succ, List.length_append, memN_len b k, fb_ct_succ]
    by_cases g : b.testBit k = true
    · rw [if_pos g, if_pos g]; rfl
    · rw [if_neg g, if_neg g]; rfl
theorem most_r {M : MS} {a : AS} (ok : OKa a) (hm : aM M a ev0 fo0) {v d : Nat} (hv : v < a.1 3) (h8 : evs a v ≤ 8) (hd : d ≤ 999) {Q : Int32 → MS → Prop}
    (h : ∀ M', aM M' a ev0 fo0 → Q (nI (mb (bel a v) (bst (fun i => WT a v d (mb (bel a v) i)) (mems (bel a v)).length))) M') : ∃ n, LX6_most_47 (nI v) (nI d) (nI (bel a v)) (fun S_9 y_10 => Q y_10 S_9) Q n M (-1) (-1) 0 := by
  have hb4 := bel_4096 ok hv
  have hnp := ok.hnp
  have hl1 := mems_pos ok hv
  have hmm : fb_ct (bel a v).testBit (a.1 0) = (mems (bel a v)).length := by
    rw [← memN_np (bel_lt ok v hv) hnp]
    exact (memN_len _ _).symm
  generalize hW : (fun i => WT a v d (mb (bel a v) i)) = W at h
  have key : ∀ (r k : Nat) (M' : MS) (x : Int32) (w : Int64), k + r = a.1 0 → aM M' a ev0 fo0 → (fb_ct (bel a v).testBit k = 0 → x = -1 ∧ w = -1) → (1 ≤ fb_ct (bel a v).testBit k → x = nI (mb (bel a v) (bst W (fb_ct (bel a v).testBit k))) ∧ w = W (bst W (fb_ct (bel a v).testBit k))) → LX6_most_47 (nI v) (nI d) (nI (bel a v)) (fun S_9 y_10 => Q y_10 S_9) Q (r + 1) M' x w (nI k) := by
    intro r
    induction r with
    | zero =>
      intro k M' x w hk hm' g0 g1
      rw [LX6_most_47, hm'.hnp, nI_leI (by omega) (by omega)]
      have hkk : k = a.1 0 := by omega
      subst hkk
      rw [hmm] at g1
      rw [(g1 hl1).1]
      exact ifT (by omega) (h M' hm')
    | succ r ih =>
      intro k M' x w hk hm' g0 g1
      have hw : (-1 : Int) ≤ w.toInt := by
        rcases Nat.eq_zero_or_pos (fb_ct (bel a v).testBit k) with e | e
        · rw [(g0 e).2]; decide
        · rw [(g1 e).2, ← hW]
          have := WT_pos ok hv h8 d (mb (bel a v) (bst (fun i => WT a v d (mb (bel a v) i)) (fb_ct (bel a v).testBit k)))
          show (-1 : Int) ≤ (WT a v d (mb (bel a v) (bst (fun i => WT a v d (mb (bel a v) i)) (fb_ct (bel a v).testBit k)))).toInt
          omega
      rw [LX6_most_47, hm'.hnp, nI_leI (by omega) (by omega)]
      refine ifF (by omega) ?_
      rw [bitS1 (by omega) (by omega)]
      have hs := fb_ct_succ (bel a v).testBit k
      unfold JX6_most_80 JX6_most_97 JX6_most_114
      rw [nI_1]
      refine ⟨fun hb => mattersOf_r ok hm' hv h8 hd (by omega) (fun _ M2 hm2 => ?_) (fun e => by rw [hb] at e; exact absurd e (by decide)), fun hb => ?_⟩
      · have hmk := (mb_of hb (by omega)).2
        rw [if_pos hb] at hs
        have hWk : WT a v d k = W (fb_ct (bel a v).testBit k) := by rw [← hW]; show _ = WT a v d (mb (bel a v) (fb_ct (bel a v).testBit k)); rw [hmk]
        rcases Nat.eq_zero_or_pos (fb_ct (bel a v).testBit k) with e | e
        · have := WT_pos ok hv h8 d k
          have hgt : ¬ lg_cmp (WT a v d k) w ≤ 0 := by
            rw [lg_le, (g0 e).2, show (-1 : Int64).toInt = -1 by decide]
            omega
          refine ifF hgt (ifF hgt (ih (k + 1) M2 (nI k) (WT a v d k) (by omega) hm2 (fun g => by omega) (fun _ => ?_)))
          rw [hs, e]
          rw [e] at hmk hWk
          exact ⟨by show nI k = nI (mb (bel a v) 0); rw [hmk], hWk⟩
        · have hx := g1 e
          refine ⟨fun g => ifT g (ih (k + 1) M2 x w (by omega) hm2 (fun g => by omega) (fun _ => ?_)), fun g => ifF g (ih (k + 1) M2 (nI k) (WT a v d k) (by omega) hm2 (fun g => by omega) (fun _ => ?_))⟩
          · rw [hWk, hx.2] at g
            rw [hs, bst_s _ e, if_pos g]
            exact hx
          · rw [hWk, hx.2] at g
            rw [hs, bst_s _ e, if_neg g, hmk]
            exact ⟨rfl, hWk⟩
      · rw [if_neg hb, Nat.add_zero] at hs
        have hle : lg_cmp (-1) w ≤ 0 := by rw [lg_le, show (-1 : Int64).toInt = -1 by decide]; exact hw
        refine ifT hle (ifT hle (ih (k + 1) M' x w (by omega) hm' ?_ ?_))
        · rw [hs]; exact g0
        · rw [hs]; exact g1
  have := key (a.1 0) 0 M (-1) (-1) (by omega) hm (fun _ => ⟨rfl, rfl⟩) (fun g => absurd g (by simp [fb_ct]))
  exact ⟨_, this⟩
theorem op_most : OK_most Inv := by
  intro S M x1 x2 hI
  obtain ⟨a, ok, hc, hm⟩ := id hI
  have hnv := ok.hnv
  unfold wX5_most
  rcases (Classical.em (∃ p : Nat, p < a.1 3 ∧ x1 = nI p)).symm with h1 | ⟨v, hv, rfl⟩
  · exact vhas_f hc.hnv hnv h1 (br0 (by unfold wX6_most; exact rVote_f hm.hnv hnv h1 (br0 ⟨rfl, hI⟩)))
  refine vhas_t hc.hnv hnv hv (br1 ?_)
  rcases (Classical.em (∃ j : Nat, j ≤ 999 ∧ x2 = nI j)).symm with h2 | ⟨d, hd, rfl⟩
  · exact isDay_f h2 (br0 (by unfold wX6_most; exact rVote_t hm.hnv hnv hv (br1 (rDay_f h2 (br0 ⟨rfl, hI⟩)))))
  have hel := evs_le ok v
  refine isDay_t hd (br1 (tooMany ok hc hv (fun h8 => br0 (startFailing_spec ok hc hv h8 (fun S1 hs1 hO => most_c ok hv h8 hd hO (fun S2 hs2 => ?_)))) (fun h8 => br1 ?_)))
  · unfold wX6_most
    refine rVote_t hm.hnv hnv hv (br1 (rDay_t hd (br1 (reventsOf_spec ok hm hv (fun M1 he1 => ?_)))))
    rw [le8 (by omega)]
    refine ifT h8 (partsOf_spec ok (hm.eqx (by omega) he1) hv (fun M2 he2 => most_r (Q := fun r1 M1 => nI (mb (bel a v) (bst (fun i => WT a v d (mb (bel a v) i)) (mems (bel a v)).length)) = r1 ∧ Inv S2 M1) ok ((hm.eqx (by omega) he1).eqx (by omega) he2) hv h8 hd (fun M3 hm3 => ⟨rfl, a, ok, hc.sc (hs1.tr hs2), hm3⟩)))
  · unfold wX6_most
    refine rVote_t hm.hnv hnv hv (br1 (rDay_t hd (br1 (reventsOf_spec ok hm hv (fun M1 he1 => ?_)))))
    rw [le8 (by omega)]
    exact ifF h8 (Inv.ret ok hc hm (scC.rf _) (he1.sc (by omega)))
