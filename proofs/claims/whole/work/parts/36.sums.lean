/-! PURE SIDE: sums over sets of events -/
def op1 (w k : Nat) (f : Nat → Nat) : Nat → Nat := fun s => (64 - w) * f s + w * f (s ||| k)
theorem op1_comm (w k w' k' : Nat) (f : Nat → Nat) : op1 w k (op1 w' k' f) = op1 w' k' (op1 w k f) := by
  funext s
  unfold op1
  rw [show s ||| k ||| k' = s ||| k' ||| k by rw [Nat.or_assoc, Nat.or_comm k k', ← Nat.or_assoc]]
  generalize f s = x1
  generalize f (s ||| k') = x2
  generalize f (s ||| k) = x3
  generalize f (s ||| k' ||| k) = x4
  generalize 64 - w = u
  generalize 64 - w' = u'
  simp only [Nat.mul_add]
  rw [Nat.mul_left_comm u u', Nat.mul_left_comm u w', Nat.mul_left_comm w u', Nat.mul_left_comm w w']
  omega
def opL : List (Nat × Nat) → (Nat → Nat) → Nat → Nat
  | [], f => f
  | e :: L, f => op1 e.1 e.2 (opL L f)
theorem opL_app (L L' : List (Nat × Nat)) (f : Nat → Nat) : opL (L ++ L') f = opL L (opL L' f) := by
  induction L with
  | nil => rfl
  | cons e L ih => show op1 _ _ (opL (L ++ L') f) = op1 _ _ (opL L (opL L' f)); rw [ih]
theorem opL_perm {L L' : List (Nat × Nat)} (h : L.Perm L') (f : Nat → Nat) : opL L f = opL L' f := by
  induction h with
  | nil => rfl
  | cons e _ ih => show op1 _ _ _ = op1 _ _ _; rw [ih]
  | swap e e' L => exact op1_comm _ _ _ _ _
  | trans _ _ ih1 ih2 => rw [ih1, ih2]
theorem opL_le : ∀ (L : List (Nat × Nat)) (f : Nat → Nat) (c : Nat), (∀ e ∈ L, e.1 ≤ 64) → (∀ s, f s ≤ c) → ∀ s, opL L f s ≤ 64 ^ L.length * c
  | [], f, c, _, hf, s => by simp [opL]; exact hf s
  | e :: L, f, c, hL, hf, s => by
    have ih := opL_le L f c (fun e he => hL e (List.mem_cons_of_mem _ he)) hf
    have he := hL e List.mem_cons_self
    show (64 - e.1) * opL L f s + e.1 * opL L f (s ||| e.2) ≤ _
    have h1 := Nat.mul_le_mul_left (64 - e.1) (ih s)
    have h2 := Nat.mul_le_mul_left e.1 (ih (s ||| e.2))
    rw [List.length_cons, Nat.pow_succ, Nat.mul_comm (64 ^ L.length) 64, Nat.mul_assoc]
    generalize 64 ^ L.length * c = X at h1 h2 ⊢
    have h3 : (64 - e.1) * X + e.1 * X = 64 * X := by rw [← Nat.add_mul]; congr 1; omega
    omega
/-- over rows of shares and strikes -/
def opR (w k : Nat → Nat) (g : Nat → Nat) : Nat → Nat → Nat
  | 0 => g
  | E + 1 => op1 (w E) (k E) (opR w k g E)
def prN (w : Nat → Nat) (set : Nat) : Nat → Nat
  | 0 => 1
  | e + 1 => prN w set e * (if set.testBit e = true then w e else 64 - w e)
def stN (k : Nat → Nat) (set : Nat) : Nat → Nat
  | 0 => 0
  | e + 1 => stN k set e ||| (if set.testBit e = true then k e else 0)
theorem prN_add (w : Nat → Nat) {set E : Nat} (_ : set < 2 ^ E) : ∀ e, e ≤ E → prN w (2 ^ E + set) e = prN w set e
  | 0, _ => rfl
  | e + 1, h => by
    unfold prN
    rw [prN_add w ‹_› e (by omega), Nat.testBit_two_pow_add_gt (by omega)]
theorem stN_add (k : Nat → Nat) {set E : Nat} (_ : set < 2 ^ E) : ∀ e, e ≤ E → stN k (2 ^ E + set) e = stN k set e
  | 0, _ => rfl
  | e + 1, h => by
    unfold stN
    rw [stN_add k ‹_› e (by omega), Nat.testBit_two_pow_add_gt (by omega)]
theorem sum_opR (w k g : Nat → Nat) : ∀ (E s : Nat), fb_sm (fun set => prN w set E * g (s ||| stN k set E)) (2 ^ E) = opR w k g E s
  | 0, s => by simp [fb_sm, prN, stN, opR]
  | E + 1, s => by
    rw [Nat.pow_succ, Nat.mul_two, fb_sm_split]
    have h1 : fb_sm (fun set => prN w set (E + 1) * g (s ||| stN k set (E + 1))) (2 ^ E) = (64 - w E) * opR w k g E s := by
      rw [← sum_opR w k g E s]
      rw [show (64 - w E) * fb_sm (fun set => prN w set E * g (s ||| stN k set E)) (2 ^ E) = fb_sm (fun set => (64 - w E) * (prN w set E * g (s ||| stN k set E))) (2 ^ E) from ?_]
      · refine fb_sm_cong (fun set hs => ?_)
        show prN w set E * (if set.testBit E = true then w E else 64 - w E) * g (s ||| (stN k set E ||| (if set.testBit E = true then k E else 0))) = _
        rw [Nat.testBit_lt_two_pow hs, if_neg (by decide), if_neg (by decide), Nat.or_zero, Nat.mul_comm (prN w set E) (64 - w E), Nat.mul_assoc]
      · generalize 2 ^ E = N
        induction N with
        | zero => simp [fb_sm]
        | succ N ih => rw [fb_sm_succ, fb_sm_succ, Nat.mul_add, ih]
    have h2 : fb_sm (fun set => prN w (2 ^ E + set) (E + 1) * g (s ||| stN k (2 ^ E + set) (E + 1))) (2 ^ E) = w E * opR w k g E (s ||| k E) := by
      rw [← sum_opR w k g E (s ||| k E)]
      rw [show w E * fb_sm (fun set => prN w set E * g (s ||| k E ||| stN k set E)) (2 ^ E) = fb_sm (fun set => w E * (prN w set E * g (s ||| k E ||| stN k set E))) (2 ^ E) from ?_]
      · refine fb_sm_cong (fun set hs => ?_)
        show prN w (2 ^ E + set) E * (if (2 ^ E + set).testBit E = true then w E else 64 - w E) * g (s ||| (stN k (2 ^ E + set) E ||| (if (2 ^ E + set).testBit E = true then k E else 0))) = _
        rw [prN_add w hs E (Nat.le_refl _), stN_add k hs E (Nat.le_refl _), Nat.testBit_two_pow_add_eq, Nat.testBit_lt_two_pow hs]
        simp only [Bool.not_false, if_true]
        rw [Nat.mul_comm (prN w set E) (w E), Nat.mul_assoc, Nat.or_comm (stN k set E), ← Nat.or_assoc]
      · generalize 2 ^ E = N
        induction N with
        | zero => simp [fb_sm]
        | succ N ih => rw [fb_sm_succ, fb_sm_succ, Nat.mul_add, ih]
    rw [h1, h2]
    rfl
theorem prN_le (w : Nat → Nat) (set : Nat) : ∀ e, (∀ i, i < e → w i ≤ 64) → prN w set e ≤ 64 ^ e
  | 0, _ => Nat.le_refl _
  | e + 1, h => by
    unfold prN
    rw [Nat.pow_succ]
    refine Nat.mul_le_mul (prN_le w set e (fun i hi => h i (by omega))) ?_
    have := h e (by omega)
    split <;> omega
theorem stN_lt (k : Nat → Nat) (set : Nat) {N : Nat} : ∀ e, (∀ i, i < e → k i < 2 ^ N) → stN k set e < 2 ^ N
  | 0, _ => Nat.two_pow_pos _
  | e + 1, h => by
    unfold stN
    refine Nat.or_lt_two_pow (stN_lt k set e (fun i hi => h i (by omega))) ?_
    split
    · exact h e (by omega)
    · exact Nat.two_pow_pos _
theorem opR_list (L : List (Nat × Nat)) (g : Nat → Nat) : ∀ E, E ≤ L.length → opR (fun e => (L.getD e (0, 0)).1) (fun e => (L.getD e (0, 0)).2) g E = opL (L.take E).reverse g
  | 0, _ => rfl
  | E + 1, h => by
    unfold opR
    rw [opR_list L g E (by omega), List.take_add_one, List.getElem?_eq_getElem (by omega)]
    simp only [Option.toList, List.reverse_append, List.reverse_cons, List.reverse_nil, List.nil_append, List.singleton_append]
    show op1 _ _ _ = op1 _ _ _
    rw [List.getD_eq_getElem?_getD, List.getElem?_eq_getElem (by omega)]
    rfl
/-- the reference's events as a list -/
def evL (M : MS) (L : List (Nat × Nat)) : Prop := M.2.2 4 = nI L.length ∧ ∀ e, e < L.length → M.1 17 e = nI (L.getD e (0, 0)).1 ∧ M.1 18 e = nI (L.getD e (0, 0)).2
theorem p64 {E : Nat} (h : E ≤ 8) : 64 ^ E ≤ 281474976710656 := Nat.pow_le_pow_right (n := 64) (by omega) h
theorem sums_in {M : MS} {x1 x2 : Int32} {x3 : Int64} {L : List (Nat × Nat)} (hL : evL M L) (h8 : L.length ≤ 8) (hw : ∀ e, e < L.length → (L.getD e (0, 0)).1 ≤ 64) {set : Nat} (hs : set < 2 ^ 31) {K : MS → Int32 → Int64 → Prop} {Q : Int64 → MS → Prop}
    (h : K M (nI (stN (fun e => (L.getD e (0, 0)).2) set L.length)) (lN (prN (fun e => (L.getD e (0, 0)).1) set L.length))) : ∃ n, LX6_sums_25 x1 x2 x3 (nI set) K Q n M 0 1 0 := by
  have key : ∀ (r e : Nat), e + r = L.length → LX6_sums_25 x1 x2 x3 (nI set) K Q (r + 1) M (nI (stN (fun e => (L.getD e (0, 0)).2) set e)) (lN (prN (fun e => (L.getD e (0, 0)).1) set e)) (nI e) := by
    intro r
    induction r with
    | zero =>
      intro e he
      rw [LX6_sums_25, hL.1, nI_leI (by omega) (by omega)]
      exact ifT (by omega) (by rw [show e = L.length by omega]; exact h)
    | succ r ih =>
      intro e he
      rw [LX6_sums_25, hL.1, nI_leI (by omega) (by omega)]
      refine ifF (by omega) ?_
      have hle := hL.2 e (by omega)
      have hwe := hw e (by omega)
      have := ih (e + 1) (by omega)
      unfold stN prN at this
      rw [bitS hs (by omega)]
      unfold JX6_sums_50 JX6_sums_70 JX6_sums_102
      rw [nI_1, nI_clamp (by omega), hle.1, hle.2]
      cases hb : set.testBit e
      · rw [hb, if_neg (by decide), if_neg (by decide)] at this
        refine ifF (by decide) (br0 (br0 ⟨vp_in_nI (by omega) (by omega), ?_⟩))
        rw [show (64 : Int32) - nI (L.getD e (0, 0)).1 = nI (64 - (L.getD e (0, 0)).1) from pk_sub (a := 64) hwe, nI_l (by omega), lN_mul, show nI (stN (fun e => (L.getD e (0, 0)).2) set e) ||| 0 = nI (stN (fun e => (L.getD e (0, 0)).2) set e ||| 0) from fa_or _ 0]
        exact this
      · rw [hb, if_pos rfl, if_pos rfl] at this
        refine ifT rfl (br1 ⟨vp_in_nI (by omega) (by omega), br1 ⟨vp_in_nI (by omega) (by omega), ?_⟩⟩)
        rw [nI_l (by omega), lN_mul, fa_or]
        exact this
  have := key L.length 0 (by omega)
  exact ⟨_, this⟩
theorem evL.eqx {M M' : MS} {L : List (Nat × Nat)} (h : evL M L) (he : eqx 20 M M') : evL M' L := by
  refine ⟨by rw [he.2]; exact h.1, fun e hl => ?_⟩
  rw [he.1 17 (by omega), he.1 18 (by omega)]; exact h.2 e hl
/-- the reference's sum: fl says which answer of the vote counts -/
theorem sums_spec {M : MS} {a : AS} {ev : Nat → Nat} {fo : Nat → Int32} (ok : OKa a) (hm : aM M a ev fo) {v : Nat} (hv : v < a.1 3) {L : List (Nat × Nat)} (hL : evL M L) (h8 : L.length ≤ 8) (hw : ∀ e, e < L.length → (L.getD e (0, 0)).1 ≤ 64) (hk : ∀ e, e < L.length → (L.getD e (0, 0)).2 < 4096)
    {fl : Bool} {g : Nat → Nat} (hg : ∀ s, s < 4096 → g s = if act a v (fun p => if fl = true then !s.testBit p else s.testBit p) = fl then 0 else 1) {Q : Int64 → MS → Prop}
    (h : ∀ M', eqx 20 M M' → Q (lN (opL L.reverse g 0 * 64 ^ (8 - L.length))) M') : wX6_sums M (nI v) (bI fl) Q := by
  generalize hW : (fun e => (L.getD e (0, 0)).1) = w
  generalize hKk : (fun e => (L.getD e (0, 0)).2) = k
  have hp2 := p256 h8
  have h1 := Nat.two_pow_pos L.length
  have hlast : ∀ M', eqx 20 M M' → ∀ {K : MS → Int64 → Prop} {Q : Int64 → MS → Prop} {z : Nat}, K M' (lN (z * 64 ^ (8 - L.length))) → ∃ n, LX6_sums_157 K Q n M' (lN z) (M'.2.2 4) := by
    intro M' he K Q z hK
    rw [he.2, hL.1]
    have key : ∀ (r e : Nat), e + r = 8 → L.length ≤ e → LX6_sums_157 K Q (r + 1) M' (lN (z * 64 ^ (e - L.length))) (nI e) := by
      intro r
      induction r with
      | zero =>
        intro e he1 _
        have : e = 8 := by omega
        subst this
        rw [LX6_sums_157]
        exact ifT (by decide) hK
      | succ r ih =>
        intro e he1 he2
        rw [LX6_sums_157]
        refine ifF (by rw [show (8 : Int32) = nI 8 from rfl, nI_leI (by omega) (by omega)]; omega) ?_
        rw [nI_1, show (64 : Int64) = lN 64 from rfl, lN_mul, Nat.mul_assoc, ← Nat.pow_succ, show (e - L.length).succ = e + 1 - L.length by omega]
        exact ih (e + 1) (by omega) (by omega)
    have := key (8 - L.length) L.length (by omega) (Nat.le_refl _)
    rw [Nat.sub_self, Nat.pow_zero, Nat.mul_one] at this
    exact ⟨_, this⟩
  have hmain : ∀ (r t : Nat) (M' : MS), t + r = 2 ^ L.length → eqx 20 M M' → ∀ {K : MS → Int64 → Prop} {Q : Int64 → MS → Prop}, (∀ M'', eqx 20 M M'' → K M'' (lN (fb_sm (fun set => prN w set L.length * g (0 ||| stN k set L.length)) (2 ^ L.length)))) → LX6_sums_5 (nI v) (bI fl) K Q (r + 1) M' (lN (fb_sm (fun set => prN w set L.length * g (0 ||| stN k set L.length)) t)) (nI t) := by
    intro r
    induction r with
    | zero =>
      intro t M' ht he K Q hK
      rw [LX6_sums_5, he.2, hL.1, shl1 (by omega), nI_leI (by omega) (by omega)]
      exact ifT (by omega) (by rw [show t = 2 ^ L.length by omega]; exact hK M' he)
    | succ r ih =>
      intro t M' ht he K Q hK
      rw [LX6_sums_5, he.2, hL.1, shl1 (by omega), nI_leI (by omega) (by omega)]
      refine ifF (by omega) (sums_in (hL.eqx he) h8 hw (by omega) ?_)
      rw [hW, hKk]
      have hpr := prN_le w t L.length (fun i hi => by rw [← hW]; exact hw i hi)
      have hst := stN_lt k t (N := 12) L.length (fun i hi => by rw [← hKk]; exact hk i hi)
      have hp6 := p64 h8
      rw [lg_le, pk_lT (by omega)]
      unfold JX6_sums_133 JX6_sums_145
      rw [nI_1]
      have hnext := fun M'' (he'' : eqx 20 M M'') => ih (t + 1) M'' (by omega) he'' (Q := Q) hK
      rw [fb_sm_succ] at hnext
      have hm' := hm.eqx (by omega) he
      refine ⟨fun g0 => ?_, fun g0 => ?_⟩
      · have e0 : prN w t L.length = 0 := by
          have g0 : ((prN w t L.length : Nat) : Int) ≤ 0 := g0
          omega
        have := hnext M' he
        rw [e0, Nat.zero_mul, Nat.add_zero] at this
        exact this
      · have hgo : ∀ x : Int32, act a v (bt x) = act a v (fun p => if fl = true then !(stN k t L.length).testBit p else (stN k t L.length).testBit p) → wX6_does M' (nI v) x fun r_2 S_1 => (r_2 = bI fl → LX6_sums_5 (nI v) (bI fl) K Q (r + 1) S_1 (lN (fb_sm (fun set => prN w set L.length * g (0 ||| stN k set L.length)) t)) (nI (t + 1))) ∧ (¬ r_2 = bI fl → LX6_sums_5 (nI v) (bI fl) K Q (r + 1) S_1 (lN (fb_sm (fun set => prN w set L.length * g (0 ||| stN k set L.length)) t) + lN (prN w t L.length)) (nI (t + 1))) := by
          intro x hx
          refine does_spec ok hm' hv (fun M'' he'' => ?_)
          have := hnext M'' (he.tr he'')
          rw [Nat.zero_or, hg _ hst, ← hx] at this
          have hbi : ∀ c d : Bool, bI c = bI d ↔ c = d := by decide
          rw [hbi]
          refine ⟨fun e => ?_, fun e => ?_⟩
          · rw [if_pos e, Nat.mul_zero, Nat.add_zero] at this; exact this
          · rw [if_neg e, Nat.mul_one, ← lN_add] at this; exact this
        cases hfl : fl
        · rw [hfl] at hgo
          refine ifT rfl (hgo _ (act_dep ok v hv (fun p hp => ?_)))
          have hb4 := bel_4096 ok hv
          have hp12 : p < 12 := by
            rcases Nat.lt_or_ge p 12 with g | g
            · exact g
            · rw [Nat.testBit_lt_two_pow (Nat.lt_of_lt_of_le hb4 (Nat.pow_le_pow_right (n := 2) (by omega) g))] at hp; exact absurd hp (by decide)
          show bt (nI (stN k t L.length)) p = _
          rw [if_neg (by decide)]
          unfold bt
          rw [show (nI (stN k t L.length)).toBitVec = BitVec.ofNat 32 (stN k t L.length) from rfl, BitVec.getLsbD_ofNat, show decide (p < 32) = true by rw [decide_eq_true_iff]; omega, Bool.true_and]
        · rw [hfl] at hgo
          refine ifF (by decide) (hgo _ (act_dep ok v hv (fun p hp => ?_)))
          have hb4 := bel_4096 ok hv
          have hp12 : p < 12 := by
            rcases Nat.lt_or_ge p 12 with g | g
            · exact g
            · rw [Nat.testBit_lt_two_pow (Nat.lt_of_lt_of_le hb4 (Nat.pow_le_pow_right (n := 2) (by omega) g))] at hp; exact absurd hp (by decide)
          rw [b_xor, b_m1 p (by omega), Bool.xor_true, if_pos rfl]
          unfold bt
          rw [show (nI (stN k t L.length)).toBitVec = BitVec.ofNat 32 (stN k t L.length) from rfl, BitVec.getLsbD_ofNat, show decide (p < 32) = true by rw [decide_eq_true_iff]; omega, Bool.true_and]
  unfold wX6_sums
  have hop : fb_sm (fun set => prN w set L.length * g (0 ||| stN k set L.length)) (2 ^ L.length) = opL L.reverse g 0 := by
    rw [sum_opR, ← hW, ← hKk, opR_list L g L.length (Nat.le_refl _), List.take_length]
  have := hmain (2 ^ L.length) 0 M (by omega) (eqx.rf _ _) (K := fun S_1 y_2 => ∃ n0 : Nat, LX6_sums_157 (fun S_3 y_4 => Q y_4 S_3) Q n0 S_1 y_2 (S_1.2.2 4)) (Q := Q) (fun M'' he => by rw [hop]; exact hlast M'' he (h M'' he))
  exact ⟨_, this⟩
