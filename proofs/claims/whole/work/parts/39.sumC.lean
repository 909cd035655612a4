/-! PURE SIDE: the component's sum, chance on a day -/
theorem fold_in {S : MS} {b n j shj : Nat} (hn8 : n ≤ 8) (hj : j < n) (hb4 : b < 4096) (hnb : (mems b).length = n) (hs : shj ≤ 64) {h : Nat → Nat} (hl : locF b h) {x1 : Int32} {K : MS → Prop} {Q : Int64 → MS → Prop} (hf0 : ∀ F, F < 2 ^ (j + 1) → S.2.1 3 F = lN (h (spN F b 12)))
    (hK : ∀ S', eqL 3 S S' → (∀ F, F < 2 ^ j → S'.2.1 3 F = lN (op1 shj (2 ^ mb b j) h (spN F b 12))) → K S') : ∃ m, LX1_sum_45 x1 (nI (2 ^ j)) (lN shj) K Q m S 0 := by
  have hp := p256 hn8
  have hpj : 2 ^ (j + 1) ≤ 2 ^ n := Nat.pow_le_pow_right (by omega) (by omega)
  have hp1 : 2 ^ (j + 1) = 2 ^ j + 2 ^ j := by rw [Nat.pow_succ]; omega
  have hpos := Nat.two_pow_pos j
  have key : ∀ (r t : Nat) (S' : MS), t + r = 2 ^ j → eqL 3 S S' → (∀ F, F < 2 ^ (j + 1) → S'.2.1 3 F = lN (if F < t then op1 shj (2 ^ mb b j) h (spN F b 12) else h (spN F b 12))) → LX1_sum_45 x1 (nI (2 ^ j)) (lN shj) K Q (r + 1) S' (nI t) := by
    intro r
    induction r with
    | zero =>
      intro t S' ht he hf
      rw [LX1_sum_45, nI_leI (by omega) (by omega)]
      exact ifT (by omega) (hK S' he (fun F hF => by rw [hf F (by omega), if_pos (by omega)]))
    | succ r ih =>
      intro t S' ht he hf
      rw [LX1_sum_45, nI_leI (by omega) (by omega)]
      refine ifF (by omega) ⟨vp_in_nI (by omega) (by omega), ?_⟩
      rw [nI_add]
      refine ⟨vp_in_nI (by omega) (by omega), vp_in_nI (by omega) (by omega), ?_⟩
      rintro _ rfl
      rw [nI_clamp (by omega), nI_clamp (by omega), hf t (by omega), hf (t + 2 ^ j) (by omega), if_neg (by omega), if_neg (by omega), show (64 : Int64) = lN 64 from rfl, lN_sub hs, lN_mul, lN_mul, lN_add, nI_1]
      refine ih (t + 1) _ (by omega) (he.put _ _) (fun F hF => ?_)
      by_cases e : F = t
      · subst e
        rw [uL_at, if_pos (by omega)]
        unfold op1
        rw [hl (spN (F + 2 ^ j) b 12) (spN F b 12 ||| 2 ^ mb b j) (fun p hp2 => ?_)]
        rw [spB hb4 hp2, Nat.testBit_or, spB hb4 hp2, Nat.testBit_two_pow, Nat.add_comm]
        have hm := mb_spec (b := b) (i := j) (by omega)
        have hmo := mb_of hp2 (lt12 hb4 hp2)
        have hiff : (mb b j = p) ↔ fb_ct b.testBit p = j := by
          constructor
          · intro e; rw [← e]; exact hm.2.2
          · intro e; rw [← e]; exact hmo.2
        generalize fb_ct b.testBit p = i at hiff
        rcases Nat.lt_trichotomy i j with g | g | g
        · rw [Nat.testBit_two_pow_add_gt g, show decide (mb b j = p) = false by rw [decide_eq_false_iff_not, hiff]; omega, Bool.or_false]
        · subst g
          rw [Nat.testBit_two_pow_add_eq, Nat.testBit_lt_two_pow (show F < 2 ^ i by omega), show decide (mb b i = p) = true by rw [decide_eq_true_iff, hiff]]
          rfl
        · rw [Nat.testBit_lt_two_pow (Nat.lt_of_lt_of_le (show 2 ^ j + F < 2 ^ (j + 1) by omega) (Nat.pow_le_pow_right (n := 2) (by omega) (by omega))), Nat.testBit_lt_two_pow (Nat.lt_of_lt_of_le (show F < 2 ^ j by omega) (Nat.pow_le_pow_right (n := 2) (by omega) (by omega))), show decide (mb b j = p) = false by rw [decide_eq_false_iff_not, hiff]; omega]
          rfl
      · rw [uL_nei e, hf F hF]
        by_cases g : F < t
        · rw [if_pos g, if_pos (by omega)]
        · rw [if_neg g, if_neg (by omega)]
  have := key (2 ^ j) 0 S (by omega) (eqL.rf _ _) (fun F hF => by rw [if_neg (by omega)]; exact hf0 F hF)
  exact ⟨_, this⟩
theorem eqL.tr {k : Nat} {S S' S'' : MS} (h : eqL k S S') (h' : eqL k S' S'') : eqL k S S'' := ⟨h'.1.trans h.1, h'.2.1.trans h.2.1, fun r hr => (h'.2.2 r hr).trans (h.2.2 r hr)⟩
theorem sum_spec {S : MS} {b n E : Nat} {sh : Nat → Nat} (hn8 : n ≤ 8) (hb4 : b < 4096) (hnb : (mems b).length = n) (h4 : S.2.2 4 = nI n) (h5 : S.2.2 5 = nI E) (hE : E ≤ 8) (hsh : ∀ i, i < n → S.1 13 i = nI (sh i) ∧ sh i ≤ 64) {h : Nat → Nat} (hl : locF b h) (hB : ∀ F, F < 2 ^ n → S.2.1 2 F = lN (h (spN F b 12))) {Q : Int64 → MS → Prop}
    (hQ : ∀ S', eqL 3 S S' → Q (lN (opL ((List.range n).map (fun i => (sh i, 2 ^ mb b i))) h 0 * 64 ^ (8 - E))) S') : wX1_sum S Q := by
  have hp := p256 hn8
  unfold wX1_sum
  rw [h4, shl1 (by omega), nI_clamp (by omega)]
  refine ⟨nI_pos (by omega), by omega, by omega, ?_⟩
  rintro _ rfl
  generalize hLs : (List.range n).map (fun i => (sh i, 2 ^ mb b i)) = Ls at hQ
  have hlen : Ls.length = n := by rw [← hLs]; simp
  have hdrop : ∀ j, j < n → opL (Ls.drop j) h = op1 (sh j) (2 ^ mb b j) (opL (Ls.drop (j + 1)) h) := by
    intro j hj
    rw [List.drop_eq_getElem_cons (by omega)]
    have : Ls[j]'(by omega) = (sh j, 2 ^ mb b j) := by
      subst hLs; simp
    rw [this]
    rfl
  generalize hK : (fun S_2 : MS => vp_in 0 256 ∧ Q (jlshl (S_2.2.1 3 (0 : Int32).toNatClampNeg) (6 * (8 - S_2.2.2 5))) S_2) = K
  have hKf : ∀ S', eqL 3 S S' → (∀ F, F < 2 ^ 0 → S'.2.1 3 F = lN (opL (Ls.drop 0) h (spN F b 12))) → K S' := by
    intro S' he hf
    rw [← hK]
    refine ⟨vp_in_nI (n := 0) (by omega) (by omega), ?_⟩
    rw [show (0 : Int32).toNatClampNeg = 0 by decide, hf 0 (by omega), he.2.1, h5, show (8 : Int32) - nI E = nI (8 - E) from pk_sub (a := 8) hE, show (6 : Int32) * nI (8 - E) = nI (6 * (8 - E)) from pk_mul 6 _, shlL (by omega), Nat.pow_mul, List.drop_zero]
    have e0 : spN 0 b 12 = 0 := by
      refine Nat.eq_of_testBit_eq (fun p => ?_)
      rw [spN_bit]
      simp [sprd]
    rw [e0]
    exact hQ S' he
  have hmain : ∀ (m : Nat), m ≤ n → ∀ S', eqL 3 S S' → (∀ F, F < 2 ^ m → S'.2.1 3 F = lN (opL (Ls.drop m) h (spN F b 12))) → LX1_sum_26 K Q (m + 1) S' (nI m - 1) := by
    intro m
    induction m with
    | zero =>
      intro _ S' he hf
      rw [LX1_sum_26]
      exact ifT (by decide) (hKf S' he hf)
    | succ j ih =>
      intro hm S' he hf
      rw [nI_pred, LX1_sum_26]
      refine ifF (nI_pos (by omega)) ⟨vp_in_nI (by omega) (by omega), ?_⟩
      rw [nI_clamp (by omega), he.1, (hsh j (by omega)).1, shl1 (by omega), nI_l (by have := (hsh j (by omega)).2; omega), ← Int32.sub_eq_add_neg]
      refine fold_in (n := n) hn8 (by omega) hb4 hnb (hsh j (by omega)).2 (hl.opL _) hf (fun S2 he2 hf2 => ih (by omega) S2 (he.tr he2) ?_)
      rw [hdrop j (by omega)]
      exact hf2
  have hC : eqL 3 S (uC S 3 (va_cpy (S.2.1 2) (S.2.1 3) 0 0 (2 ^ n))) := ⟨rfl, rfl, fun r hr => by show (if r = 3 then _ else _) = _; rw [if_neg hr]⟩
  rw [show (uC S 3 (va_cpy (S.2.1 2) (S.2.1 3) 0 0 (2 ^ n))).2.2 4 = nI n from h4]
  have := hmain n (Nat.le_refl _) _ hC (fun F hF => by
    show va_cpy (S.2.1 2) (S.2.1 3) 0 0 (2 ^ n) F = _
    rw [pk_cpy_in (Nat.zero_le _) (by omega), Nat.zero_add, Nat.sub_zero, hB F hF, List.drop_eq_nil_of_le (by omega)]
    rfl)
  exact ⟨_, this⟩
theorem mems_map (b : Nat) (f : Nat → Nat × Nat) : (List.range (mems b).length).map (fun i => f (mb b i)) = (mems b).map f := by
  apply List.ext_getElem
  · simp
  · intro i h1 h2
    rw [List.length_map, List.length_range] at h1
    simp only [List.getElem_map, List.getElem_range]
    congr 1
    unfold mb
    rw [List.getD_eq_getElem?_getD, List.getElem?_eq_getElem h1]
    rfl
theorem OD.x13 {S S' : MS} {a : AS} {v : Nat} (h : OD S a v) (he : eqx 13 S S') : OD S' a v :=
  ⟨h.1.eqx (by omega) he, by rw [he.2]; exact h.2.1, by rw [he.2]; exact h.2.2.1, by rw [he.1 12 (by omega)]; exact h.2.2.2.1, by rw [he.2]; exact h.2.2.2.2⟩
theorem OD.L3 {S S' : MS} {a : AS} {v : Nat} (h : OD S a v) (he : eqL 3 S S') : OD S' a v :=
  ⟨h.1.sc (he.sc (by omega)), by rw [he.2.1]; exact h.2.1, by rw [he.2.1]; exact h.2.2.1, by rw [he.1]; exact h.2.2.2.1, by rw [he.2.2 2 (by omega)]; exact h.2.2.2.2⟩
theorem eqx.sc13 {S S' : MS} (h : eqx 13 S S') : scC S S' := ⟨fun r hr => h.1 r (by omega), fun _ _ => by rw [h.2], fun _ _ => by rw [h.2]⟩
theorem bel_np {a : AS} (ok : OKa a) {v p : Nat} (hv : v < a.1 3) (hp : (bel a v).testBit p = true) : p < a.1 0 := by
  rcases Nat.lt_or_ge p (a.1 0) with g | g
  · exact g
  · rw [Nat.testBit_lt_two_pow (Nat.lt_of_lt_of_le (bel_lt ok v hv) (Nat.pow_le_pow_right (n := 2) (by omega) g))] at hp; exact absurd hp (by decide)
theorem takeShares_spec {S : MS} {a : AS} (ok : OKa a) {v d : Nat} (hv : v < a.1 3) (h8 : evs a v ≤ 8) (hd : d ≤ 999) (hO : OD S a v) {Q : MS → Prop}
    (h : ∀ S', eqx 13 S S' → (∀ i, i < (mems (bel a v)).length → S'.1 13 i = nI (shv a ev0 fo0 (mb (bel a v) i) d)) → Q S') : wX1_takeSharesOn S (nI d) Q := by
  have hnp := ok.hnp
  have hln : (mems (bel a v)).length ≤ 8 := by unfold evs at h8; omega
  have key : ∀ (r i : Nat) (S' : MS), i + r = (mems (bel a v)).length → eqx 13 S S' → (∀ j, j < i → S'.1 13 j = nI (shv a ev0 fo0 (mb (bel a v) j) d)) → LX1_takeSharesOn_2 (nI d) (fun S_1 => Q S_1) Q (r + 1) S' (nI i) := by
    intro r
    induction r with
    | zero =>
      intro i S' hi he hf
      have hO' := hO.x13 he
      rw [LX1_takeSharesOn_2, hO'.2.1, nI_leI (by omega) (by omega)]
      exact ifT (by omega) (h S' he (by rw [show (mems (bel a v)).length = i by omega]; exact hf))
    | succ r ih =>
      intro i S' hi he hf
      have hO' := hO.x13 he
      have hm := mb_spec (b := bel a v) (i := i) (by omega)
      rw [LX1_takeSharesOn_2, hO'.2.1, nI_leI (by omega) (by omega)]
      refine ifF (by omega) ⟨vp_in_nI (by omega) (by omega), ?_⟩
      rw [nI_clamp (by omega), hO'.2.2.2.1 i (by omega)]
      refine shareOn_spec ok hO'.1 (bel_np ok hv hm.2.1) hd ⟨vp_in_nI (by omega) (by omega), ?_⟩
      rintro _ rfl
      rw [nI_1]
      refine ih (i + 1) _ (by omega) (he.put _ _) (fun j hj => ?_)
      by_cases e : j = i
      · rw [e, uI_at]
      · rw [uI_nei e]; exact hf j (by omega)
  have := key (mems (bel a v)).length 0 S (by omega) (eqx.rf _ _) (fun j hj => by omega)
  exact ⟨_, this⟩
theorem sumOD_spec {S : MS} {a : AS} (ok : OKa a) {v : Nat} (hv : v < a.1 3) (h8 : evs a v ≤ 8) (hO : OD S a v) {sh : Nat → Nat} (hsh : ∀ i, i < (mems (bel a v)).length → S.1 13 i = nI (sh (mb (bel a v) i)) ∧ sh (mb (bel a v) i) ≤ 64) {Q : Int64 → MS → Prop}
    (h : ∀ S', eqL 3 S S' → Q (lN (CH a v sh)) S') : wX1_sum S Q := by
  have hln : (mems (bel a v)).length ≤ 8 := by unfold evs at h8; omega
  refine sum_spec (sh := fun i => sh (mb (bel a v) i)) hln (bel_4096 ok hv) rfl hO.2.1 hO.2.2.1 h8 hsh ((gF_loc ok hv).opL _) hO.2.2.2.2 (fun S' he => ?_)
  rw [mems_map (bel a v) (fun p => (sh p, 2 ^ p)), ← opL_app, opL_perm (List.Perm.append_left _ (List.reverse_perm _))]
  exact h S' he
theorem fo0_le (p : Nat) : (fo0 p).toInt ≤ 64 := by show (-1 : Int32).toInt ≤ 64; decide
theorem onDay_spec {S : MS} {a : AS} (ok : OKa a) {v d : Nat} (hv : v < a.1 3) (h8 : evs a v ≤ 8) (hd : d ≤ 999) (hO : OD S a v) {Q : Int64 → MS → Prop}
    (h : ∀ S', scC S S' → OD S' a v → Q (lN (CH a v (fun p => shv a ev0 fo0 p d))) S') : wX1_onDay S (nI d) Q := by
  unfold wX1_onDay
  refine takeShares_spec ok hv h8 hd hO (fun S1 he1 hf => sumOD_spec ok hv h8 (hO.x13 he1) (sh := fun p => shv a ev0 fo0 p d) (fun i hi => ⟨hf i hi, shv_le (fo0_le _)⟩) (fun S2 he2 => ?_))
  exact h S2 (he1.sc13.tr (he2.sc (by omega))) ((hO.x13 he1).L3 he2)
theorem Inv.ret {S M S' M' : MS} {a : AS} (ok : OKa a) (hc : aC S a) (hm : aM M a ev0 fo0) (hs : scC S S') (hs' : scR M M') {α : Type} {r : α} : r = r ∧ Inv S' M' := ⟨rfl, a, ok, hc.sc hs, hm.sc' hs'⟩
theorem le8 {n : Nat} (h : n < 2 ^ 31) : nI n ≤ 8 ↔ n ≤ 8 := by rw [show (8 : Int32) = nI 8 from rfl, nI_leI h (by omega)]
theorem tooMany {S : MS} {a : AS} (ok : OKa a) (hc : aC S a) {v : Nat} (hv : v < a.1 3) {Q : Int32 → MS → Prop} (h0 : evs a v ≤ 8 → Q 0 S) (h1 : ¬ evs a v ≤ 8 → Q 1 S) : wX1_hasTooManyEvents S (nI v) Q := by
  have := evs_le ok v
  refine eventsOf_spec ok hc hv ?_
  rw [le8 (by omega)]
  exact ⟨h0, h1⟩
theorem op_chance : OK_chance Inv := by
  intro S M x1 x2 hI
  obtain ⟨a, ok, hc, hm⟩ := id hI
  have hnv := ok.hnv
  unfold wX5_chance
  rcases (Classical.em (∃ p : Nat, p < a.1 3 ∧ x1 = nI p)).symm with h1 | ⟨v, hv, rfl⟩
  · exact vhas_f hc.hnv hnv h1 (br0 (by unfold wX6_chance; exact rVote_f hm.hnv hnv h1 (br0 ⟨rfl, hI⟩)))
  refine vhas_t hc.hnv hnv hv (br1 ?_)
  rcases (Classical.em (∃ j : Nat, j ≤ 999 ∧ x2 = nI j)).symm with h2 | ⟨d, hd, rfl⟩
  · exact isDay_f h2 (br0 (by unfold wX6_chance; exact rVote_t hm.hnv hnv hv (br1 (rDay_f h2 (br0 ⟨rfl, hI⟩)))))
  have hel := evs_le ok v
  refine isDay_t hd (br1 (tooMany ok hc hv (fun h8 => br0 (startFailing_spec ok hc hv h8 (fun S1 hs1 hO => onDay_spec ok hv h8 hd hO (fun S2 hs2 hO2 => ?_)))) (fun h8 => br1 ?_)))
  · unfold wX6_chance
    refine rVote_t hm.hnv hnv hv (br1 (rDay_t hd (br1 (reventsOf_spec ok hm hv (fun M1 he1 => ?_)))))
    rw [le8 (by omega)]
    exact ifT h8 (chanceOf_spec ok (hm.eqx (by omega) he1) hv h8 hd (fun _ _ => Nat.zero_le _) (fun p _ => fo0_le p) (fun M2 hs => Inv.ret ok hc hm (hs1.tr hs2) ((he1.sc (by omega)).tr hs)))
  · unfold wX6_chance
    refine rVote_t hm.hnv hnv hv (br1 (rDay_t hd (br1 (reventsOf_spec ok hm hv (fun M1 he1 => ?_)))))
    rw [le8 (by omega)]
    exact ifF h8 (Inv.ret ok hc hm (scC.rf _) (he1.sc (by omega)))
