/-! PURE SIDE: tests up to a day, noTests, count -/
def cntN (a : AS) (p u : Nat) : Nat → Nat
  | 0 => 0
  | k + 1 => cntN a p u k + (if a.2 5 (12 * p + k) < u then 1 else 0)
theorem cntN_le (a : AS) (p u : Nat) : ∀ k, cntN a p u k ≤ k
  | 0 => Nat.le_refl _
  | k + 1 => by have := cntN_le a p u k; unfold cntN; split <;> omega
theorem OKa.hsrt2 {a : AS} (ok : OKa a) {p : Nat} (hp : p < 12) : ∀ (k i : Nat), i < k → k < a.2 4 p → a.2 5 (12 * p + i) < a.2 5 (12 * p + k) := by
  intro k
  induction k with
  | zero => intro i h; omega
  | succ k ih =>
    intro i h1 h2
    have := ok.hsrt p k hp h2
    rw [show 12 * p + (k + 1) = 12 * p + k + 1 by omega]
    rcases Nat.lt_or_ge i k with h | h
    · have := ih i h (by omega); omega
    · have : i = k := by omega
      subst this; omega
theorem cntN_full {a : AS} (ok : OKa a) {p u : Nat} (hp : p < 12) : ∀ k, k ≤ a.2 4 p → (0 < k → a.2 5 (12 * p + (k - 1)) < u) → cntN a p u k = k
  | 0, _, _ => rfl
  | k + 1, h1, h2 => by
    have hk : a.2 5 (12 * p + k) < u := h2 (by omega)
    have := cntN_full ok (u := u) hp k (by omega) (fun h0 => by have := ok.hsrt2 hp k (k - 1) (by omega) (by omega); omega)
    unfold cntN
    rw [this, if_pos hk]
theorem testsUpTo_spec {S : MS} {a : AS} (ok : OKa a) (hc : aC S a) {p u : Nat} {x : Int32} {Q : Int32 → MS → Prop} (hp : p < 12) (hx : x.toInt = (u : Int) - 1) (h : Q (nI (cntN a p u (a.2 4 p))) S) : wX2_testsUpTo S (nI p) x Q := by
  have tn := ok.htn p
  have key : ∀ (r k : Nat), k + r = a.2 4 p → LX2_testsUpTo_5 (nI p) x (fun S_1 y_2 => Q y_2 S_1) Q (r + 1) S (nI (cntN a p u k)) (nI k) := by
    intro r
    induction r with
    | zero =>
      intro k hk
      rw [LX2_testsUpTo_5]
      refine ⟨vp_in_nI (by omega) (by omega), ?_⟩
      rw [nI_clamp (by omega), hc.htn, nI_leI (by omega) (by omega)]
      exact ifT (by omega) (by rw [show k = a.2 4 p by omega]; exact h)
    | succ r ih =>
      intro k hk
      rw [LX2_testsUpTo_5]
      refine ⟨vp_in_nI (by omega) (by omega), ?_⟩
      rw [nI_clamp (by omega), hc.htn, nI_leI (by omega) (by omega)]
      refine ifF (by omega) ?_
      rw [ix12]
      refine ⟨vp_in_nI (by omega) (by omega), ?_⟩
      have hd := ok.hday p k hp (by omega)
      rw [nI_clamp (by omega), hc.hday, i32_lt, nI_toInt (by omega), hx]
      have := ih (k + 1) (by omega)
      unfold cntN at this
      unfold JX2_testsUpTo_35
      rw [nI_1 k, nI_1]
      refine ⟨fun g => ?_, fun g => ?_⟩
      · rw [if_neg (by omega)] at this
        exact this
      · rw [if_pos (by omega)] at this
        exact this
  have := key (a.2 4 p) 0 (by omega)
  rw [nI_0] at this
  exact ⟨_, this⟩
theorem uI_self {S : MS} {k n : Nat} {v : Int32} (h : S.1 k n = v) : uI S k n v = S := by
  refine Prod.ext ?_ rfl
  funext r
  rw [uI1]
  split
  · rename_i hr; subst hr; exact fa_upd_same h
  · rfl
theorem uI_twice (S : MS) (k n : Nat) (v w : Int32) : uI (uI S k n v) k n w = uI S k n w := by
  refine Prod.ext ?_ rfl
  funext r
  rw [uI1, uI1, uI1]
  split
  · exact fa_upd_twice _ _ _ _
  · rfl
theorem drop_ok {S M : MS} {a : AS} (ok : OKa a) (hc : aC S a) (hm : aM M a ev0 fo0) {p t : Nat} (ht : t ≤ a.2 4 p) : Inv (uI S 4 p (nI t)) (uI M 4 p (nI t)) := by
  refine ⟨aU a 4 p t, ?_, ?_, hm.one ⟨by omega, by omega, by omega⟩⟩
  · have e4 : ∀ q, (aU a 4 p t).2 4 q = if q = p then t else a.2 4 q := fun q => by simp [aU2]
    refine ok.keep rfl (fun r hr => aUn _ (by omega)) ?_ ?_ ?_ ?_ ?_ ?_
    · intro q; rw [aUn _ (by omega)]; exact ok.hcost q
    · intro q; rw [aUn _ (by omega)]; exact ok.hcost1 q
    · intro q; rw [e4]; have := ok.htn q; have := ok.htn p; split <;> omega
    · intro q g; rw [e4]; have h1 := ok.htn0 q g; split
      · subst q; omega
      · exact h1
    · intro q i g1 g2; rw [e4] at g2; rw [aUn _ (by omega)]; refine ok.hday q i g1 ?_
      split at g2
      · subst q; omega
      · exact g2
    · intro q i g1 g2; rw [e4] at g2; rw [aUn _ (by omega)]; refine ok.hsrt q i g1 ?_
      split at g2
      · subst q; omega
      · exact g2
  · refine hc.keep rfl rfl rfl rfl (fun r h1 h2 => uI_ne (by omega)) (fun r h1 h2 => aUn _ (by omega)) (fun r h1 h2 => rfl) hc.hnp ?_ ?_ ?_
    · intro q hq
      have := hc.hsh q hq
      refine ⟨?_, ?_, ?_, ?_⟩
      · rw [uI_ne (by omega), aUn _ (by omega)]; exact this.1
      · rw [uI_ne (by omega), aUn _ (by omega)]; exact this.2.1
      · rw [uI_ne (by omega), aUn _ (by omega)]; exact this.2.2.1
      · rw [uI_ne (by omega), aUn _ (by omega)]; exact this.2.2.2
    · intro i; exact row_uI (hc.htn i)
    · intro i; rw [uI_ne (by omega), aUn _ (by omega)]; exact hc.hday i
theorem op_noTests : OK_noTests Inv := by
  intro S M x1 x2 hI
  obtain ⟨a, ok, hc, hm⟩ := id hI
  have hnp := ok.hnp
  unfold wX5_noTests
  rcases (Classical.em (∃ p : Nat, p < a.1 0 ∧ x1 = nI p)).symm with h1 | ⟨p, hp, rfl⟩
  · exact has_f hc.hnp hnp h1 (br0 (by unfold wX6_noTests; exact rPart_f hm.hnp hnp h1 (br0 hI.bad)))
  refine has_t hc.hnp hnp hp (br1 ?_)
  rcases (Classical.em (∃ j : Nat, j ≤ 999 ∧ x2 = nI j)).symm with h2 | ⟨d, hd, rfl⟩
  · exact isDay_f h2 (br0 (by unfold wX6_noTests; exact rPart_t hm.hnp hnp hp (br1 (rDay_f h2 (br0 hI.bad)))))
  refine isDay_t hd (br1 ?_)
  unfold wX2_dropTests
  have tn := ok.htn p
  refine testsUpTo_spec (u := d) ok hc (by omega) (pk_sub_toInt (a := d) (b := 1) (by omega) (by omega)) ?_
  refine ⟨vp_in_nI (by omega) (by omega), vp_in_nI (by omega) (by omega), ?_⟩
  rintro _ rfl
  rw [nI_clamp (by omega), hc.htn, pk_sub (cntN_le _ _ _ _)]
  have hle := cntN_le a p d (a.2 4 p)
  unfold wX6_noTests
  refine rPart_t hm.hnp hnp hp (br1 (rDay_t hd (br1 ⟨vp_in_nI (by omega) (by omega), ?_⟩)))
  rw [nI_clamp (by omega), hm.htn]
  generalize hK : (fun S_5 : MS => vp_in (nI p) 12 ∧ (nI (a.2 4 p - cntN a p d (a.2 4 p)) = nI (a.2 4 p) - S_5.1 4 p ∧ Inv (uI S 4 p (nI (cntN a p d (a.2 4 p)))) S_5)) = K
  have hfin : K (uI M 4 p (nI (cntN a p d (a.2 4 p)))) := by
    rw [← hK]
    refine ⟨vp_in_nI (by omega) (by omega), ?_, drop_ok ok hc hm hle⟩
    rw [uI_at, pk_sub hle]
  have key : ∀ (t : Nat), t ≤ a.2 4 p → cntN a p d t = cntN a p d (a.2 4 p) → ∀ Q, LX6_noTests_24 (nI p) (nI d) (nI (a.2 4 p)) K Q (t + 1) (uI M 4 p (nI t)) := by
    intro t
    induction t with
    | zero =>
      intro h1 h2 Q
      rw [LX6_noTests_24]
      refine ⟨vp_in_nI (by omega) (by omega), ?_⟩
      rw [nI_clamp (by omega), uI_at, nI_le0 (by omega)]
      refine ifT rfl ?_
      rw [← h2] at hfin
      exact hfin
    | succ t ih =>
      intro h1 h2 Q
      rw [LX6_noTests_24]
      refine ⟨vp_in_nI (by omega) (by omega), ?_⟩
      rw [nI_clamp (by omega), uI_at, nI_le0 (by omega)]
      refine ifF (by omega) ⟨vp_in_nI (by omega) (by omega), ?_⟩
      rw [ix21, nI_s1 (by omega)]
      refine ⟨vp_in_nI (by omega) (by omega), ?_⟩
      have hdd := ok.hday p t (by omega) (by omega)
      rw [nI_clamp (by omega), uI_ne (S := M) (by omega), hm.hday, show 12 * p + (t + 1) - 1 = 12 * p + t by omega, nI_ltI (by omega) (by omega)]
      refine ⟨fun g => ?_, fun g => ⟨vp_in_nI (by omega) (by omega), vp_in_nI (by omega) (by omega), ?_⟩⟩
      · have := cntN_full ok (u := d) (by omega) (t + 1) h1 (fun _ => g)
        rw [h2] at this
        rw [this] at hfin
        exact hfin
      · rintro _ rfl
        rw [nI_s1 (by omega), uI_twice]
        refine ih (by omega) ?_ Q
        rw [← h2]
        show cntN a p d t = cntN a p d t + (if a.2 5 (12 * p + t) < d then 1 else 0)
        rw [if_neg g, Nat.add_zero]
  have := key (a.2 4 p) (Nat.le_refl _) rfl
  rw [uI_self (hm.htn p)] at this
  exact ⟨_, this _⟩
theorem sum_tail {f : Nat → Nat} {n : Nat} : ∀ (r : Nat), (∀ i, n ≤ i → i < n + r → f i = 0) → fb_sm f (n + r) = fb_sm f n
  | 0, _ => rfl
  | r + 1, h => by
    rw [show n + (r + 1) = (n + r) + 1 by omega, fb_sm_succ, sum_tail r (fun i h1 h2 => h i h1 (by omega)), h (n + r) (by omega) (by omega), Nat.add_zero]
theorem allTests_spec {S : MS} {a : AS} (ok : OKa a) (hc : aC S a) {Q : Int32 → MS → Prop} (h : Q (nI (fb_sm (a.2 4) (a.1 0))) S) : wX2_allTests S Q := by
  have hnp := ok.hnp
  have key : ∀ (r k : Nat), k + r = a.1 0 → LX2_allTests_4 (fun S_1 y_2 => Q y_2 S_1) Q (r + 1) S (nI (fb_sm (a.2 4) k)) (nI k) := by
    intro r
    induction r with
    | zero =>
      intro k hk
      rw [LX2_allTests_4, hc.hnp, nI_leI (by omega) (by omega)]
      exact ifT (by omega) (by rw [show k = a.1 0 by omega]; exact h)
    | succ r ih =>
      intro k hk
      rw [LX2_allTests_4, hc.hnp, nI_leI (by omega) (by omega)]
      refine ifF (by omega) ⟨vp_in_nI (by omega) (by omega), ?_⟩
      rw [nI_clamp (by omega), hc.htn, nI_add, nI_1]
      exact ih (k + 1) (by omega)
  have := key (a.1 0) 0 (by omega)
  exact ⟨_, this⟩
theorem rcount_spec {M : MS} {a : AS} (ok : OKa a) (hm : aM M a ev0 fo0) {x : Int32} {K : MS → Int32 → Prop} {Q : Int32 → MS → Prop} (h : K M (nI (fb_sm (a.2 4) 12))) : ∃ n, LX6_count_4 x K Q n M 0 0 := by
  have key : ∀ (r k : Nat), k + r = 12 → LX6_count_4 x K Q (r + 1) M (nI (fb_sm (a.2 4) k)) (nI k) := by
    intro r
    induction r with
    | zero =>
      intro k hk
      rw [LX6_count_4]
      have : k = 12 := by omega
      subst this
      exact ifT (by decide) h
    | succ r ih =>
      intro k hk
      rw [LX6_count_4]
      refine ifF (by rw [show (12 : Int32) = nI 12 from rfl, nI_leI (by omega) (by omega)]; omega) ⟨vp_in_nI (by omega) (by omega), ?_⟩
      rw [nI_clamp (by omega), hm.htn, nI_add, nI_1]
      exact ih (k + 1) (by omega)
  have := key 12 0 (by omega)
  exact ⟨_, this⟩
theorem op_count : OK_count Inv := by
  intro S M x1 hI
  obtain ⟨a, ok, hc, hm⟩ := id hI
  have hnp := ok.hnp
  have hs : fb_sm (a.2 4) 12 = fb_sm (a.2 4) (a.1 0) := by
    have := sum_tail (f := a.2 4) (n := a.1 0) (12 - a.1 0) (fun i h1 _ => ok.htn0 i h1)
    rw [show a.1 0 + (12 - a.1 0) = 12 by omega] at this
    exact this
  have hr : ∀ {r : Int32}, ((x1 = 0 → r = nI (a.1 0)) ∧ (x1 = 1 → r = nI (fb_sm (a.2 4) (a.1 0))) ∧ (x1 = 2 → r = nI (a.1 1)) ∧ (x1 = 3 → r = nI (a.1 2)) ∧ (x1 = 4 → r = nI (a.1 3)) ∧ (¬ x1 = 0 → ¬ x1 = 1 → ¬ x1 = 2 → ¬ x1 = 3 → ¬ x1 = 4 → r = -1)) → wX6_count M x1 (fun r1 M1 => r = r1 ∧ Inv S M1) := by
    intro r h
    unfold wX6_count
    refine rcount_spec ok hm ?_
    rw [hs, hm.hnp, hm.hnb, hm.hng, hm.hnv]
    exact ⟨fun g => ⟨h.1 g, hI⟩, fun g => ⟨h.2.1 g, hI⟩, fun g => ⟨h.2.2.1 g, hI⟩, fun g => ⟨h.2.2.2.1 g, hI⟩, fun g => ⟨h.2.2.2.2.1 g, hI⟩, fun g0 g1 g2 g3 g4 => ⟨h.2.2.2.2.2 g0 g1 g2 g3 g4, hI⟩⟩
  unfold wX5_count
  refine ⟨?_, ?_, ?_, ?_, ?_, ?_⟩
  · rintro rfl
    unfold wX2_size
    rw [hc.hnp]
    exact hr ⟨fun _ => rfl, fun h => absurd h (by decide), fun h => absurd h (by decide), fun h => absurd h (by decide), fun h => absurd h (by decide), fun h => absurd rfl h⟩
  · rintro rfl
    refine allTests_spec ok hc ?_
    exact hr ⟨fun h => absurd h (by decide), fun _ => rfl, fun h => absurd h (by decide), fun h => absurd h (by decide), fun h => absurd h (by decide), fun _ h => absurd rfl h⟩
  · rintro rfl
    unfold wX2_allBypasses
    rw [hc.hnb]
    exact hr ⟨fun h => absurd h (by decide), fun h => absurd h (by decide), fun _ => rfl, fun h => absurd h (by decide), fun h => absurd h (by decide), fun _ _ h => absurd rfl h⟩
  · rintro rfl
    unfold wX0_size
    rw [hc.hng]
    exact hr ⟨fun h => absurd h (by decide), fun h => absurd h (by decide), fun h => absurd h (by decide), fun _ => rfl, fun h => absurd h (by decide), fun _ _ _ h => absurd rfl h⟩
  · rintro rfl
    unfold wX4_size
    rw [hc.hnv]
    exact hr ⟨fun h => absurd h (by decide), fun h => absurd h (by decide), fun h => absurd h (by decide), fun h => absurd h (by decide), fun _ => rfl, fun _ _ _ _ h => absurd rfl h⟩
  · intro h0 h1 h2 h3 h4
    exact hr ⟨fun h => absurd h h0, fun h => absurd h h1, fun h => absurd h h2, fun h => absurd h h3, fun h => absurd h h4, fun _ _ _ _ _ => rfl⟩
