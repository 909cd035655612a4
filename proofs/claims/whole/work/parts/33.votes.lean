/-! PURE SIDE: packed, spread, and the component's acting sets -/
def pkN (n b : Nat) : Nat → Nat
  | 0 => 0
  | k + 1 => if b.testBit k = true then pkN n b k ||| ((if n.testBit k = true then 1 else 0) * 2 ^ fb_ct b.testBit k) else pkN n b k
def spN (s b : Nat) : Nat → Nat
  | 0 => 0
  | k + 1 => if b.testBit k = true then spN s b k ||| ((if s.testBit (fb_ct b.testBit k) = true then 1 else 0) * 2 ^ k) else spN s b k
theorem bit01 {c : Bool} {m i : Nat} : ((if c = true then 1 else 0) * 2 ^ m).testBit i = (c && decide (i = m)) := by
  cases c
  · simp
  · rw [if_pos rfl, Nat.one_mul, Bool.true_and]
    by_cases e : i = m
    · subst e; rw [Nat.testBit_two_pow_self]; simp
    · rw [Nat.testBit_two_pow_of_ne (by omega)]; simp [e]
theorem bit01_lt {c : Prop} [Decidable c] {m N : Nat} (h : m < N) : (if c then 1 else 0) * 2 ^ m < 2 ^ N := by
  have h1 : (2 : Nat) ^ m < 2 ^ N := Nat.pow_lt_pow_right (by omega) h
  split
  · omega
  · have := Nat.two_pow_pos N; omega
theorem pkN_bit (n b i : Nat) : ∀ k, (pkN n b k).testBit i = true ↔ ∃ p, p < k ∧ b.testBit p = true ∧ fb_ct b.testBit p = i ∧ n.testBit p = true
  | 0 => by simp [pkN]
  | k + 1 => by
    have ih := pkN_bit n b i k
    unfold pkN
    by_cases hb : b.testBit k = true
    · rw [if_pos hb, Nat.testBit_or, bit01, Bool.or_eq_true, ih]
      constructor
      · rintro (⟨p, h1, h2⟩ | h)
        · exact ⟨p, by omega, h2⟩
        · rw [Bool.and_eq_true, decide_eq_true_iff] at h
          exact ⟨k, by omega, hb, h.2.symm, h.1⟩
      · rintro ⟨p, h1, h2, h3, h4⟩
        by_cases e : p = k
        · subst e; right; rw [h4, h3]; simp
        · left; exact ⟨p, by omega, h2, h3, h4⟩
    · rw [if_neg hb, ih]
      constructor
      · rintro ⟨p, h1, h2⟩; exact ⟨p, by omega, h2⟩
      · rintro ⟨p, h1, h2⟩
        by_cases e : p = k
        · subst e; exact absurd h2.1 hb
        · exact ⟨p, by omega, h2⟩
theorem pkN_lt (n b : Nat) : ∀ k, pkN n b k < 2 ^ fb_ct b.testBit k
  | 0 => Nat.one_pos
  | k + 1 => by
    have ih := pkN_lt n b k
    unfold pkN
    rw [fb_ct_succ]
    by_cases hb : b.testBit k = true
    · rw [if_pos hb, if_pos hb]
      exact Nat.or_lt_two_pow (Nat.lt_trans ih (Nat.pow_lt_pow_right (by omega) (by omega))) (bit01_lt (by omega))
    · rw [if_neg hb, if_neg hb]; exact ih
theorem spN_bit (s b p : Nat) : ∀ k, (spN s b k).testBit p = (decide (p < k) && sprd b s p)
  | 0 => by simp [spN]
  | k + 1 => by
    have ih := spN_bit s b p k
    unfold spN
    by_cases hb : b.testBit k = true
    · rw [if_pos hb, Nat.testBit_or, bit01, ih]
      by_cases e : p = k
      · subst e; simp [sprd, hb]
      · rw [show decide (p < k + 1) = decide (p < k) by rw [decide_eq_decide]; omega]; simp [e]
    · rw [if_neg hb, ih]
      by_cases e : p = k
      · subst e; simp [sprd, hb]
      · rw [show decide (p < k + 1) = decide (p < k) by rw [decide_eq_decide]; omega]
theorem spN_lt (s b : Nat) : ∀ k, spN s b k < 2 ^ k
  | 0 => Nat.one_pos
  | k + 1 => by
    have ih := spN_lt s b k
    have h2 : 2 ^ k < 2 ^ (k + 1) := Nat.pow_lt_pow_right (by omega) (by omega)
    unfold spN
    split
    · exact Nat.or_lt_two_pow (by omega) (bit01_lt (by omega))
    · omega
theorem sprd_pk {n b p : Nat} (hp : p < 12) : sprd b (pkN n b 12) p = (b.testBit p && n.testBit p) := by
  unfold sprd
  cases hb : b.testBit p
  · simp
  · rw [Bool.true_and, Bool.true_and]
    rw [Bool.eq_iff_iff, pkN_bit]
    constructor
    · rintro ⟨q, h1, h2, h3, h4⟩
      have := fb_ct_kth_one h2 hb h3
      rw [← this]; exact h4
    · intro h; exact ⟨p, hp, hb, rfl, h⟩
theorem shlI {n c : Nat} (hc : c < 32) (h : n * 2 ^ c < 2 ^ 32) : nI n <<< (nI c &&& 31) = nI (n * 2 ^ c) := pk_shlN _ c (s_l c hc) h
theorem packed_spec {S : MS} {n b : Nat} {Q : Int32 → MS → Prop} (hn : n < 2 ^ 32) (hb : b < 2 ^ 32) (h : Q (nI (pkN n b 12)) S) : wX5_packed S (nI n) (nI b) Q := by
  have key : ∀ (r k : Nat), k + r = 12 → LX5_packed_7 (nI n) (nI b) (fun S_1 y_2 => Q y_2 S_1) Q (r + 1) S (nI (pkN n b k)) (nI (fb_ct b.testBit k)) (nI k) := by
    intro r
    induction r with
    | zero =>
      intro k hk
      have : k = 12 := by omega
      subst this
      rw [LX5_packed_7]
      exact ifT (by decide) h
    | succ r ih =>
      intro k hk
      rw [LX5_packed_7]
      refine ifF (by rw [le12 (by omega)]; omega) (hasBit_spec hb (by omega) ?_)
      have := ih (k + 1) (by omega)
      have hct := fb_ct_le b.testBit k
      unfold pkN at this
      rw [fb_ct_succ] at this
      unfold JX5_packed_37
      rw [nI_1]
      refine brB (fun g => ?_) (fun g => ?_)
      · rw [if_pos g, if_pos g] at this
        rintro _ rfl
        have hlt : (if n.testBit k = true then 1 else 0) * 2 ^ fb_ct b.testBit k < 2 ^ 32 := bit01_lt (by omega)
        rw [bitI hn (by omega), shlI (by omega) hlt, fa_or, nI_1]
        exact this
      · rw [if_neg (by rw [g]; decide), if_neg (by rw [g]; decide), Nat.add_zero] at this
        exact this
  have := key 12 0 (by omega)
  exact ⟨_, this⟩
theorem spread_spec {S : MS} {s b : Nat} {Q : Int32 → MS → Prop} (hs : s < 2 ^ 32) (hb : b < 2 ^ 32) (h : Q (nI (spN s b 12)) S) : wX5_spread S (nI s) (nI b) Q := by
  have key : ∀ (r k : Nat), k + r = 12 → LX5_spread_7 (nI s) (nI b) (fun S_1 y_2 => Q y_2 S_1) Q (r + 1) S (nI (spN s b k)) (nI (fb_ct b.testBit k)) (nI k) := by
    intro r
    induction r with
    | zero =>
      intro k hk
      have : k = 12 := by omega
      subst this
      rw [LX5_spread_7]
      exact ifT (by decide) h
    | succ r ih =>
      intro k hk
      rw [LX5_spread_7]
      refine ifF (by rw [le12 (by omega)]; omega) (hasBit_spec hb (by omega) ?_)
      have := ih (k + 1) (by omega)
      have hct := fb_ct_le b.testBit k
      unfold spN at this
      rw [fb_ct_succ] at this
      unfold JX5_spread_37
      rw [nI_1]
      refine brB (fun g => ?_) (fun g => ?_)
      · rw [if_pos g, if_pos g] at this
        rintro _ rfl
        have hlt : (if s.testBit (fb_ct b.testBit k) = true then 1 else 0) * 2 ^ k < 2 ^ 32 := bit01_lt (by omega)
        rw [bitI hs (by omega), shlI (by omega) hlt, fa_or, nI_1]
        exact this
      · rw [if_neg (by rw [g]; decide), if_neg (by rw [g]; decide), Nat.add_zero] at this
        exact this
  have := key 12 0 (by omega)
  exact ⟨_, this⟩
/-- what the component's rows say of votes, sets worked out below m -/
def VV (S : MS) (a : AS) (m : Nat) : Prop := (∀ i, S.1 8 i = nI (a.2 13 i)) ∧ (∀ i, S.1 9 i = nI (a.2 14 i)) ∧ (∀ v j, v < a.1 3 → j < a.2 14 v → S.1 10 (4 * v + j) = nI (a.2 15 (4 * v + j))) ∧ (∀ v, v < a.1 3 → S.1 11 v = nI (bel a v)) ∧
  (∀ v, v < m → (mems (bel a v)).length ≤ 8 → ∀ s, s < 2 ^ (mems (bel a v)).length → bitL (S.2.1 1 (4 * v + s / 64)) (s % 64) = act a v (sprd (bel a v) s))
theorem aC.VV {S : MS} {a : AS} (hc : aC S a) : VV S a (a.1 3) := ⟨hc.hvk, hc.hvn, hc.hvi, hc.hbel, hc.hact⟩
theorem p256 {n : Nat} (h : n ≤ 8) : 2 ^ n ≤ 256 := Nat.pow_le_pow_right (n := 2) (by omega) h
theorem actsIn_spec {S : MS} {a : AS} (ok : OKa a) {m v s : Nat} (hV : VV S a m) (hm : m ≤ a.1 3) (hv : v < m) (h8 : (mems (bel a v)).length ≤ 8) (hs : s < 2 ^ (mems (bel a v)).length) {Q : Int32 → MS → Prop} (h : Q (bI (act a v (sprd (bel a v) s))) S) : wX4_actsIn S (nI v) (nI s) Q := by
  have hnv := ok.hnv
  have := p256 h8
  unfold wX4_actsIn
  rw [sh6 (by omega), and63 (by omega), show nI v * 4 + nI (s / 64) = nI (4 * v + s / 64) from ixm v _ 4]
  refine ⟨vp_in_nI (by omega) (by omega), ?_⟩
  rw [nI_clamp (by omega), bit_t (Nat.mod_lt _ (by omega)), hV.2.2.2.2 v hv h8 s hs]
  cases hb : act a v (sprd (bel a v) s)
  · rw [hb] at h; exact ifT rfl h
  · rw [hb] at h; exact ifF (by decide) h
theorem sub_len {b c : Nat} (h : ∀ p, b.testBit p = true → c.testBit p = true) : (mems b).length ≤ (mems c).length := by
  rw [mems_len, mems_len]; exact fb_ct_sub (fun k _ => h k)
theorem inputActs_spec {S : MS} {a : AS} (ok : OKa a) {m v j n : Nat} (hV : VV S a m) (hm : m ≤ a.1 3) (hv : v < a.1 3) (hvm : v ≤ m) (h8 : (mems (bel a v)).length ≤ 8) (hj : j < a.2 14 v) (hn : n < 2 ^ 32) {Q : Int32 → MS → Prop}
    (h : Q (bI (if a.2 15 (4 * v + j) < 12 then n.testBit (a.2 15 (4 * v + j)) else act a (a.2 15 (4 * v + j) - 12) n.testBit)) S) : wX4_inputActs S (nI (a.2 15 (4 * v + j))) (nI n) Q := by
  have hnv := ok.hnv
  have hnp := ok.hnp
  have hin := ok.hinp v j hv hj
  have hbb := bel_bits ok hv hj
  unfold wX4_inputActs
  rw [le12 (by omega)]
  refine ⟨fun g => ?_, fun g => ?_⟩
  · rw [nI12 g]
    refine ⟨vp_in_nI (by omega) (by omega), ?_⟩
    generalize hw : a.2 15 (4 * v + j) - 12 = w at hbb h
    have hwv : w < v := by omega
    rw [nI_clamp (by omega), hV.2.2.2.1 w (by omega)]
    have hb4 := bel_4096 ok (v := w) (by omega)
    refine packed_spec hn (by omega) (actsIn_spec ok hV hm (by omega) (Nat.le_trans (sub_len (hbb.2 g)) h8) (by rw [mems_len]; exact pkN_lt _ _ _) ⟨bI_nar _, ?_⟩)
    rw [if_neg (by omega)] at h
    rw [act_dep ok (A := sprd (bel a w) (pkN n (bel a w) 12)) (B := n.testBit) w (by omega) (fun p hp => ?_)]
    · exact h
    · have hp12 : p < 12 := by
        rcases Nat.lt_or_ge p 12 with g | g
        · exact g
        · rw [Nat.testBit_lt_two_pow (Nat.lt_of_lt_of_le hb4 (Nat.pow_le_pow_right (n := 2) (by omega) g))] at hp; exact absurd hp (by decide)
      rw [sprd_pk hp12, hp, Bool.true_and]
  · rw [if_pos (by omega)] at h
    exact hasBit_spec hn (by omega) ⟨bI_nar _, h⟩
theorem actingInputs_spec {S : MS} {a : AS} (ok : OKa a) {m v n : Nat} (hV : VV S a m) (hm : m ≤ a.1 3) (hv : v < a.1 3) (hvm : v ≤ m) (h8 : (mems (bel a v)).length ≤ 8) (hn : n < 2 ^ 32) {Q : Int32 → MS → Prop}
    (h : Q (nI (inA a (fun w => act a w n.testBit) n.testBit v (a.2 14 v))) S) : wX4_actingInputs S (nI v) (nI n) Q := by
  have hnv := ok.hnv
  have hvo := ok.hvot v hv
  have key : ∀ (r j : Nat), j + r = a.2 14 v → LX4_actingInputs_5 (nI v) (nI n) (fun S_1 y_2 => Q y_2 S_1) Q (r + 1) S (nI (inA a (fun w => act a w n.testBit) n.testBit v j)) (nI j) := by
    intro r
    induction r with
    | zero =>
      intro j hj
      rw [LX4_actingInputs_5]
      refine ⟨vp_in_nI (by omega) (by omega), ?_⟩
      rw [nI_clamp (by omega), hV.2.1, nI_leI (by omega) (by omega)]
      exact ifT (by omega) (by rw [show j = a.2 14 v by omega]; exact h)
    | succ r ih =>
      intro j hj
      rw [LX4_actingInputs_5]
      refine ⟨vp_in_nI (by omega) (by omega), ?_⟩
      rw [nI_clamp (by omega), hV.2.1, nI_leI (by omega) (by omega)]
      refine ifF (by omega) ?_
      rw [show nI v * 4 + nI j = nI (4 * v + j) from ixm v j 4]
      refine ⟨vp_in_nI (by omega) (by omega), ?_⟩
      rw [nI_clamp (by omega), hV.2.2.1 v j hv (by omega)]
      refine inputActs_spec ok hV hm hv hvm h8 (by omega) hn ?_
      have := ih (j + 1) (by omega)
      unfold inA at this
      unfold JX4_actingInputs_38
      rw [nI_1, nI_1]
      refine brB (fun g => ?_) (fun g => ?_)
      · rw [if_pos g] at this; exact this
      · rw [if_neg (by rw [g]; decide), Nat.add_zero] at this; exact this
  have := key (a.2 14 v) 0 (by omega)
  exact ⟨_, this⟩
/-- sets of a vote worked out below t -/
def wkO (S S' : MS) (a : AS) (v t : Nat) : Prop := S'.1 = S.1 ∧ S'.2.2 = S.2.2 ∧ S'.2.1 0 = S.2.1 0 ∧ (∀ q, q < 4 * v ∨ 4 * v + 4 ≤ q → S'.2.1 1 q = S.2.1 1 q) ∧
  ∀ u, u < 256 → bitL (S'.2.1 1 (4 * v + u / 64)) (u % 64) = (decide (u < t) && act a v (sprd (bel a v) u))
theorem shl1_bit {c j : Nat} (hc : c < 64) (hj : j < 64) : bitL (jlshl 1 (nI c)) j = decide (j = c) := by
  rw [show (1 : Int64) = lN 1 from rfl, shlL hc, bitL_lN hj, Nat.one_mul]
  by_cases e : j = c
  · subst e; rw [Nat.testBit_two_pow_self]; simp
  · rw [Nat.testBit_two_pow_of_ne (by omega)]; simp [e]
theorem VV.wk {S S' : MS} {a : AS} {v t : Nat} (hV : VV S a v) (hw : wkO S S' a v t) : VV S' a v := by
  obtain ⟨w1, w2, w3, w4, w5⟩ := hw
  refine ⟨by rw [w1]; exact hV.1, by rw [w1]; exact hV.2.1, by rw [w1]; exact hV.2.2.1, by rw [w1]; exact hV.2.2.2.1, ?_⟩
  intro u hu h8 s hs
  have := p256 h8
  rw [w4 _ (by omega)]
  exact hV.2.2.2.2 u hu h8 s hs
theorem workOut_loop {S : MS} {a : AS} (ok : OKa a) {v : Nat} (hV : VV S a v) (hv : v < a.1 3) (h8 : (mems (bel a v)).length ≤ 8) {K Q : MS → Prop} (h : ∀ S', wkO S S' a v (2 ^ (mems (bel a v)).length) → K S') :
    ∀ (r t : Nat) (S' : MS), t + r = 2 ^ (mems (bel a v)).length → wkO S S' a v t → LX4_workOutActingSets_10 (nI v) (nI (2 ^ (mems (bel a v)).length)) K Q (r + 1) S' (nI t) := by
  have hnv := ok.hnv
  have hp := p256 h8
  have hb4 := bel_4096 ok hv
  have hvo := ok.hvot v hv
  intro r
  induction r with
  | zero =>
    intro t S' ht hw
    rw [LX4_workOutActingSets_10, nI_leI (by omega) (by omega)]
    exact ifT (by omega) (h S' (by rw [show 2 ^ (mems (bel a v)).length = t by omega]; exact hw))
  | succ r ih =>
    intro t S' ht hw
    have hV' := hV.wk hw
    rw [LX4_workOutActingSets_10, nI_leI (by omega) (by omega)]
    refine ifF (by omega) ⟨vp_in_nI (by omega) (by omega), ?_⟩
    rw [nI_clamp (by omega), hV'.2.2.2.1 v hv]
    have hsl := spN_lt t (bel a v) 12
    refine spread_spec (by omega) (by omega) (actingInputs_spec ok hV' (by omega) hv (Nat.le_refl _) h8 (by omega) ⟨vp_in_nI (by omega) (by omega), ?_⟩)
    have hle := inA_le a (fun w => act a w (spN t (bel a v) 12).testBit) (spN t (bel a v) 12).testBit v (a.2 14 v)
    rw [hV'.1, nI_ltI (by omega) (by omega)]
    have hact : act a v (sprd (bel a v) t) = decide (a.2 13 v ≤ inA a (fun w => act a w (spN t (bel a v) 12).testBit) (spN t (bel a v) 12).testBit v (a.2 14 v)) := by
      rw [← act_eq ok hv]
      refine act_dep ok v hv (fun p hp => ?_)
      rw [spN_bit]
      have hp12 : p < 12 := by
        rcases Nat.lt_or_ge p 12 with g | g
        · exact g
        · rw [Nat.testBit_lt_two_pow (Nat.lt_of_lt_of_le hb4 (Nat.pow_le_pow_right (n := 2) (by omega) g))] at hp; exact absurd hp (by decide)
      simp [hp12]
    obtain ⟨w1, w2, w3, w4, w5⟩ := hw
    unfold JX4_workOutActingSets_61
    rw [nI_1]
    refine ⟨fun g => ?_, fun g => ?_⟩
    · refine ih (t + 1) S' (by omega) ⟨w1, w2, w3, w4, fun u hu => ?_⟩
      rw [w5 u hu]
      by_cases e : u = t
      · subst e
        rw [hact, show decide (a.2 13 v ≤ inA a (fun w => act a w (spN u (bel a v) 12).testBit) (spN u (bel a v) 12).testBit v (a.2 14 v)) = false by rw [decide_eq_false_iff_not]; omega, Bool.and_false, Bool.and_false]
      · rw [show decide (u < t + 1) = decide (u < t) by rw [decide_eq_decide]; omega]
    · rw [sh6 (by omega), and63 (by omega), show nI v * 4 + nI (t / 64) = nI (4 * v + t / 64) from ixm v _ 4]
      refine ⟨vp_in_nI (by omega) (by omega), vp_in_nI (by omega) (by omega), ?_⟩
      rintro _ rfl
      rw [nI_clamp (by omega)]
      refine ih (t + 1) _ (by omega) ⟨w1, w2, by rw [uL21, if_neg (by omega)]; exact w3, fun q hq => ?_, fun u hu => ?_⟩
      · rw [uL21, if_pos rfl, vp_updL]
        show (if q = 4 * v + t / 64 then _ else _) = _
        rw [if_neg (by omega)]; exact w4 q hq
      · rw [uL21, if_pos rfl]
        by_cases eq : u / 64 = t / 64
        · rw [eq, show vp_updL (S'.2.1 1) (4 * v + t / 64) (S'.2.1 1 (4 * v + t / 64) ||| jlshl 1 (nI (t % 64))) (4 * v + t / 64) = S'.2.1 1 (4 * v + t / 64) ||| jlshl 1 (nI (t % 64)) by simp [vp_updL], bitL_or, shl1_bit (Nat.mod_lt _ (by omega)) (Nat.mod_lt _ (by omega)), ← eq, w5 u hu]
          by_cases e : u = t
          · subst e
            rw [hact, show decide (a.2 13 v ≤ inA a (fun w => act a w (spN u (bel a v) 12).testBit) (spN u (bel a v) 12).testBit v (a.2 14 v)) = true by rw [decide_eq_true_iff]; omega]
            simp
          · rw [show decide (u % 64 = t % 64) = false by rw [decide_eq_false_iff_not]; omega, Bool.or_false, show decide (u < t + 1) = decide (u < t) by rw [decide_eq_decide]; omega]
        · rw [show vp_updL (S'.2.1 1) (4 * v + t / 64) (S'.2.1 1 (4 * v + t / 64) ||| jlshl 1 (nI (t % 64))) (4 * v + u / 64) = S'.2.1 1 (4 * v + u / 64) by simp [vp_updL]; intro h; omega, w5 u hu]
          rw [show decide (u < t + 1) = decide (u < t) by rw [decide_eq_decide]; omega]
theorem workOut_spec {S : MS} {a : AS} (ok : OKa a) {v : Nat} (hV : VV S a v) (hv : v < a.1 3) (h8 : (mems (bel a v)).length ≤ 8) (h0 : ∀ i, 4 * v ≤ i → S.2.1 1 i = 0) {Q : MS → Prop} (h : ∀ S', wkO S S' a v (2 ^ (mems (bel a v)).length) → Q S') : wX4_workOutActingSets S (nI v) Q := by
  have hnv := ok.hnv
  unfold wX4_workOutActingSets wX4_sizeBelow
  refine ⟨vp_in_nI (by omega) (by omega), ?_⟩
  rw [nI_clamp (by omega), hV.2.2.2.1 v hv]
  refine cbits_spec (bel_4096 ok hv) ?_
  rw [← mems_len]
  dsimp only
  rw [shl1 (by omega)]
  have := workOut_loop ok hV hv h8 (K := fun S_3 => Q S_3) (Q := Q) h (2 ^ (mems (bel a v)).length) 0 S (by omega) ⟨rfl, rfl, rfl, fun _ _ => rfl, fun u hu => by rw [h0 _ (by omega), bitL_0]; simp⟩
  exact ⟨_, this⟩
