/-! PURE SIDE: plan, the component -/
def chA (a : AS) (v t i : Nat) : Nat := t / 3 ^ ((mems (bel a v)).length - 1 - i) % 3
def evA (a : AS) (v : Nat) (iv : Nat → Nat) (t p : Nat) : Nat := if (bel a v).testBit p = true then iv (chA a v t (fb_ct (bel a v).testBit p)) else 0
def cA (a : AS) (v : Nat) (iv : Nat → Nat) (t k : Nat) : Nat := fb_sm (fun i => a.2 3 (mb (bel a v) i) * (100 / iv (chA a v t i))) k
def dA (a : AS) (v : Nat) (iv : Nat → Nat) (t d : Nat) : Nat := CH a v (fun p => shv a (evA a v iv t) fo0 p d)
def sA (a : AS) (v : Nat) (iv : Nat → Nat) (t k : Nat) : Nat := fb_sm (dA a v iv t) k
def tld (s : Nat) : Nat → Nat
  | 0 => 0
  | i + 1 => tld s i * 3 + s / 3 ^ i % 3
def IV (iv : Nat → Nat) : Prop := ∀ j, j < 3 → 1 ≤ iv j ∧ iv j ≤ 100
def bp (a : AS) (v : Nat) (iv : Nat → Nat) (L : Nat) : Nat → Option Nat
  | 0 => none
  | t + 1 => match bp a v iv L t with
    | none => if sA a v iv t 100 ≤ L then some t else none
    | some s => if cA a v iv s (mems (bel a v)).length ≤ cA a v iv t (mems (bel a v)).length then some s else if sA a v iv t 100 ≤ L then some t else some s
theorem bp_n {a : AS} {v : Nat} {iv : Nat → Nat} {L t : Nat} (h : bp a v iv L t = none) : bp a v iv L (t + 1) = if sA a v iv t 100 ≤ L then some t else none := by
  show (match bp a v iv L t with
    | none => if sA a v iv t 100 ≤ L then some t else none
    | some s => if cA a v iv s (mems (bel a v)).length ≤ cA a v iv t (mems (bel a v)).length then some s else if sA a v iv t 100 ≤ L then some t else some s) = _
  rw [h]
theorem bp_s {a : AS} {v : Nat} {iv : Nat → Nat} {L t s : Nat} (h : bp a v iv L t = some s) : bp a v iv L (t + 1) = if cA a v iv s (mems (bel a v)).length ≤ cA a v iv t (mems (bel a v)).length then some s else if sA a v iv t 100 ≤ L then some t else some s := by
  show (match bp a v iv L t with
    | none => if sA a v iv t 100 ≤ L then some t else none
    | some s => if cA a v iv s (mems (bel a v)).length ≤ cA a v iv t (mems (bel a v)).length then some s else if sA a v iv t 100 ≤ L then some t else some s) = _
  rw [h]
theorem bp_lt {a : AS} {v : Nat} {iv : Nat → Nat} {L : Nat} : ∀ {t s : Nat}, bp a v iv L t = some s → s < t
  | 0, s, h => by unfold bp at h; exact absurd h (by simp)
  | t + 1, s, h => by
    cases e : bp a v iv L t with
    | none =>
      rw [bp_n e] at h
      split at h
      · have := Option.some.inj h; omega
      · exact absurd h (by simp)
    | some s' =>
      have := bp_lt e
      rw [bp_s e] at h
      split at h
      · have := Option.some.inj h; omega
      · split at h
        · have := Option.some.inj h; omega
        · have := Option.some.inj h; omega
theorem chA_lt (a : AS) (v t i : Nat) : chA a v t i < 3 := Nat.mod_lt _ (by omega)
theorem cA_le {a : AS} (ok : OKa a) {v : Nat} {iv : Nat → Nat} {t : Nat} : ∀ k, cA a v iv t k ≤ 100000 * k
  | 0 => Nat.le_refl _
  | k + 1 => by
    have ih := cA_le ok (v := v) (iv := iv) (t := t) k
    unfold cA at ih ⊢
    rw [fb_sm_succ]
    have h1 := ok.hcost (mb (bel a v) k)
    have h2 := Nat.div_le_self 100 (iv (chA a v t k))
    have h3 := Nat.mul_le_mul h1 h2
    omega
theorem sm_le {f : Nat → Nat} {c : Nat} (h : ∀ d, f d ≤ c) : ∀ k, fb_sm f k ≤ c * k
  | 0 => Nat.le_refl _
  | k + 1 => by
    have := sm_le h k
    have := h k
    rw [fb_sm_succ, Nat.mul_succ]
    omega
theorem sm_mono (f : Nat → Nat) (k : Nat) : ∀ r, fb_sm f k ≤ fb_sm f (k + r)
  | 0 => Nat.le_refl _
  | r + 1 => by
    have := sm_mono f k r
    rw [← Nat.add_assoc, fb_sm_succ]
    omega
theorem dA_le {a : AS} (ok : OKa a) {v : Nat} (h8 : evs a v ≤ 8) {iv : Nat → Nat} {t : Nat} (d : Nat) : dA a v iv t d ≤ 281474976710656 := CH_le ok h8 (fun p _ => shv_le (fo0_le p))
theorem sA_le {a : AS} (ok : OKa a) {v : Nat} (h8 : evs a v ≤ 8) {iv : Nat → Nat} {t k : Nat} (hk : k ≤ 100) : sA a v iv t k ≤ 28147497671065600 := by
  have := sm_le (dA_le ok h8 (iv := iv) (t := t)) k
  unfold sA
  omega
theorem sA_mono {a : AS} {v : Nat} {iv : Nat → Nat} {t k : Nat} (hk : k ≤ 100) : sA a v iv t k ≤ sA a v iv t 100 := by
  have := sm_mono (dA a v iv t) k (100 - k)
  rw [show k + (100 - k) = 100 by omega] at this
  exact this
theorem dec1 (j : Nat) : nI j + (-1) = nI j - 1 := (Int32.sub_eq_add_neg (nI j) 1).symm
theorem nlt0 {j : Nat} (h : j < 2 ^ 31) : ¬ nI j < 0 := by
  rw [show (0 : Int32) = nI 0 from rfl, nI_ltI h (by omega)]; omega
theorem m3 {x : Nat} (h : x < 2 ^ 31) : nI x - nI x / 3 * 3 = nI (x % 3) := pk_rem (d := 3) h (by omega) (by omega)
theorem d3 {x : Nat} (h : x < 2 ^ 31) : nI x / 3 = nI (x / 3) := pk_div (d := 3) h (by omega) (by omega)
theorem dv3 (t k : Nat) : t / 3 ^ k / 3 = t / 3 ^ (k + 1) := by rw [Nat.div_div_eq_div_mul, Nat.pow_succ]
theorem OD.x15 {S S' : MS} {a : AS} {v : Nat} (h : OD S a v) (he : eqx 15 S S') : OD S' a v :=
  ⟨h.1.eqx (by omega) he, by rw [he.2]; exact h.2.1, by rw [he.2]; exact h.2.2.1, by rw [he.1 12 (by omega)]; exact h.2.2.2.1, by rw [he.2]; exact h.2.2.2.2⟩
theorem eqx.sc15 {S S' : MS} (h : eqx 15 S S') : scC S S' := ⟨fun r hr => h.1 r (by omega), fun _ _ => by rw [h.2], fun _ _ => by rw [h.2]⟩
theorem takeChoices_spec {S : MS} {a : AS} {v t : Nat} (hO : OD S a v) (hn : (mems (bel a v)).length ≤ 3) (ht : t < 2 ^ 31) {Q : MS → Prop}
    (h : ∀ S', eqx 15 S S' → (∀ i, i < (mems (bel a v)).length → S'.1 15 i = nI (chA a v t i)) → Q S') : wX3_takeChoices S (nI t) Q := by
  unfold wX3_takeChoices wX1_memberCount
  dsimp only
  rw [hO.2.1]
  have key : ∀ (i : Nat) (S' : MS), i ≤ (mems (bel a v)).length → eqx 15 S S' → (∀ j, i ≤ j → j < (mems (bel a v)).length → S'.1 15 j = nI (chA a v t j)) → LX3_takeChoices_12 (fun S_3 => Q S_3) Q (i + 1) S' (nI (t / 3 ^ ((mems (bel a v)).length - i))) (nI i - 1) := by
    intro i
    induction i with
    | zero =>
      intro S' hi he hf
      rw [LX3_takeChoices_12]
      exact ifT (by decide) (h S' he (fun j hj => hf j (by omega) hj))
    | succ i ih =>
      intro S' hi he hf
      have hlt : t / 3 ^ ((mems (bel a v)).length - (i + 1)) < 2 ^ 31 := Nat.lt_of_le_of_lt (Nat.div_le_self _ _) ht
      rw [LX3_takeChoices_12, nI_s1 (by omega), show i + 1 - 1 = i by omega]
      refine ifF (nlt0 (by omega)) ⟨vp_in_nI (by omega) (by omega), ?_⟩
      rintro _ rfl
      rw [nI_clamp (by omega), m3 hlt, d3 hlt, dec1, dv3, show (mems (bel a v)).length - (i + 1) + 1 = (mems (bel a v)).length - i by omega]
      refine ih _ (by omega) (he.put _ _) (fun j hj hj2 => ?_)
      by_cases e : j = i
      · subst e
        rw [uI_at]
        unfold chA
        rw [show (mems (bel a v)).length - (j + 1) = (mems (bel a v)).length - 1 - j by omega]
      · rw [uI_nei e]; exact hf j (by omega) hj2
  have := key (mems (bel a v)).length S (Nat.le_refl _) (eqx.rf _ _) (fun j h1 h2 => by omega)
  rw [Nat.sub_self, Nat.pow_zero, Nat.div_one] at this
  exact ⟨_, this⟩
theorem toldChoices_spec {S : MS} {a : AS} {v t : Nat} (h4 : S.2.2 4 = nI (mems (bel a v)).length) (hn : (mems (bel a v)).length ≤ 3) (hch : ∀ i, i < (mems (bel a v)).length → S.1 15 i = nI (chA a v t i)) {Q : Int32 → MS → Prop}
    (h : Q (nI (tld t (mems (bel a v)).length)) S) : wX3_toldChoices S Q := by
  unfold wX3_toldChoices wX1_memberCount
  dsimp only
  rw [h4]
  have key : ∀ (i : Nat), i ≤ (mems (bel a v)).length → LX3_toldChoices_12 (fun S_3 y_4 => Q y_4 S_3) Q (i + 1) S (nI (tld t ((mems (bel a v)).length - i))) (nI i - 1) := by
    intro i
    induction i with
    | zero =>
      intro hi
      rw [LX3_toldChoices_12]
      exact ifT (by decide) h
    | succ i ih =>
      intro hi
      rw [LX3_toldChoices_12, nI_s1 (by omega), show i + 1 - 1 = i by omega]
      refine ifF (nlt0 (by omega)) ⟨vp_in_nI (by omega) (by omega), ?_⟩
      rintro _ rfl
      have := ih (by omega)
      rw [show (mems (bel a v)).length - i = (mems (bel a v)).length - 1 - i + 1 by omega] at this
      unfold tld at this
      rw [nI_clamp (by omega), hch i (by omega), dec1, show (3 : Int32) = nI 3 from rfl, pk_mul, nI_add, show (mems (bel a v)).length - (i + 1) = (mems (bel a v)).length - 1 - i by omega]
      exact this
  have := key (mems (bel a v)).length (Nat.le_refl _)
  rw [Nat.sub_self] at this
  exact ⟨_, this⟩
theorem costOfChoices_spec {S : MS} {a : AS} (ok : OKa a) {v t : Nat} (hv : v < a.1 3) (hO : OD S a v) (hn : (mems (bel a v)).length ≤ 3) {iv : Nat → Nat} (hI : IV iv) (h14 : ∀ j, j < 3 → S.1 14 j = nI (iv j)) (hch : ∀ i, i < (mems (bel a v)).length → S.1 15 i = nI (chA a v t i)) {Q : Int32 → MS → Prop}
    (h : Q (nI (cA a v iv t (mems (bel a v)).length)) S) : wX3_costOfChoices S Q := by
  have hnp := ok.hnp
  have key : ∀ (r k : Nat), k + r = (mems (bel a v)).length → LX3_costOfChoices_4 (fun S_1 y_2 => Q y_2 S_1) Q (r + 1) S (nI (cA a v iv t k)) (nI k) := by
    intro r
    induction r with
    | zero =>
      intro k hk
      rw [LX3_costOfChoices_4]
      unfold wX1_memberCount
      dsimp only
      rw [hO.2.1, nI_leI (by omega) (by omega)]
      exact ifT (by omega) (by rw [show k = (mems (bel a v)).length by omega]; exact h)
    | succ r ih =>
      intro k hk
      have hm := mb_spec (b := bel a v) (i := k) (by omega)
      have hpn := bel_np ok hv hm.2.1
      have hc3 := chA_lt a v t k
      have hii := hI _ hc3
      rw [LX3_costOfChoices_4]
      unfold wX1_memberCount wX1_memberAt wX2_costOf
      dsimp only
      rw [hO.2.1, nI_leI (by omega) (by omega), nI_clamp (by omega), hO.2.2.2.1 k (by omega), nI_clamp (by omega), (hO.1.hsh _ hpn).2.2.2, hch k (by omega), nI_clamp (by omega), h14 _ hc3]
      refine ifF (by omega) ⟨vp_in_nI (by omega) (by omega), vp_in_nI (by omega) (by omega), vp_in_nI (by omega) (by omega), vp_in_nI (by omega) (by omega), by rw [nI_e0 (by omega)]; omega, ?_⟩
      rintro _ rfl
      have := ih (k + 1) (by omega)
      unfold cA at this ⊢
      rw [fb_sm_succ] at this
      rw [show (100 : Int32) = nI 100 from rfl, pk_div (by omega) (by omega) (by omega), pk_mul, nI_add, nI_1]
      exact this
  have := key (mems (bel a v)).length 0 (by omega)
  exact ⟨_, this⟩
/-- only the shares and the folds differ -/
def KP (S S' : MS) : Prop := (∀ r, r ≠ 13 → S'.1 r = S.1 r) ∧ S'.2.2 = S.2.2 ∧ ∀ r, r ≠ 3 → S'.2.1 r = S.2.1 r
theorem KP.rf (S : MS) : KP S S := ⟨fun _ _ => rfl, rfl, fun _ _ => rfl⟩
theorem KP.tr {S S' S'' : MS} (h : KP S S') (h' : KP S' S'') : KP S S'' := ⟨fun r hr => (h'.1 r hr).trans (h.1 r hr), h'.2.1.trans h.2.1, fun r hr => (h'.2.2 r hr).trans (h.2.2 r hr)⟩
theorem eqx.KP {S S' : MS} (h : eqx 13 S S') : KP S S' := ⟨h.1, by rw [h.2], fun _ _ => by rw [h.2]⟩
theorem eqL.KP {S S' : MS} (h : eqL 3 S S') : KP S S' := ⟨fun _ _ => by rw [h.1], h.2.1, h.2.2⟩
theorem KP.sc {S S' : MS} (h : KP S S') : scC S S' := ⟨fun r hr => h.1 r (by omega), fun r hr => h.2.2 r (by omega), fun _ _ => by rw [h.2.1]⟩
theorem KP.OD {S S' : MS} (h : KP S S') {a : AS} {v : Nat} (hO : OD S a v) : OD S' a v :=
  ⟨hO.1.sc h.sc, by rw [h.2.1]; exact hO.2.1, by rw [h.2.1]; exact hO.2.2.1, by rw [h.1 12 (by omega)]; exact hO.2.2.2.1, by rw [h.2.2 2 (by omega)]; exact hO.2.2.2.2⟩
theorem shv_evA {a : AS} {v : Nat} {iv : Nat → Nat} (hI : IV iv) {t i d : Nat} (hi : i < (mems (bel a v)).length) : shv a (evA a v iv t) fo0 (mb (bel a v) i) d = if byp a (mb (bel a v) i) d = true then 64 else min 64 (a.2 0 (mb (bel a v) i) + a.2 1 (mb (bel a v) i) * (d % iv (chA a v t i))) := by
  have hm := mb_spec hi
  have hii := hI _ (chA_lt a v t i)
  have he : evA a v iv t (mb (bel a v) i) = iv (chA a v t i) := by unfold evA; rw [if_pos hm.2.1, hm.2.2]
  unfold shv
  rw [he, if_neg (show ¬ 0 ≤ (fo0 (mb (bel a v) i)).toInt by show ¬ 0 ≤ (-1 : Int32).toInt; decide), if_pos (show 0 < iv (chA a v t i) by omega)]
theorem keepsIn_spec {S : MS} {a : AS} (ok : OKa a) {v t d : Nat} (hv : v < a.1 3) (hO : OD S a v) (hn : (mems (bel a v)).length ≤ 3) (hd : d < 100) {iv : Nat → Nat} (hI : IV iv) (h14 : ∀ j, j < 3 → S.1 14 j = nI (iv j)) (hch : ∀ i, i < (mems (bel a v)).length → S.1 15 i = nI (chA a v t i)) {x1 x3 : Int64} {K : MS → Prop} {Q : Int32 → MS → Prop}
    (h : ∀ S', eqx 13 S S' → (∀ i, i < (mems (bel a v)).length → S'.1 13 i = nI (shv a (evA a v iv t) fo0 (mb (bel a v) i) d)) → K S') : ∃ n, LX3_keepsLaw_21 x1 x3 (nI d) K Q n S 0 := by
  have hnp := ok.hnp
  have key : ∀ (r k : Nat) (S' : MS), k + r = (mems (bel a v)).length → eqx 13 S S' → (∀ i, i < k → S'.1 13 i = nI (shv a (evA a v iv t) fo0 (mb (bel a v) i) d)) → LX3_keepsLaw_21 x1 x3 (nI d) K Q (r + 1) S' (nI k) := by
    intro r
    induction r with
    | zero =>
      intro k S' hk he hf
      have hO' := hO.x13 he
      rw [LX3_keepsLaw_21]
      unfold wX1_memberCount
      dsimp only
      rw [hO'.2.1, nI_leI (by omega) (by omega)]
      exact ifT (by omega) (h S' he (by rw [show (mems (bel a v)).length = k by omega]; exact hf))
    | succ r ih =>
      intro k S' hk he hf
      have hO' := hO.x13 he
      have hm := mb_spec (b := bel a v) (i := k) (by omega)
      have hpn := bel_np ok hv hm.2.1
      have hc3 := chA_lt a v t k
      have hii := hI _ hc3
      have hmod := Nat.mod_lt d (show 0 < iv (chA a v t k) by omega)
      rw [LX3_keepsLaw_21]
      unfold wX1_memberCount wX1_memberAt wX1_setShare
      dsimp only
      rw [hO'.2.1, nI_leI (by omega) (by omega), nI_clamp (by omega), hO'.2.2.2.1 k (by omega), he.1 15 (by omega), he.1 14 (by omega), hch k (by omega), nI_clamp (by omega), h14 _ hc3]
      refine ifF (by omega) ⟨vp_in_nI (by omega) (by omega), vp_in_nI (by omega) (by omega), by rw [nI_e0 (by omega)]; omega, ?_⟩
      rintro _ rfl
      rw [pk_rem (by omega) (by omega) (by omega), nI_1]
      refine ⟨vp_in_nI (by omega) (by omega), shareAfter_spec ok hO'.1 hpn (by omega) (by omega) ⟨vp_in_nI (by omega) (by omega), ?_⟩⟩
      rintro _ rfl
      refine ih (k + 1) _ (by omega) (he.put _ _) (fun j hj => ?_)
      by_cases e : j = k
      · subst e; rw [uI_at, shv_evA hI (by omega)]
      · rw [uI_nei e]; exact hf j (by omega)
  have := key (mems (bel a v)).length 0 S (by omega) (eqx.rf _ _) (fun j hj => by omega)
  exact ⟨_, this⟩
theorem lgN {x L : Nat} (hx : x < 2 ^ 63) (hL : L < 2 ^ 63) : 0 < lg_cmp (lN x) (lN L) ↔ L < x := by
  rw [lg_gt, pk_lT hx, pk_lT hL]
  omega
theorem keepsLaw_spec {S : MS} {a : AS} (ok : OKa a) {v t L : Nat} (hv : v < a.1 3) (h8 : evs a v ≤ 8) (hO : OD S a v) (hn : (mems (bel a v)).length ≤ 3) (hL : L ≤ 28147497671065600) {iv : Nat → Nat} (hI : IV iv) (h14 : ∀ j, j < 3 → S.1 14 j = nI (iv j)) (hch : ∀ i, i < (mems (bel a v)).length → S.1 15 i = nI (chA a v t i)) {Q : Int32 → MS → Prop}
    (h : ∀ S', KP S S' → Q (bI (decide (sA a v iv t 100 ≤ L))) S') : wX3_keepsLaw S (lN L) Q := by
  have key : ∀ (r k : Nat) (S' : MS), k + r = 100 → KP S S' → LX3_keepsLaw_5 (lN L) (fun S_1 y_2 => (((0 : Int32) < (lg_cmp y_2 (lN L)) → Q 0 S_1) ∧ (¬ (0 : Int32) < (lg_cmp y_2 (lN L)) → Q 1 S_1))) Q (r + 1) S' (lN (sA a v iv t k)) (nI k) := by
    intro r
    induction r with
    | zero =>
      intro k S' hk he
      have hs := sA_le ok h8 (iv := iv) (t := t) (Nat.le_refl 100)
      have hQ := h S' he
      rw [LX3_keepsLaw_5, show (100 : Int32) = nI 100 from rfl, nI_leI (by omega) (by omega), show k = 100 by omega, lgN (by omega) (by omega)]
      refine ifT (by omega) ⟨fun g => ?_, fun g => ?_⟩
      · rw [decide_eq_false (by omega)] at hQ; exact hQ
      · rw [decide_eq_true (by omega)] at hQ; exact hQ
    | succ r ih =>
      intro k S' hk he
      have hs := sA_le ok h8 (iv := iv) (t := t) (show k ≤ 100 by omega)
      rw [LX3_keepsLaw_5, show (100 : Int32) = nI 100 from rfl, nI_leI (by omega) (by omega), lgN (by omega) (by omega)]
      refine ifF (by omega) ⟨fun g => ifT g ?_, fun g => ?_⟩
      · have hQ := h S' he
        have := sA_mono (a := a) (v := v) (iv := iv) (t := t) (show k ≤ 100 by omega)
        rw [decide_eq_false (by omega)] at hQ
        exact hQ
      · refine keepsIn_spec ok hv (he.OD hO) hn (by omega) hI (by rw [he.1 14 (by omega)]; exact h14) (by rw [he.1 15 (by omega)]; exact hch) (fun S2 he2 hf => sumOD_spec ok hv h8 ((he.OD hO).x13 he2) (sh := fun p => shv a (evA a v iv t) fo0 p k) (fun i hi => ⟨hf i hi, shv_le (fo0_le _)⟩) (fun S3 he3 => ?_))
        have := ih (k + 1) S3 (by omega) (he.tr (he2.KP.tr he3.KP))
        unfold sA at this
        rw [fb_sm_succ, ← lN_add] at this
        rw [nI_1]
        exact this
  have := key 100 0 S (by omega) (KP.rf _)
  exact ⟨_, this⟩
