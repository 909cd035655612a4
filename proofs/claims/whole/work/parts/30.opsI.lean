/-! PURE SIDE: masks; parts, groups and events below a vote -/
theorem shl1 {k : Nat} (hk : k < 31) : (1 : Int32) <<< (nI k &&& 31) = nI (2 ^ k) := by
  have h : 2 ^ k < 2 ^ 31 := Nat.pow_lt_pow_right (by omega) hk
  have := pk_shlN (n := 1) (nI k &&& 31) k (s_l k (by omega)) (by omega)
  rw [Nat.one_mul] at this
  exact this
theorem shrI {n k : Nat} (hn : n < 2 ^ 31) (hk : k < 32) : nI n >>> (nI k &&& 31) = nI (n / 2 ^ k) := pk_shrN hn _ k (s_l k hk)
theorem ushrI {n k : Nat} (hn : n < 2 ^ 32) (hk : k < 32) : jiushr (nI n) (nI k) = nI (n / 2 ^ k) := by
  unfold jiushr; exact pk_ushrN hn _ k (s_u k hk)
theorem and1I (n : Nat) : nI n &&& 1 = nI (n % 2) := fa_mask n 1
theorem tb_mod (n k : Nat) : n / 2 ^ k % 2 = if n.testBit k = true then 1 else 0 := by
  rw [Nat.testBit_eq_decide_div_mod_eq]
  by_cases h : n / 2 ^ k % 2 = 1
  · simp [h]
  · simp [h]; omega
theorem bitI {n k : Nat} (hn : n < 2 ^ 32) (hk : k < 32) : jiushr (nI n) (nI k) &&& 1 = nI (if n.testBit k = true then 1 else 0) := by
  rw [ushrI hn hk, and1I, tb_mod]
theorem bitS {n k : Nat} (hn : n < 2 ^ 31) (hk : k < 32) : nI n >>> (nI k &&& 31) &&& 1 = nI (if n.testBit k = true then 1 else 0) := by
  rw [shrI hn hk, and1I, tb_mod]
theorem hasBit_spec {S : MS} {n k : Nat} {Q : Int32 → MS → Prop} (hn : n < 2 ^ 32) (hk : k < 32) (h : Q (bI (n.testBit k)) S) : wX5_hasBit S (nI n) (nI k) Q := by
  unfold wX5_hasBit
  rw [bitI hn hk]
  cases hb : n.testBit k
  · rw [hb] at h; exact ifT rfl h
  · rw [hb] at h; exact ifF (by decide) h
theorem rbits_spec {S : MS} {n : Nat} {Q : Int32 → MS → Prop} (hn : n < 2 ^ 31) (h : Q (nI (fb_ct n.testBit 12)) S) : wX6_bits S (nI n) Q := by
  have key : ∀ (r k : Nat), k + r = 12 → LX6_bits_4 (nI n) (fun S_1 y_2 => Q y_2 S_1) Q (r + 1) S (nI (fb_ct n.testBit k)) (nI k) := by
    intro r
    induction r with
    | zero =>
      intro k hk
      have : k = 12 := by omega
      subst this
      rw [LX6_bits_4]
      exact ifT (by decide) h
    | succ r ih =>
      intro k hk
      rw [LX6_bits_4]
      refine ifF (by rw [show (12 : Int32) = nI 12 from rfl, nI_leI (by omega) (by omega)]; omega) ?_
      rintro _ rfl
      rw [bitS hn (by omega), nI_add, nI_1, ← fb_ct_succ]
      exact ih (k + 1) (by omega)
  have := key 12 0 (by omega)
  exact ⟨_, this⟩
def bc32 (x0 : Int32) : Int32 :=
  let v1 := x0 - ((jiushr x0 1) &&& 1431655765)
  let v2 := (v1 &&& 858993459) + ((jiushr v1 2) &&& 858993459)
  let v3 := (v2 + (jiushr v2 4)) &&& 252645135
  let v4 := (v3 + (jiushr v3 8)) + (jiushr (v3 + (jiushr v3 8)) 16)
  v4 &&& 63
theorem bc32_ok : ∀ a, a < 64 → ∀ b, b < 64 → bc32 (nI (64 * a + b)) = nI (fb_ct (64 * a + b).testBit 12) := by decide +kernel
theorem cbits_spec {S : MS} {n : Nat} {Q : Int32 → MS → Prop} (hn : n < 4096) (h : Q (nI (fb_ct n.testBit 12)) S) : wJ6_bitCount_0f7a4 S (nI n) Q := by
  unfold wJ6_bitCount_0f7a4
  have := bc32_ok (n / 64) (by omega) (n % 64) (by omega)
  rw [show 64 * (n / 64) + n % 64 = n by omega] at this
  rintro _ rfl _ rfl _ rfl _ rfl
  rw [← this] at h
  exact h
theorem mems_len (b : Nat) : (mems b).length = fb_ct b.testBit 12 := by
  have key : ∀ n, ((List.range n).filter (fun p => b.testBit p)).length = fb_ct b.testBit n := by
    intro n
    induction n with
    | zero => rfl
    | succ n ih =>
      rw [List.range_succ, List.filter_append, List.length_append, ih, fb_ct_succ]
      cases hb : b.testBit n <;> simp [hb]
  exact key 12
/-- tables and their ends -/
theorem belT_eq (a : AS) {i : Nat} : ∀ {m : Nat}, i < m → belT a m i = bel a i
  | 0, h => absurd h (Nat.not_lt_zero _)
  | m + 1, h => by
    by_cases e : i = m
    · subst e; rfl
    · unfold belT; rw [if_neg e]; exact belT_eq a (by omega)
theorem inB_fcong {a : AS} (f g : Nat → Nat) (v : Nat) : ∀ j, (∀ i, i < j → 12 ≤ a.2 15 (4 * v + i) → f (a.2 15 (4 * v + i) - 12) = g (a.2 15 (4 * v + i) - 12)) → inB a f v j = inB a g v j
  | 0, _ => rfl
  | j + 1, h => by
    unfold inB
    rw [inB_fcong f g v j (fun i hi => h i (by omega))]
    by_cases e : a.2 15 (4 * v + j) < 12
    · rw [if_pos e, if_pos e]
    · rw [if_neg e, if_neg e, h j (by omega) (by omega)]
theorem bel_eq {a : AS} (ok : OKa a) {v : Nat} (hv : v < a.1 3) : bel a v = inB a (bel a) v (a.2 14 v) := by
  have e : bel a v = inB a (belT a v) v (a.2 14 v) := by unfold bel belT; rw [if_pos rfl]
  rw [e]
  refine inB_fcong _ _ _ _ (fun i hi g => belT_eq a ?_)
  have := ok.hinp v i hv hi
  have := ok.hnp
  omega
theorem inB_lt {a : AS} (ok : OKa a) {v : Nat} (hv : v < a.1 3) (f : Nat → Nat) (hf : ∀ w, w < v → f w < 2 ^ a.1 0) : ∀ j, j ≤ a.2 14 v → inB a f v j < 2 ^ a.1 0
  | 0, _ => Nat.two_pow_pos _
  | j + 1, h => by
    unfold inB
    refine Nat.or_lt_two_pow (inB_lt ok hv f hf j (by omega)) ?_
    have hi := ok.hinp v j hv (by omega)
    have := ok.hnp
    split
    · exact Nat.pow_lt_pow_right (by omega) (by omega)
    · exact hf _ (by omega)
theorem bel_lt {a : AS} (ok : OKa a) : ∀ (v : Nat), v < a.1 3 → bel a v < 2 ^ a.1 0 := by
  intro v
  induction v using Nat.strongRecOn with
  | ind v ih =>
    intro hv
    rw [bel_eq ok hv]
    exact inB_lt ok hv _ (fun w hw => ih w hw (by omega)) _ (Nat.le_refl _)
theorem bel_4096 {a : AS} (ok : OKa a) {v : Nat} (hv : v < a.1 3) : bel a v < 4096 := by
  have := bel_lt ok v hv
  have h2 : 2 ^ a.1 0 ≤ 2 ^ 12 := Nat.pow_le_pow_right (by omega) ok.hnp
  omega
/-- all but one row is the same -/
def eqx (k : Nat) (M M' : MS) : Prop := (∀ r, r ≠ k → M'.1 r = M.1 r) ∧ M'.2 = M.2
theorem eqx.rf (k : Nat) (M : MS) : eqx k M M := ⟨fun _ _ => rfl, rfl⟩
theorem eqx.tr {k : Nat} {M M' M'' : MS} (h : eqx k M M') (h' : eqx k M' M'') : eqx k M M'' := ⟨fun r hr => (h'.1 r hr).trans (h.1 r hr), h'.2.trans h.2⟩
theorem eqx.put {k : Nat} {M M' : MS} (h : eqx k M M') (n : Nat) (v : Int32) : eqx k M (uI M' k n v) := ⟨fun r hr => by rw [uI_ne hr]; exact h.1 r hr, h.2⟩
theorem aM.same {M M' : MS} {a : AS} {ev : Nat → Nat} {fo : Nat → Int32} (h : aM M a ev fo) (h1 : ∀ r, r ≤ 15 → M'.1 r = M.1 r) (h2 : ∀ k, k < 4 → M'.2.2 k = M.2.2 k) : aM M' a ev fo :=
  h.keep (fun k hk => by rw [h2 k hk]; exact h.sc k hk) (fun r i g1 g2 g3 => by rw [h1 r (by omega)]; exact h.row r i g1 g2 g3) (h1 6 (by omega)) (h1 7 (by omega)) (fun v j g1 g2 => by rw [h1 15 (by omega)]; exact h.hvi v j g1 g2)
theorem aM.eqx {M M' : MS} {a : AS} {ev : Nat → Nat} {fo : Nat → Int32} (h : aM M a ev fo) {k : Nat} (hk : 16 ≤ k) (he : eqx k M M') : aM M' a ev fo := h.same (fun r hr => he.1 r (by omega)) (fun _ _ => by rw [he.2])
theorem ix4 (p k : Nat) : 4 * nI p + nI k = nI (4 * p + k) := ixn p k 4
theorem nI12 {n : Nat} (h : 12 ≤ n) : nI n - 12 = nI (n - 12) := pk_sub (a := n) (b := 12) h
theorem le12 {n : Nat} (h : n < 2 ^ 31) : (12 : Int32) ≤ nI n ↔ 12 ≤ n := by rw [show (12 : Int32) = nI 12 from rfl, nI_leI (by omega) h]
/-- the reference's parts below a vote -/
theorem partsOf_in {M : MS} {a : AS} {ev : Nat → Nat} {fo : Nat → Int32} (ok : OKa a) (hm : aM M a ev fo) {x1 : Int32} {m : Nat} (hv : m < a.1 3) {K : MS → Prop} {Q : Int32 → MS → Prop}
    (h : ∀ M', eqx 16 M M' → (∀ i, i < m → M'.1 16 i = nI (bel a i)) → M'.1 16 m = nI (bel a m) → K M') :
    ∀ (r j : Nat) (M' : MS), j + r = a.2 14 m → eqx 16 M M' → (∀ i, i < m → M'.1 16 i = nI (bel a i)) → M'.1 16 m = nI (inB a (bel a) m j) → LX6_partsOf_18 x1 (nI m) K Q (r + 1) M' (nI (4 * m + j)) := by
  have hnv := ok.hnv
  have hvo := ok.hvot m hv
  intro r
  induction r with
  | zero =>
    intro j M' hj he hb hm'
    rw [LX6_partsOf_18]
    refine ⟨vp_in_nI (by omega) (by omega), ?_⟩
    rw [nI_clamp (by omega), he.1 14 (by omega), hm.hvn, ix4, nI_leI (by omega) (by omega)]
    refine ifT (by omega) (h M' he hb ?_)
    rw [hm', show j = a.2 14 m by omega, ← bel_eq ok hv]
  | succ r ih =>
    intro j M' hj he hb hm'
    have hin := ok.hinp m j hv (by omega)
    have hnp := ok.hnp
    rw [LX6_partsOf_18]
    refine ⟨vp_in_nI (by omega) (by omega), ?_⟩
    rw [nI_clamp (by omega), he.1 14 (by omega), hm.hvn, ix4, nI_leI (by omega) (by omega)]
    refine ifF (by omega) ⟨vp_in_nI (by omega) (by omega), vp_in_nI (by omega) (by omega), ?_⟩
    rw [nI_clamp (by omega), he.1 15 (by omega), hm.hvi m j hv (by omega), le12 (by omega)]
    unfold JX6_partsOf_75
    rw [nI_1, show 4 * m + j + 1 = 4 * m + (j + 1) by omega, nI_clamp (by omega)]
    refine ⟨fun g => ⟨vp_in_nI (by omega) (by omega), ?_⟩, fun g => ⟨vp_in_nI (by omega) (by omega), ?_⟩⟩
    · rw [nI12 g]
      refine ⟨vp_in_nI (by omega) (by omega), vp_in_nI (by omega) (by omega), ?_⟩
      rintro _ rfl
      rw [nI_clamp (by omega), hb (a.2 15 (4 * m + j) - 12) (by omega), hm', fa_or]
      refine ih (j + 1) _ (by omega) (he.put _ _) (fun i hi => by rw [uI_nei (by omega)]; exact hb i hi) ?_
      rw [uI_at]
      rw [show inB a (bel a) m (j + 1) = inB a (bel a) m j ||| (if a.2 15 (4 * m + j) < 12 then 2 ^ (a.2 15 (4 * m + j)) else bel a (a.2 15 (4 * m + j) - 12)) from rfl, if_neg (by omega)]
    · refine ⟨vp_in_nI (by omega) (by omega), ?_⟩
      rintro _ rfl
      rw [shl1 (by omega), hm', fa_or]
      refine ih (j + 1) _ (by omega) (he.put _ _) (fun i hi => by rw [uI_nei (by omega)]; exact hb i hi) ?_
      rw [uI_at]
      rw [show inB a (bel a) m (j + 1) = inB a (bel a) m j ||| (if a.2 15 (4 * m + j) < 12 then 2 ^ (a.2 15 (4 * m + j)) else bel a (a.2 15 (4 * m + j) - 12)) from rfl, if_pos (by omega)]
theorem partsOf_spec {M : MS} {a : AS} {ev : Nat → Nat} {fo : Nat → Int32} (ok : OKa a) (hm : aM M a ev fo) {v : Nat} (hv : v < a.1 3) {Q : Int32 → MS → Prop} (h : ∀ M', eqx 16 M M' → Q (nI (bel a v)) M') : wX6_partsOf M (nI v) Q := by
  have hnv := ok.hnv
  unfold wX6_partsOf
  generalize hK : (fun S_1 : MS => vp_in (nI v) 12 ∧ Q (S_1.1 16 (nI v).toNatClampNeg) S_1) = K
  have hfin : ∀ M', eqx 16 M M' → M'.1 16 v = nI (bel a v) → K M' := by
    intro M' he hb
    rw [← hK]
    refine ⟨vp_in_nI (by omega) (by omega), ?_⟩
    rw [nI_clamp (by omega), hb]
    exact h M' he
  have key : ∀ (r m : Nat) (M' : MS), m + r = v + 1 → eqx 16 M M' → (∀ i, i < m → M'.1 16 i = nI (bel a i)) → LX6_partsOf_2 (nI v) K Q (r + 1) M' (nI m) := by
    intro r
    induction r with
    | zero =>
      intro m M' hm' he hb
      rw [LX6_partsOf_2, nI_ltI (by omega) (by omega)]
      exact ifT (by omega) (hfin M' he (hb v (by omega)))
    | succ r ih =>
      intro m M' hm' he hb
      rw [LX6_partsOf_2, nI_ltI (by omega) (by omega)]
      refine ifF (by omega) ⟨vp_in_nI (by omega) (by omega), ?_⟩
      rintro _ rfl
      rw [nI_clamp (by omega), nI_1]
      have := partsOf_in ok hm (x1 := nI v) (m := m) (by omega) (K := fun S_2 => LX6_partsOf_2 (nI v) K Q (r + 1) S_2 (nI (m + 1))) (Q := Q) (fun M'' he' hb' hm'' => ih (m + 1) M'' (by omega) he' (fun i hi => by
        by_cases e : i = m
        · rw [e]; exact hm''
        · exact hb' i (by omega))) (a.2 14 m) 0 (uI M' 16 m 0) (by omega) (he.put _ _) (fun i hi => by rw [uI_nei (by omega)]; exact hb i hi) (by rw [uI_at]; rfl)
      rw [show (4 : Int32) * nI m = nI (4 * m + 0) from pk_mul 4 m]
      exact ⟨_, this⟩
  have := key (v + 1) 0 M (by omega) (eqx.rf _ _) (fun i hi => by omega)
  exact ⟨_, this⟩
/-- groups that strike a mask -/
def str (a : AS) (b g : Nat) : Bool := (a.2 12 g &&& b) != 0
def grN (a : AS) (b : Nat) : Nat → Nat
  | 0 => 0
  | g + 1 => grN a b g ||| (if str a b g = true then 2 ^ g else 0)
theorem grN_lt (a : AS) (b : Nat) : ∀ k, grN a b k < 2 ^ k
  | 0 => Nat.one_pos
  | k + 1 => by
    unfold grN
    have := grN_lt a b k
    refine Nat.or_lt_two_pow (Nat.lt_trans this (Nat.pow_lt_pow_right (by omega) (by omega))) ?_
    split
    · exact Nat.pow_lt_pow_right (by omega) (by omega)
    · exact Nat.two_pow_pos _
theorem grN_bit (a : AS) (b i : Nat) : ∀ k, (grN a b k).testBit i = (decide (i < k) && str a b i)
  | 0 => by simp [grN]
  | k + 1 => by
    unfold grN
    rw [Nat.testBit_or, grN_bit a b i k]
    by_cases e : i = k
    · subst e
      cases hs : str a b i <;> simp
    · cases hs : str a b k
      · simp; rw [show (decide (i < k) = decide (i < k + 1)) from by rw [decide_eq_decide]; omega]
      · simp; rw [Nat.testBit_two_pow_of_ne (by omega)]; simp; rw [show (decide (i < k) = decide (i < k + 1)) from by rw [decide_eq_decide]; omega]
def grp (a : AS) (b : Nat) : Nat := grN a b (a.1 2)
theorem grp_lt {a : AS} (ok : OKa a) (b : Nat) : grp a b < 16 := by
  have h := grN_lt a b (a.1 2)
  have h2 : 2 ^ a.1 2 ≤ 2 ^ 4 := Nat.pow_le_pow_right (by omega) ok.hng
  exact Nat.lt_of_lt_of_le h h2
theorem grp_ct {a : AS} (ok : OKa a) (b : Nat) : fb_ct (grp a b).testBit 12 = fb_ct (str a b) (a.1 2) := by
  have hng := ok.hng
  have h1 : fb_ct (grp a b).testBit 12 = fb_ct (fun i => decide (i < a.1 2) && str a b i) 12 := fb_ct_cong (fun k _ => grN_bit a b k _)
  have h2 := ct_tail (f := fun i => decide (i < a.1 2) && str a b i) (n := a.1 2) (12 - a.1 2) (fun i g1 g2 => by simp; omega)
  rw [show a.1 2 + (12 - a.1 2) = 12 by omega] at h2
  rw [h1, h2]
  exact fb_ct_cong (fun k hk => by simp [hk])
theorem str_iff {a : AS} {b g : Nat} (h1 : a.2 12 g < 2 ^ 31) : nI (a.2 12 g) &&& nI b = 0 ↔ str a b g = false := by
  rw [fa_and, nI_e0 (Nat.lt_of_le_of_lt Nat.and_le_left h1)]
  unfold str
  simp
theorem gp_lt {a : AS} (ok : OKa a) {g : Nat} (hg : g < a.1 2) : a.2 12 g < 4096 := by
  have := (ok.hgrp g hg).2
  have h2 : 2 ^ a.1 0 ≤ 2 ^ 12 := Nat.pow_le_pow_right (by omega) ok.hnp
  omega
theorem rgroupsOf_spec {M : MS} {a : AS} {ev : Nat → Nat} {fo : Nat → Int32} (ok : OKa a) (hm : aM M a ev fo) {b : Nat} {Q : Int32 → MS → Prop} (h : Q (nI (grp a b)) M) : wX6_groupsOf M (nI b) Q := by
  have hng := ok.hng
  have key : ∀ (r k : Nat), k + r = a.1 2 → LX6_groupsOf_4 (nI b) (fun S_1 y_2 => Q y_2 S_1) Q (r + 1) M (nI (grN a b k)) (nI k) := by
    intro r
    induction r with
    | zero =>
      intro k hk
      rw [LX6_groupsOf_4, hm.hng, nI_leI (by omega) (by omega)]
      exact ifT (by omega) (by rw [show k = a.1 2 by omega]; exact h)
    | succ r ih =>
      intro k hk
      rw [LX6_groupsOf_4, hm.hng, nI_leI (by omega) (by omega)]
      refine ifF (by omega) ⟨vp_in_nI (by omega) (by omega), ?_⟩
      have hlt := gp_lt ok (g := k) (by omega)
      rw [nI_clamp (by omega), hm.hgp, str_iff (by omega)]
      unfold JX6_groupsOf_31
      have := ih (k + 1) (by omega)
      unfold grN at this
      rw [nI_1]
      refine ⟨fun g => ?_, fun g => ?_⟩
      · rw [g, if_neg (by decide)] at this
        rw [show nI (grN a b k) ||| 0 = nI (grN a b k ||| 0) from fa_or _ 0]
        exact this
      · rw [if_pos (by simpa using g)] at this
        rw [shl1 (by omega), fa_or]
        exact this
  have := key (a.1 2) 0 (by omega)
  exact ⟨_, this⟩
theorem striking_spec {S : MS} {a : AS} (ok : OKa a) (hc : aC S a) {b : Nat} {Q : Int32 → MS → Prop} (h : Q (nI (grp a b)) S) : wX0_striking S (nI b) Q := by
  have hng := ok.hng
  have key : ∀ (r k : Nat), k + r = a.1 2 → LX0_striking_4 (nI b) (fun S_1 y_2 => Q y_2 S_1) Q (r + 1) S (nI (grN a b k)) (nI k) := by
    intro r
    induction r with
    | zero =>
      intro k hk
      rw [LX0_striking_4, hc.hng, nI_leI (by omega) (by omega)]
      exact ifT (by omega) (by rw [show k = a.1 2 by omega]; exact h)
    | succ r ih =>
      intro k hk
      rw [LX0_striking_4, hc.hng, nI_leI (by omega) (by omega)]
      refine ifF (by omega) ⟨vp_in_nI (by omega) (by omega), ?_⟩
      have hlt := gp_lt ok (g := k) (by omega)
      rw [nI_clamp (by omega), hc.hgp, str_iff (by omega)]
      unfold JX0_striking_29
      have := ih (k + 1) (by omega)
      unfold grN at this
      rw [nI_1]
      refine ⟨fun g => ?_, fun g => ?_⟩
      · rw [g, if_neg (by decide)] at this
        rw [Nat.or_zero] at this
        exact this
      · rw [if_pos (by simpa using g)] at this
        rintro _ rfl
        rw [shl1 (by omega), fa_or]
        exact this
  have := key (a.1 2) 0 (by omega)
  exact ⟨_, this⟩
theorem partsBelow_spec {S : MS} {a : AS} (ok : OKa a) (hc : aC S a) {v : Nat} (hv : v < a.1 3) {Q : Int32 → MS → Prop} (h : Q (nI (bel a v)) S) : wX4_partsBelow S (nI v) Q := by
  have := ok.hnv
  unfold wX4_partsBelow
  refine ⟨vp_in_nI (by omega) (by omega), ?_⟩
  rw [nI_clamp (by omega), hc.hbel v hv]
  exact h
theorem groupsOf_spec {S : MS} {a : AS} (ok : OKa a) (hc : aC S a) {v : Nat} (hv : v < a.1 3) {Q : Int32 → MS → Prop} (h : Q (nI (grp a (bel a v))) S) : wX1_groupsOf S (nI v) Q :=
  partsBelow_spec ok hc hv (striking_spec ok hc h)
theorem sizeBelow_spec {S : MS} {a : AS} (ok : OKa a) (hc : aC S a) {v : Nat} (hv : v < a.1 3) {Q : Int32 → MS → Prop} (h : Q (nI (mems (bel a v)).length) S) : wX4_sizeBelow S (nI v) Q := by
  have := ok.hnv
  unfold wX4_sizeBelow
  refine ⟨vp_in_nI (by omega) (by omega), ?_⟩
  rw [nI_clamp (by omega), hc.hbel v hv]
  rw [mems_len] at h
  exact cbits_spec (bel_4096 ok hv) h
/-- how many events a vote has -/
def evs (a : AS) (v : Nat) : Nat := (mems (bel a v)).length + fb_ct (str a (bel a v)) (a.1 2)
theorem evs_le {a : AS} (ok : OKa a) (v : Nat) : evs a v ≤ 16 := by
  unfold evs
  have h1 := fb_ct_le (str a (bel a v)) (a.1 2)
  have h2 := fb_ct_le (bel a v).testBit 12
  rw [← mems_len] at h2
  have := ok.hng
  omega
theorem eventsOf_spec {S : MS} {a : AS} (ok : OKa a) (hc : aC S a) {v : Nat} (hv : v < a.1 3) {Q : Int32 → MS → Prop} (h : Q (nI (evs a v)) S) : wX1_eventsOf S (nI v) Q := by
  unfold wX1_eventsOf
  refine sizeBelow_spec ok hc hv (groupsOf_spec ok hc hv (cbits_spec (by have := grp_lt ok (bel a v); omega) ?_))
  rw [nI_add, grp_ct ok]
  exact h
theorem reventsOf_spec {M : MS} {a : AS} {ev : Nat → Nat} {fo : Nat → Int32} (ok : OKa a) (hm : aM M a ev fo) {v : Nat} (hv : v < a.1 3) {Q : Int32 → MS → Prop} (h : ∀ M', eqx 16 M M' → Q (nI (evs a v)) M') : wX6_eventsOf M (nI v) Q := by
  unfold wX6_eventsOf
  refine partsOf_spec ok hm hv (fun M' he => rbits_spec (by have := bel_4096 ok hv; omega) (rgroupsOf_spec ok (hm.eqx (by omega) he) (rbits_spec (by have := grp_lt ok (bel a v); omega) ?_)))
  rw [nI_add, grp_ct ok, ← mems_len]
  exact h M' he
theorem Inv.scr {S M M' : MS} {a : AS} (ok : OKa a) (hc : aC S a) (hm : aM M a ev0 fo0) {k : Nat} (hk : 16 ≤ k) (he : eqx k M M') {r : Int32} : r = r ∧ Inv S M' := ⟨rfl, a, ok, hc, hm.eqx hk he⟩
theorem op_below : OK_below Inv := by
  intro S M x1 x2 hI
  obtain ⟨a, ok, hc, hm⟩ := id hI
  have hnv := ok.hnv
  unfold wX5_below
  rcases (Classical.em (∃ p : Nat, p < a.1 3 ∧ x1 = nI p)).symm with h1 | ⟨v, hv, rfl⟩
  · exact vhas_f hc.hnv hnv h1 (br0 (by unfold wX6_below; exact rVote_f hm.hnv hnv h1 (br0 hI.bad)))
  refine vhas_t hc.hnv hnv hv (br1 ⟨?_, ?_, ?_, ?_⟩)
  · rintro rfl
    refine partsBelow_spec ok hc hv ?_
    unfold wX6_below
    exact rVote_t hm.hnv hnv hv (br1 (inB_t (j := 0) (N := 2) (by decide) (by omega) (by omega) (br1 (partsOf_spec ok hm hv (fun M' he => ifT rfl (Inv.scr ok hc hm (by omega) he))))))
  · rintro rfl
    refine groupsOf_spec ok hc hv ?_
    unfold wX6_below
    exact rVote_t hm.hnv hnv hv (br1 (inB_t (j := 1) (N := 2) (by decide) (by omega) (by omega) (br1 (partsOf_spec ok hm hv (fun M' he => ifF (by decide) (ifT rfl (rgroupsOf_spec ok (hm.eqx (by omega) he) (Inv.scr ok hc hm (by omega) he))))))))
  · rintro rfl
    refine eventsOf_spec ok hc hv ?_
    unfold wX6_below
    exact rVote_t hm.hnv hnv hv (br1 (inB_t (j := 2) (N := 2) (by decide) (by omega) (by omega) (br1 (partsOf_spec ok hm hv (fun M' he => ifF (by decide) (ifF (by decide) (reventsOf_spec ok (hm.eqx (by omega) he) hv (fun M'' he' => Inv.scr ok hc hm (by omega) (he.tr he')))))))))
  · intro h0 h1 h2
    unfold wX6_below
    refine rVote_t hm.hnv hnv hv (br1 (inB_f (N := 2) (by decide) ?_ (br0 hI.bad)))
    rintro ⟨j, hj, rfl⟩
    rcases (show j = 0 ∨ j = 1 ∨ j = 2 by omega) with rfl | rfl | rfl
    · exact h0 rfl
    · exact h1 rfl
    · exact h2 rfl
theorem op_shared : OK_shared Inv := by
  intro S M x1 x2 hI
  obtain ⟨a, ok, hc, hm⟩ := id hI
  have hnv := ok.hnv
  unfold wX5_shared
  rcases (Classical.em (∃ p : Nat, p < a.1 3 ∧ x1 = nI p)).symm with h1 | ⟨v, hv, rfl⟩
  · exact vhas_f hc.hnv hnv h1 (br0 (by unfold wX6_shared; exact rVote_f hm.hnv hnv h1 (br0 hI.bad)))
  refine vhas_t hc.hnv hnv hv (br1 ?_)
  rcases (Classical.em (∃ p : Nat, p < a.1 3 ∧ x2 = nI p)).symm with h1 | ⟨w, hw, rfl⟩
  · exact vhas_f hc.hnv hnv h1 (br0 (by unfold wX6_shared; exact rVote_t hm.hnv hnv hv (br1 (rVote_f hm.hnv hnv h1 (br0 hI.bad)))))
  refine vhas_t hc.hnv hnv hw (br1 (groupsOf_spec ok hc hv (groupsOf_spec ok hc hw (partsBelow_spec ok hc hv (partsBelow_spec ok hc hw ?_)))))
  unfold wX6_shared
  refine rVote_t hm.hnv hnv hv (br1 (rVote_t hm.hnv hnv hw (br1 (partsOf_spec ok hm hv (fun M' he => partsOf_spec ok (hm.eqx (by omega) he) hw (fun M'' he' => ?_))))))
  have he2 := he.tr he'
  exact rgroupsOf_spec ok (hm.eqx (by omega) he2) (rgroupsOf_spec ok (hm.eqx (by omega) he2) (Inv.scr ok hc hm (by omega) he2))
