/-! PURE SIDE: shares and bypasses -/
def bI (b : Bool) : Int32 := if b = true then 1 else 0
theorem bI_t : bI true = 1 := rfl
theorem bI_f : bI false = 0 := rfl
theorem bI_nar (b : Bool) : narrow .boolean (.int (bI b)) = .int (bI b) := by cases b <;> rfl
theorem brB {b : Bool} {A B : Prop} (h1 : b = true → B) (h0 : b = false → A) : (bI b = 0 → A) ∧ (¬ bI b = 0 → B) := by
  cases b
  · exact br0 (h0 rfl)
  · exact br1 (h1 rfl)
theorem isBypassed_spec {M : MS} {a : AS} {ev : Nat → Nat} {fo : Nat → Int32} (ok : OKa a) (hm : aM M a ev fo) {p d : Nat} {Q : Int32 → MS → Prop} (hp : p < 12) (hd : d ≤ 999) (h : Q (bI (byp a p d)) M) : wX6_isBypassed M (nI p) (nI d) Q := by
  have hnb := ok.hnb
  unfold wX6_isBypassed
  generalize hK : (fun (S_1 : MS) (y_2 : Int32) => narrow .boolean (.int y_2) = .int y_2 ∧ Q y_2 S_1) = K
  have hfin : K M (bI (byp a p d)) := by rw [← hK]; exact ⟨bI_nar _, h⟩
  have key : ∀ (r k : Nat), k + r = a.1 1 → LX6_isBypassed_5 (nI p) (nI d) K Q (r + 1) M (bI (bypN a p d k)) (nI k) := by
    intro r
    induction r with
    | zero =>
      intro k hk
      rw [LX6_isBypassed_5, hm.hnb, nI_leI (by omega) (by omega)]
      exact ifT (by omega) (by rw [show k = a.1 1 by omega]; exact hfin)
    | succ r ih =>
      intro k hk
      have hb := ok.hbyp k (by omega)
      have hnp := ok.hnp
      have := ih (k + 1) (by omega)
      unfold bypN at this
      rw [LX6_isBypassed_5, hm.hnb, nI_leI (by omega) (by omega)]
      refine ifF (by omega) ?_
      unfold JX6_isBypassed_57 JX6_isBypassed_53 JX6_isBypassed_58
      rw [nI_1]
      refine brB (fun g => ?_) (fun g => ?_)
      · rw [g] at this; exact this
      · rw [g, Bool.false_or] at this
        refine ⟨vp_in_nI (by omega) (by omega), ?_⟩
        rw [nI_clamp (by omega), hm.hbp, nI_eq (by omega) (by omega)]
        refine ⟨fun e => ⟨vp_in_nI (by omega) (by omega), vp_in_nI (by omega) (by omega), ?_⟩, fun e => ?_⟩
        · rw [hm.hbx, hm.hby]
          refine in_spec (fun g1 g2 => br1 ?_) (fun g1 => br0 ?_)
          · rw [nI_64 (by omega), nI_64 (by omega)] at g1 g2
            rw [show (a.2 8 k == p && decide (a.2 9 k ≤ d ∧ d ≤ a.2 10 k)) = true by simp [e]; omega] at this
            exact this
          · rw [nI_64 (by omega), nI_64 (by omega), nI_64 (by omega)] at g1
            rw [show (a.2 8 k == p && decide (a.2 9 k ≤ d ∧ d ≤ a.2 10 k)) = false by simp [e]; omega] at this
            exact this
        · rw [show (a.2 8 k == p && decide (a.2 9 k ≤ d ∧ d ≤ a.2 10 k)) = false by simp [e]] at this
          exact this
  have := key (a.1 1) 0 (by omega)
  exact ⟨_, this⟩
def sinN (a : AS) (p u : Nat) : Nat → Nat
  | 0 => 0
  | k + 1 => if a.2 5 (12 * p + k) < u then a.2 5 (12 * p + k) else sinN a p u k
theorem sinN_lt (a : AS) (p u : Nat) (hu : 0 < u) : ∀ k, sinN a p u k < u
  | 0 => hu
  | k + 1 => by unfold sinN; split
                · assumption
                · exact sinN_lt a p u hu k
theorem sinN_cnt {a : AS} (ok : OKa a) {p u : Nat} (hp : p < 12) : ∀ k, k ≤ a.2 4 p → sinN a p u k = if cntN a p u k = 0 then 0 else a.2 5 (12 * p + (cntN a p u k - 1))
  | 0, _ => rfl
  | k + 1, h => by
    by_cases g : a.2 5 (12 * p + k) < u
    · rw [cntN_full ok hp (k + 1) h (fun _ => g), if_neg (by omega)]
      unfold sinN
      rw [if_pos g]
      rfl
    · unfold sinN cntN
      rw [if_neg g, if_neg g, Nat.add_zero]
      exact sinN_cnt ok hp k (by omega)
/-- a part's share on a day: with a forced share, with an interval of tests, or as it is -/
def shv (a : AS) (ev : Nat → Nat) (fo : Nat → Int32) (p d : Nat) : Nat :=
  if 0 ≤ (fo p).toInt then (fo p).toInt.toNat else if byp a p d = true then 64 else
    min 64 (a.2 0 p + a.2 1 p * (if 0 < ev p then d % ev p else d - sinN a p (d + 1) (a.2 4 p)))
theorem sh_lt {b c k : Nat} (h1 : b ≤ 64) (h2 : c ≤ 64) (h3 : k ≤ 999) : b + c * k < 2 ^ 31 := by
  have : c * k ≤ 64 * 999 := Nat.mul_le_mul h2 h3
  omega
theorem sh104 {M : MS} {a : AS} {ev : Nat → Nat} {fo : Nat → Int32} (ok : OKa a) (hm : aM M a ev fo) {p d s : Nat} {Q : Int32 → MS → Prop} (hp : p < a.1 0) (hd : d ≤ 999) (hs : s ≤ d) (h : Q (nI (min 64 (a.2 0 p + a.2 1 p * (d - s)))) M) : JX6_shareOf_104 M (nI p) (nI d) (nI s) Q := by
  have hnp := ok.hnp
  have hsh := ok.hsh p hp
  have hlt := sh_lt (k := d - s) hsh.1 hsh.2.1 (by omega)
  unfold JX6_shareOf_104
  refine ⟨vp_in_nI (by omega) (by omega), vp_in_nI (by omega) (by omega), ?_⟩
  rintro _ rfl
  rw [nI_clamp (by omega), hm.hb, hm.ha, pk_sub hs, pk_mul, nI_add, show (64 : Int32) = nI 64 from rfl, nI_leI hlt (by omega)]
  refine ⟨fun g => ?_, fun g => ?_⟩
  · rw [Nat.min_eq_right g] at h; exact h
  · rw [Nat.min_eq_left (by omega)] at h; exact h
theorem shareOf_spec {M : MS} {a : AS} {ev : Nat → Nat} {fo : Nat → Int32} (ok : OKa a) (hm : aM M a ev fo) {p d : Nat} {Q : Int32 → MS → Prop} (hp : p < a.1 0) (hd : d ≤ 999) (hev : ev p ≤ 100) (h : Q (nI (shv a ev fo p d)) M) : wX6_shareOf M (nI p) (nI d) Q := by
  have hnp := ok.hnp
  have tn := ok.htn p
  unfold wX6_shareOf
  refine ⟨vp_in_nI (by omega) (by omega), ?_⟩
  rw [nI_clamp (by omega), hm.hfo p (by omega), i32_lt]
  unfold shv at h
  refine ⟨fun g => ?_, fun g => ⟨vp_in_nI (by omega) (by omega), ?_⟩⟩
  · have g : (fo p).toInt < 0 := g
    rw [if_neg (by omega)] at h
    refine isBypassed_spec ok hm (by omega) hd (brB (fun e => ?_) (fun e => ?_))
    · rw [if_pos e] at h; exact h
    · rw [if_neg (by rw [e]; decide)] at h
      generalize hK : (fun (S_3 : MS) (y_4 : Int32) => vp_in (nI p) 12 ∧ ((S_3.1 6 p ≤ 0 → JX6_shareOf_104 S_3 (nI p) (nI d) y_4 Q) ∧ (¬ S_3.1 6 p ≤ 0 → vp_in (nI p) 12 ∧ ¬ S_3.1 6 p = 0 ∧ JX6_shareOf_104 S_3 (nI p) (nI d) (nI d - (nI d - nI d / S_3.1 6 p * S_3.1 6 p)) Q))) = K
      have hfin : K M (nI (sinN a p (d + 1) (a.2 4 p))) := by
        rw [← hK]
        refine ⟨vp_in_nI (by omega) (by omega), ?_⟩
        rw [hm.hev p (by omega), nI_le0 (by omega)]
        have hsl := sinN_lt a p (d + 1) (by omega) (a.2 4 p)
        refine ⟨fun e0 => ?_, fun e0 => ⟨vp_in_nI (by omega) (by omega), by rw [nI_e0 (by omega)]; exact e0, ?_⟩⟩
        · rw [if_neg (by omega)] at h
          exact sh104 ok hm hp hd (by omega) h
        · rw [if_pos (by omega)] at h
          rw [pk_rem (by omega) (by omega) (by omega), pk_sub (Nat.mod_le _ _)]
          refine sh104 ok hm hp hd (Nat.sub_le _ _) ?_
          have := Nat.mod_le d (ev p)
          rw [show d - (d - d % ev p) = d % ev p by omega]
          exact h
      have key : ∀ (r k : Nat), k + r = a.2 4 p → LX6_shareOf_36 (nI p) (nI d) K Q (r + 1) M (nI (sinN a p (d + 1) k)) (nI (12 * p + k)) := by
        intro r
        induction r with
        | zero =>
          intro k hk
          rw [LX6_shareOf_36]
          refine ⟨vp_in_nI (by omega) (by omega), ?_⟩
          rw [nI_clamp (by omega), hm.htn, ix21, nI_leI (by omega) (by omega)]
          exact ifT (by omega) (by rw [show k = a.2 4 p by omega]; exact hfin)
        | succ r ih =>
          intro k hk
          rw [LX6_shareOf_36]
          refine ⟨vp_in_nI (by omega) (by omega), ?_⟩
          rw [nI_clamp (by omega), hm.htn, ix21, nI_leI (by omega) (by omega)]
          refine ifF (by omega) ⟨vp_in_nI (by omega) (by omega), ?_⟩
          have hdd := ok.hday p k (by omega) (by omega)
          rw [nI_clamp (by omega), hm.hday, nI_ltI (by omega) (by omega)]
          have := ih (k + 1) (by omega)
          unfold sinN at this
          unfold JX6_shareOf_74
          rw [nI_1, show 12 * p + k + 1 = 12 * p + (k + 1) by omega]
          refine ⟨fun g1 => ?_, fun g1 => ⟨vp_in_nI (by omega) (by omega), ?_⟩⟩
          · rw [if_neg (by omega)] at this; exact this
          · rw [if_pos (by omega)] at this; exact this
      have := key (a.2 4 p) 0 (by omega)
      rw [show (12 : Int32) * nI p = nI (12 * p + 0) from pk_mul 12 p]
      exact ⟨_, this⟩
  · have g : ¬ (fo p).toInt < 0 := g
    rw [if_pos (by omega)] at h
    have hlt := Int32.toInt_lt (fo p)
    have e : nI (fo p).toInt.toNat = fo p := by rw [i32_eq, nI_toInt (by omega)]; omega
    rw [e] at h
    exact h
theorem sh6 {d : Nat} (h : d < 2 ^ 31) : nI d >>> ((6 : Int32) &&& 31) = nI (d / 64) := pk_shrN h _ 6 (by decide)
theorem and63 {d : Nat} (h : d < 2 ^ 31) : nI d &&& 63 = nI (d % 64) := pk_andN (by omega) 6 (by decide)
theorem bit_t {w : Int64} {k : Nat} (hk : k < 64) : lg_cmp (jlushr w (nI k) &&& 1) 0 = 0 ↔ bitL w k = false := by
  rw [lg_eq]
  unfold jlushr bitL
  rw [wb_cu k hk]
  exact ts_bit hk (u_tn (by omega))
theorem bitL_lN {n j : Nat} (hj : j < 64) : bitL (lN n) j = n.testBit j := by
  unfold bitL
  rw [lN_bv, BitVec.getLsbD_ofNat]
  simp [hj]
theorem bitL_or (x y : Int64) (j : Nat) : bitL (x ||| y) j = (bitL x j || bitL y j) := by simp [bitL]
theorem bitL_and (x y : Int64) (j : Nat) : bitL (x &&& y) j = (bitL x j && bitL y j) := by simp [bitL]
theorem shareAfter_spec {S : MS} {a : AS} (ok : OKa a) (hc : aC S a) {p d k : Nat} {Q : Int32 → MS → Prop} (hp : p < a.1 0) (hd : d ≤ 999) (hk : k ≤ 999) (h : Q (nI (if byp a p d = true then 64 else min 64 (a.2 0 p + a.2 1 p * k))) S) : wX2_shareAfter S (nI p) (nI d) (nI k) Q := by
  have hnp := ok.hnp
  have hsh := ok.hsh p hp
  have hlt := sh_lt (k := k) hsh.1 hsh.2.1 hk
  have hcs := hc.hsh p hp
  unfold wX2_shareAfter
  rw [sh6 (by omega), and63 (by omega), show nI p * 16 + nI (d / 64) = nI (16 * p + d / 64) from ixm p _ 16]
  refine ⟨vp_in_nI (by omega) (by omega), ?_⟩
  rw [nI_clamp (by omega), nI_clamp (by omega), bit_t (Nat.mod_lt _ (by omega)), hc.hbyp p d (by omega) (by omega)]
  refine ⟨fun g => ⟨vp_in_nI (by omega) (by omega), vp_in_nI (by omega) (by omega), ?_⟩, fun g => ?_⟩
  · rw [if_neg (by rw [g]; decide)] at h
    rw [hcs.1, hcs.2.1, pk_mul, nI_add, show (64 : Int32) = nI 64 from rfl]
    by_cases g2 : a.2 0 p + a.2 1 p * k < 64
    · rw [if_pos (nI_lt g2 (by omega))]
      rw [Nat.min_eq_right (by omega)] at h
      exact h
    · rw [if_neg (nI_nlt (by omega) hlt)]
      rw [Nat.min_eq_left (by omega)] at h
      exact h
  · rw [if_pos (by simpa using g)] at h
    exact h
theorem shareOn_spec {S : MS} {a : AS} (ok : OKa a) (hc : aC S a) {p d : Nat} {Q : Int32 → MS → Prop} (hp : p < a.1 0) (hd : d ≤ 999) (h : Q (nI (shv a ev0 fo0 p d)) S) : wX2_shareOn S (nI p) (nI d) Q := by
  have hnp := ok.hnp
  have tn := ok.htn p
  have hsl := sinN_lt a p (d + 1) (by omega) (a.2 4 p)
  have hsc := sinN_cnt ok (p := p) (u := d + 1) (by omega) (a.2 4 p) (Nat.le_refl _)
  have hcl := cntN_le a p (d + 1) (a.2 4 p)
  unfold shv at h
  rw [if_neg (show ¬ (0 : Int) ≤ (-1 : Int32).toInt by decide), if_neg (c := 0 < ev0 p) (Nat.lt_irrefl 0)] at h
  unfold wX2_shareOn
  refine testsUpTo_spec (u := d + 1) ok hc (by omega) (by rw [nI_toInt (by omega)]; omega) ?_
  rw [nI_e0 (by omega)]
  unfold JX2_shareOn_28
  refine ⟨fun g => ?_, fun g => ?_⟩
  · rw [if_pos g] at hsc
    rw [hsc] at h
    rw [show nI d - 0 = nI d from by rw [← nI_0, pk_sub (by omega)]; rfl]
    exact shareAfter_spec ok hc hp hd hd h
  · rw [if_neg g] at hsc
    rw [ix12, nI_s1 (by omega)]
    refine ⟨vp_in_nI (by omega) (by omega), ?_⟩
    rw [nI_clamp (by omega), hc.hday, show 12 * p + cntN a p (d + 1) (a.2 4 p) - 1 = 12 * p + (cntN a p (d + 1) (a.2 4 p) - 1) by omega, ← hsc, pk_sub (by omega)]
    exact shareAfter_spec ok hc hp hd (by omega) h
theorem op_share : OK_share Inv := by
  intro S M x1 x2 hI
  obtain ⟨a, ok, hc, hm⟩ := id hI
  have hnp := ok.hnp
  unfold wX5_share
  rcases (Classical.em (∃ p : Nat, p < a.1 0 ∧ x1 = nI p)).symm with h1 | ⟨p, hp, rfl⟩
  · exact has_f hc.hnp hnp h1 (br0 (by unfold wX6_share; exact rPart_f hm.hnp hnp h1 (br0 hI.bad)))
  refine has_t hc.hnp hnp hp (br1 ?_)
  rcases (Classical.em (∃ j : Nat, j ≤ 999 ∧ x2 = nI j)).symm with h2 | ⟨d, hd, rfl⟩
  · exact isDay_f h2 (br0 (by unfold wX6_share; exact rPart_t hm.hnp hnp hp (br1 (rDay_f h2 (br0 hI.bad)))))
  refine isDay_t hd (br1 (shareOn_spec ok hc hp hd ?_))
  unfold wX6_share
  exact rPart_t hm.hnp hnp hp (br1 (rDay_t hd (br1 (shareOf_spec ok hm hp hd (Nat.zero_le _) hI.bad))))
