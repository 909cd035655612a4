def wX6_in (S : MS) (x0 : Int64) (x2 : Int64) (x4 : Int64) (Q : Int32 → MS → Prop) : Prop :=
  (((lg_cmp x0 x2) < 0 →
    Q 0 S) ∧
  (¬ (lg_cmp x0 x2) < 0 →
    (((0 : Int32) < (lg_cmp x0 x4) →
      Q 0 S) ∧
    (¬ (0 : Int32) < (lg_cmp x0 x4) →
      Q 1 S))))
def wX6_isPart (S : MS) (x1 : Int32) (Q : Int32 → MS → Prop) : Prop :=
  wX6_in S x1.toInt64 0 (((S.2.2 0) - 1).toInt64) fun r_2 S_1 =>
  narrow .boolean (.int r_2) = .int r_2 ∧ Q r_2 S_1
def wX6_isVote (S : MS) (x1 : Int32) (Q : Int32 → MS → Prop) : Prop :=
  wX6_in S x1.toInt64 0 (((S.2.2 3) - 1).toInt64) fun r_2 S_1 =>
  narrow .boolean (.int r_2) = .int r_2 ∧ Q r_2 S_1
def wX6_isDay (S : MS) (x0 : Int32) (Q : Int32 → MS → Prop) : Prop :=
  wX6_in S x0.toInt64 0 999 fun r_2 S_1 =>
  narrow .boolean (.int r_2) = .int r_2 ∧ Q r_2 S_1
def wX6_part (S : MS) (x1 : Int32) (x2 : Int32) (x3 : Int32) (Q : Int32 → MS → Prop) : Prop :=
  wX6_in S x1.toInt64 0 64 fun r_2 S_1 =>
  ((r_2 = 0 →
    Q (-1) S_1) ∧
  (¬ r_2 = 0 →
    wX6_in S_1 x2.toInt64 0 64 fun r_4 S_3 =>
    ((r_4 = 0 →
      Q (-1) S_3) ∧
    (¬ r_4 = 0 →
      wX6_in S_3 x3.toInt64 0 64 fun r_6 S_5 =>
      ((r_6 = 0 →
        Q (-1) S_5) ∧
      (¬ r_6 = 0 →
        (((S_5.2.2 0) = 12 →
          Q (-3) S_5) ∧
        (¬ (S_5.2.2 0) = 12 →
          vp_in (S_5.2.2 0) 12 ∧
          ∀ S_7 : MS, S_7 = uI S_5 0 (S_5.2.2 0).toNatClampNeg x1 →
          vp_in (S_7.2.2 0) 12 ∧
          ∀ S_8 : MS, S_8 = uI S_7 1 (S_7.2.2 0).toNatClampNeg x2 →
          vp_in (S_8.2.2 0) 12 ∧
          ∀ S_9 : MS, S_9 = uI S_8 2 (S_8.2.2 0).toNatClampNeg x3 →
          ∀ S_10 : MS, S_10 = uF S_9 0 ((S_9.2.2 0) + 1) →
          Q ((S_10.2.2 0) - 1) S_10))))))))
def JX6_test_51 (S : MS) (x1 : Int32) (x2 : Int32) (Q : Int32 → MS → Prop) : Prop :=
  vp_in x1 12 ∧
  (((S.1 4 x1.toNatClampNeg) = 12 →
    Q (-3) S) ∧
  (¬ (S.1 4 x1.toNatClampNeg) = 12 →
    vp_in x1 12 ∧
    vp_in ((12 * x1) + (S.1 4 x1.toNatClampNeg)) 144 ∧
    ∀ S_1 : MS, S_1 = uI S 5 ((12 * x1) + (S.1 4 x1.toNatClampNeg)).toNatClampNeg x2 →
    vp_in x1 12 ∧
    vp_in x1 12 ∧
    ∀ S_2 : MS, S_2 = uI S_1 4 x1.toNatClampNeg ((S_1.1 4 x1.toNatClampNeg) + 1) →
    vp_in x1 12 ∧
    Q (S_2.1 4 x1.toNatClampNeg) S_2))
def wX6_test (S : MS) (x1 : Int32) (x2 : Int32) (Q : Int32 → MS → Prop) : Prop :=
  wX6_isPart S x1 fun r_2 S_1 =>
  ((r_2 = 0 →
    Q (-1) S_1) ∧
  (¬ r_2 = 0 →
    wX6_isDay S_1 x2 fun r_4 S_3 =>
    ((r_4 = 0 →
      Q (-1) S_3) ∧
    (¬ r_4 = 0 →
      vp_in x1 12 ∧
      (((S_3.1 4 x1.toNatClampNeg) ≤ 0 →
        JX6_test_51 S_3 x1 x2 Q) ∧
      (¬ (S_3.1 4 x1.toNatClampNeg) ≤ 0 →
        vp_in x1 12 ∧
        vp_in (((12 * x1) + (S_3.1 4 x1.toNatClampNeg)) - 1) 144 ∧
        (((S_3.1 5 (((12 * x1) + (S_3.1 4 x1.toNatClampNeg)) - 1).toNatClampNeg) < x2 →
          JX6_test_51 S_3 x1 x2 Q) ∧
        (¬ (S_3.1 5 (((12 * x1) + (S_3.1 4 x1.toNatClampNeg)) - 1).toNatClampNeg) < x2 →
          Q (-2) S_3))))))))
def LX6_noTests_24 (x1 : Int32) (x2 : Int32) (x3 : Int32) (K : MS → Prop) (Q : Int32 → MS → Prop) : Nat → MS → Prop
  | 0, _ => False
  | n + 1, S =>
    vp_in x1 12 ∧
    (((S.1 4 x1.toNatClampNeg) ≤ 0 →
      K S ) ∧
    (¬ (S.1 4 x1.toNatClampNeg) ≤ 0 →
      vp_in x1 12 ∧
      vp_in (((12 * x1) + (S.1 4 x1.toNatClampNeg)) - 1) 144 ∧
      (((S.1 5 (((12 * x1) + (S.1 4 x1.toNatClampNeg)) - 1).toNatClampNeg) < x2 →
        K S ) ∧
      (¬ (S.1 5 (((12 * x1) + (S.1 4 x1.toNatClampNeg)) - 1).toNatClampNeg) < x2 →
        vp_in x1 12 ∧
        vp_in x1 12 ∧
        ∀ S_1 : MS, S_1 = uI S 4 x1.toNatClampNeg ((S.1 4 x1.toNatClampNeg) - 1) →
        LX6_noTests_24 x1 x2 x3 K Q n S_1 ))))
def wX6_noTests (S : MS) (x1 : Int32) (x2 : Int32) (Q : Int32 → MS → Prop) : Prop :=
  wX6_isPart S x1 fun r_2 S_1 =>
  ((r_2 = 0 →
    Q (-1) S_1) ∧
  (¬ r_2 = 0 →
    wX6_isDay S_1 x2 fun r_4 S_3 =>
    ((r_4 = 0 →
      Q (-1) S_3) ∧
    (¬ r_4 = 0 →
      vp_in x1 12 ∧
      ∃ n0 : Nat, LX6_noTests_24 x1 x2 (S_3.1 4 x1.toNatClampNeg) (fun S_5 =>
        vp_in x1 12 ∧
        Q ((S_3.1 4 x1.toNatClampNeg) - (S_5.1 4 x1.toNatClampNeg)) S_5) Q n0 S_3))))
def wX6_areDays (S : MS) (x0 : Int32) (x1 : Int32) (Q : Int32 → MS → Prop) : Prop :=
  wX6_isDay S x0 fun r_2 S_1 =>
  ((r_2 = 0 →
    Q 0 S_1) ∧
  (¬ r_2 = 0 →
    wX6_isDay S_1 x1 fun r_4 S_3 =>
    ((r_4 = 0 →
      Q 0 S_3) ∧
    (¬ r_4 = 0 →
      ((x1 < x0 →
        Q 0 S_3) ∧
      (¬ x1 < x0 →
        Q 1 S_3))))))
def wX6_bypass (S : MS) (x1 : Int32) (x2 : Int32) (x3 : Int32) (Q : Int32 → MS → Prop) : Prop :=
  wX6_isPart S x1 fun r_2 S_1 =>
  ((r_2 = 0 →
    Q (-1) S_1) ∧
  (¬ r_2 = 0 →
    wX6_areDays S_1 x2 x3 fun r_4 S_3 =>
    ((r_4 = 0 →
      Q (-1) S_3) ∧
    (¬ r_4 = 0 →
      (((S_3.2.2 1) = 20 →
        Q (-3) S_3) ∧
      (¬ (S_3.2.2 1) = 20 →
        vp_in (S_3.2.2 1) 20 ∧
        ∀ S_5 : MS, S_5 = uI S_3 8 (S_3.2.2 1).toNatClampNeg x1 →
        vp_in (S_5.2.2 1) 20 ∧
        ∀ S_6 : MS, S_6 = uI S_5 9 (S_5.2.2 1).toNatClampNeg x2 →
        vp_in (S_6.2.2 1) 20 ∧
        ∀ S_7 : MS, S_7 = uI S_6 10 (S_6.2.2 1).toNatClampNeg x3 →
        ∀ S_8 : MS, S_8 = uF S_7 1 ((S_7.2.2 1) + 1) →
        Q (S_8.2.2 1) S_8))))))
def JX6_isBypassed_58 (S : MS) (x1 : Int32) (x2 : Int32) (x4 : Int32) (t0 : Int32) (Hd : MS → Int32 → Int32 → Prop) (K : MS → Int32 → Prop) (Q : Int32 → MS → Prop) : Prop :=
  Hd S t0 (x4 + 1)
def JX6_isBypassed_53 (S : MS) (x1 : Int32) (x2 : Int32) (x4 : Int32) (Hd : MS → Int32 → Int32 → Prop) (K : MS → Int32 → Prop) (Q : Int32 → MS → Prop) : Prop :=
  JX6_isBypassed_58 S x1 x2 x4 1 Hd K Q
def JX6_isBypassed_57 (S : MS) (x1 : Int32) (x2 : Int32) (x4 : Int32) (Hd : MS → Int32 → Int32 → Prop) (K : MS → Int32 → Prop) (Q : Int32 → MS → Prop) : Prop :=
  JX6_isBypassed_58 S x1 x2 x4 0 Hd K Q
def LX6_isBypassed_5 (x1 : Int32) (x2 : Int32) (K : MS → Int32 → Prop) (Q : Int32 → MS → Prop) : Nat → MS → Int32 → Int32 → Prop
  | 0, _, _, _ => False
  | n + 1, S, x3, x4 =>
    (((S.2.2 1) ≤ x4 →
      K S x3) ∧
    (¬ (S.2.2 1) ≤ x4 →
      ((x3 = 0 →
        vp_in x4 20 ∧
        (((S.1 8 x4.toNatClampNeg) = x1 →
          vp_in x4 20 ∧
          vp_in x4 20 ∧
          wX6_in S x2.toInt64 ((S.1 9 x4.toNatClampNeg).toInt64) ((S.1 10 x4.toNatClampNeg).toInt64) fun r_2 S_1 =>
          ((r_2 = 0 →
            JX6_isBypassed_57 S_1 x1 x2 x4 (fun S a3 a4 => LX6_isBypassed_5 x1 x2 K Q n S a3 a4) K Q) ∧
          (¬ r_2 = 0 →
            JX6_isBypassed_53 S_1 x1 x2 x4 (fun S a3 a4 => LX6_isBypassed_5 x1 x2 K Q n S a3 a4) K Q))) ∧
        (¬ (S.1 8 x4.toNatClampNeg) = x1 →
          JX6_isBypassed_57 S x1 x2 x4 (fun S a3 a4 => LX6_isBypassed_5 x1 x2 K Q n S a3 a4) K Q))) ∧
      (¬ x3 = 0 →
        JX6_isBypassed_53 S x1 x2 x4 (fun S a3 a4 => LX6_isBypassed_5 x1 x2 K Q n S a3 a4) K Q))))
def wX6_isBypassed (S : MS) (x1 : Int32) (x2 : Int32) (Q : Int32 → MS → Prop) : Prop :=
  ∃ n0 : Nat, LX6_isBypassed_5 x1 x2 (fun S_1 y_2 =>
    narrow .boolean (.int y_2) = .int y_2 ∧ Q y_2 S_1) Q n0 S 0 0
def JX6_bypassed_47 (S : MS) (x1 : Int32) (x3 : Int32) (x5 : Int32) (t0 : Int32) (t1 : Int32) (Hd : MS → Int32 → Int32 → Prop) (K : MS → Int32 → Prop) (Q : Int32 → MS → Prop) : Prop :=
  Hd S (t0 + t1) (x5 + 1)
def LX6_bypassed_24 (x1 : Int32) (x3 : Int32) (K : MS → Int32 → Prop) (Q : Int32 → MS → Prop) : Nat → MS → Int32 → Int32 → Prop
  | 0, _, _, _ => False
  | n + 1, S, x4, x5 =>
    ((x3 < x5 →
      K S x4) ∧
    (¬ x3 < x5 →
      wX6_isBypassed S x1 x5 fun r_2 S_1 =>
      ((r_2 = 0 →
        JX6_bypassed_47 S_1 x1 x3 x5 x4 0 (fun S a4 a5 => LX6_bypassed_24 x1 x3 K Q n S a4 a5) K Q) ∧
      (¬ r_2 = 0 →
        JX6_bypassed_47 S_1 x1 x3 x5 x4 1 (fun S a4 a5 => LX6_bypassed_24 x1 x3 K Q n S a4 a5) K Q))))
def wX6_bypassed (S : MS) (x1 : Int32) (x2 : Int32) (x3 : Int32) (Q : Int32 → MS → Prop) : Prop :=
  wX6_isPart S x1 fun r_2 S_1 =>
  ((r_2 = 0 →
    Q (-1) S_1) ∧
  (¬ r_2 = 0 →
    wX6_areDays S_1 x2 x3 fun r_4 S_3 =>
    ((r_4 = 0 →
      Q (-1) S_3) ∧
    (¬ r_4 = 0 →
      ∃ n0 : Nat, LX6_bypassed_24 x1 x3 (fun S_5 y_6 =>
        Q y_6 S_5) Q n0 S_3 0 x2))))
def LX6_bits_4 (x0 : Int32) (K : MS → Int32 → Prop) (Q : Int32 → MS → Prop) : Nat → MS → Int32 → Int32 → Prop
  | 0, _, _, _ => False
  | n + 1, S, x1, x2 =>
    (((12 : Int32) ≤ x2 →
      K S x1) ∧
    (¬ (12 : Int32) ≤ x2 →
      ∀ v_1 : Int32, v_1 = (x1 + ((x0 >>> (x2 &&& 31)) &&& 1)) →
      LX6_bits_4 x0 K Q n S v_1 (x2 + 1)))
def wX6_bits (S : MS) (x0 : Int32) (Q : Int32 → MS → Prop) : Prop :=
  ∃ n0 : Nat, LX6_bits_4 x0 (fun S_1 y_2 =>
    Q y_2 S_1) Q n0 S 0 0
def wX6_group (S : MS) (x1 : Int32) (x2 : Int32) (Q : Int32 → MS → Prop) : Prop :=
  wX6_in S x1.toInt64 0 64 fun r_2 S_1 =>
  ((r_2 = 0 →
    Q (-1) S_1) ∧
  (¬ r_2 = 0 →
    wX6_in S_1 x2.toInt64 0 ((((1 : Int32) <<< ((S_1.2.2 0) &&& 31)) - 1).toInt64) fun r_4 S_3 =>
    ((r_4 = 0 →
      Q (-1) S_3) ∧
    (¬ r_4 = 0 →
      wX6_bits S_3 x2 fun r_6 S_5 =>
      (((2 : Int32) ≤ r_6 →
        (((S_5.2.2 2) = 4 →
          Q (-3) S_5) ∧
        (¬ (S_5.2.2 2) = 4 →
          vp_in (S_5.2.2 2) 4 ∧
          ∀ S_7 : MS, S_7 = uI S_5 11 (S_5.2.2 2).toNatClampNeg x1 →
          vp_in (S_7.2.2 2) 4 ∧
          ∀ S_8 : MS, S_8 = uI S_7 12 (S_7.2.2 2).toNatClampNeg x2 →
          ∀ S_9 : MS, S_9 = uF S_8 2 ((S_8.2.2 2) + 1) →
          Q ((S_9.2.2 2) - 1) S_9))) ∧
      (¬ (2 : Int32) ≤ r_6 →
        Q (-1) S_5))))))
def JX6_isInput_27 (S : MS) (Q : Int32 → MS → Prop) : Prop :=
  Q 1 S
def wX6_isInput (S : MS) (x1 : Int32) (Q : Int32 → MS → Prop) : Prop :=
  wX6_isPart S x1 fun r_2 S_1 =>
  ((r_2 = 0 →
    wX6_in S_1 x1.toInt64 12 ((11 + (S_1.2.2 3)).toInt64) fun r_4 S_3 =>
    ((r_4 = 0 →
      Q 0 S_3) ∧
    (¬ r_4 = 0 →
      JX6_isInput_27 S_3 Q))) ∧
  (¬ r_2 = 0 →
    JX6_isInput_27 S_1 Q))
def JX6_vote_78 (S : MS) (x1 : Int32) (x2 : Int32) (x3 : Int32) (x4 : Int32) (x5 : Int32) (x6 : Int32) (t0 : Int32) (Q : Int32 → MS → Prop) : Prop :=
  ((t0 = 0 →
    Q (-1) S) ∧
  (¬ t0 = 0 →
    (((S.2.2 3) = 12 →
      Q (-3) S) ∧
    (¬ (S.2.2 3) = 12 →
      vp_in (S.2.2 3) 12 ∧
      ∀ S_1 : MS, S_1 = uI S 13 (S.2.2 3).toNatClampNeg x1 →
      vp_in (S_1.2.2 3) 12 ∧
      ∀ S_2 : MS, S_2 = uI S_1 14 (S_1.2.2 3).toNatClampNeg x2 →
      vp_in (4 * (S_2.2.2 3)) 48 ∧
      ∀ S_3 : MS, S_3 = uI S_2 15 (4 * (S_2.2.2 3)).toNatClampNeg x3 →
      vp_in ((4 * (S_3.2.2 3)) + 1) 48 ∧
      ∀ S_4 : MS, S_4 = uI S_3 15 ((4 * (S_3.2.2 3)) + 1).toNatClampNeg x4 →
      vp_in ((4 * (S_4.2.2 3)) + 2) 48 ∧
      ∀ S_5 : MS, S_5 = uI S_4 15 ((4 * (S_4.2.2 3)) + 2).toNatClampNeg x5 →
      vp_in ((4 * (S_5.2.2 3)) + 3) 48 ∧
      ∀ S_6 : MS, S_6 = uI S_5 15 ((4 * (S_5.2.2 3)) + 3).toNatClampNeg x6 →
      ∀ S_7 : MS, S_7 = uF S_6 3 ((S_6.2.2 3) + 1) →
      Q ((S_7.2.2 3) - 1) S_7))))
def JX6_vote_77 (S : MS) (x1 : Int32) (x2 : Int32) (x3 : Int32) (x4 : Int32) (x5 : Int32) (x6 : Int32) (Q : Int32 → MS → Prop) : Prop :=
  JX6_vote_78 S x1 x2 x3 x4 x5 x6 0 Q
def JX6_vote_73 (S : MS) (x1 : Int32) (x2 : Int32) (x3 : Int32) (x4 : Int32) (x5 : Int32) (x6 : Int32) (Q : Int32 → MS → Prop) : Prop :=
  JX6_vote_78 S x1 x2 x3 x4 x5 x6 1 Q
def JX6_vote_59 (S : MS) (x1 : Int32) (x2 : Int32) (x3 : Int32) (x4 : Int32) (x5 : Int32) (x6 : Int32) (Q : Int32 → MS → Prop) : Prop :=
  ((x2 < 4 →
    JX6_vote_73 S x1 x2 x3 x4 x5 x6 Q) ∧
  (¬ x2 < 4 →
    wX6_isInput S x6 fun r_2 S_1 =>
    ((r_2 = 0 →
      JX6_vote_77 S_1 x1 x2 x3 x4 x5 x6 Q) ∧
    (¬ r_2 = 0 →
      JX6_vote_73 S_1 x1 x2 x3 x4 x5 x6 Q))))
def JX6_vote_45 (S : MS) (x1 : Int32) (x2 : Int32) (x3 : Int32) (x4 : Int32) (x5 : Int32) (x6 : Int32) (Q : Int32 → MS → Prop) : Prop :=
  ((x2 < 3 →
    JX6_vote_59 S x1 x2 x3 x4 x5 x6 Q) ∧
  (¬ x2 < 3 →
    wX6_isInput S x5 fun r_2 S_1 =>
    ((r_2 = 0 →
      JX6_vote_77 S_1 x1 x2 x3 x4 x5 x6 Q) ∧
    (¬ r_2 = 0 →
      JX6_vote_59 S_1 x1 x2 x3 x4 x5 x6 Q))))
def wX6_vote (S : MS) (x1 : Int32) (x2 : Int32) (x3 : Int32) (x4 : Int32) (x5 : Int32) (x6 : Int32) (Q : Int32 → MS → Prop) : Prop :=
  wX6_in S x2.toInt64 1 4 fun r_2 S_1 =>
  ((r_2 = 0 →
    JX6_vote_77 S_1 x1 x2 x3 x4 x5 x6 Q) ∧
  (¬ r_2 = 0 →
    wX6_in S_1 x1.toInt64 1 x2.toInt64 fun r_4 S_3 =>
    ((r_4 = 0 →
      JX6_vote_77 S_3 x1 x2 x3 x4 x5 x6 Q) ∧
    (¬ r_4 = 0 →
      wX6_isInput S_3 x3 fun r_6 S_5 =>
      ((r_6 = 0 →
        JX6_vote_77 S_5 x1 x2 x3 x4 x5 x6 Q) ∧
      (¬ r_6 = 0 →
        ((x2 < 2 →
          JX6_vote_45 S_5 x1 x2 x3 x4 x5 x6 Q) ∧
        (¬ x2 < 2 →
          wX6_isInput S_5 x4 fun r_8 S_7 =>
          ((r_8 = 0 →
            JX6_vote_77 S_7 x1 x2 x3 x4 x5 x6 Q) ∧
          (¬ r_8 = 0 →
            JX6_vote_45 S_7 x1 x2 x3 x4 x5 x6 Q))))))))))
def JX6_shareOf_74 (S : MS) (x1 : Int32) (x2 : Int32) (x4 : Int32) (t0 : Int32) (Hd : MS → Int32 → Int32 → Prop) (K : MS → Int32 → Prop) (Q : Int32 → MS → Prop) : Prop :=
  Hd S t0 (x4 + 1)
def LX6_shareOf_36 (x1 : Int32) (x2 : Int32) (K : MS → Int32 → Prop) (Q : Int32 → MS → Prop) : Nat → MS → Int32 → Int32 → Prop
  | 0, _, _, _ => False
  | n + 1, S, x3, x4 =>
    vp_in x1 12 ∧
    ((((12 * x1) + (S.1 4 x1.toNatClampNeg)) ≤ x4 →
      K S x3) ∧
    (¬ ((12 * x1) + (S.1 4 x1.toNatClampNeg)) ≤ x4 →
      vp_in x4 144 ∧
      ((x2 < (S.1 5 x4.toNatClampNeg) →
        JX6_shareOf_74 S x1 x2 x4 x3 (fun S a3 a4 => LX6_shareOf_36 x1 x2 K Q n S a3 a4) K Q) ∧
      (¬ x2 < (S.1 5 x4.toNatClampNeg) →
        vp_in x4 144 ∧
        JX6_shareOf_74 S x1 x2 x4 (S.1 5 x4.toNatClampNeg) (fun S a3 a4 => LX6_shareOf_36 x1 x2 K Q n S a3 a4) K Q))))
def JX6_shareOf_104 (S : MS) (x1 : Int32) (x2 : Int32) (t0 : Int32) (Q : Int32 → MS → Prop) : Prop :=
  vp_in x1 12 ∧
  vp_in x1 12 ∧
  ∀ v_1 : Int32, v_1 = ((S.1 0 x1.toNatClampNeg) + ((S.1 1 x1.toNatClampNeg) * (x2 - t0))) →
  ((v_1 ≤ 64 →
    Q v_1 S) ∧
  (¬ v_1 ≤ 64 →
    Q 64 S))
def wX6_shareOf (S : MS) (x1 : Int32) (x2 : Int32) (Q : Int32 → MS → Prop) : Prop :=
  vp_in x1 12 ∧
  (((S.1 7 x1.toNatClampNeg) < 0 →
    wX6_isBypassed S x1 x2 fun r_2 S_1 =>
    ((r_2 = 0 →
      ∃ n0 : Nat, LX6_shareOf_36 x1 x2 (fun S_3 y_4 =>
        vp_in x1 12 ∧
        (((S_3.1 6 x1.toNatClampNeg) ≤ 0 →
          JX6_shareOf_104 S_3 x1 x2 y_4 Q) ∧
        (¬ (S_3.1 6 x1.toNatClampNeg) ≤ 0 →
          vp_in x1 12 ∧
          ¬ (S_3.1 6 x1.toNatClampNeg) = 0 ∧
          JX6_shareOf_104 S_3 x1 x2 (x2 - (x2 - x2 / (S_3.1 6 x1.toNatClampNeg) * (S_3.1 6 x1.toNatClampNeg))) Q))) Q n0 S_1 0 (12 * x1)) ∧
    (¬ r_2 = 0 →
      Q 64 S_1))) ∧
  (¬ (S.1 7 x1.toNatClampNeg) < 0 →
    vp_in x1 12 ∧
    Q (S.1 7 x1.toNatClampNeg) S))
def wX6_share (S : MS) (x1 : Int32) (x2 : Int32) (Q : Int32 → MS → Prop) : Prop :=
  wX6_isPart S x1 fun r_2 S_1 =>
  ((r_2 = 0 →
    Q (-1) S_1) ∧
  (¬ r_2 = 0 →
    wX6_isDay S_1 x2 fun r_4 S_3 =>
    ((r_4 = 0 →
      Q (-1) S_3) ∧
    (¬ r_4 = 0 →
      wX6_shareOf S_3 x1 x2 fun r_6 S_5 =>
      Q r_6 S_5))))
def JX6_partsOf_75 (S : MS) (x1 : Int32) (x2 : Int32) (x3 : Int32) (t0 : Int32) (t1 : Int32) (t2 : Int32) (Hd : MS → Int32 → Prop) (K : MS → Prop) (Q : Int32 → MS → Prop) : Prop :=
  vp_in t0 12 ∧
  ∀ S_1 : MS, S_1 = uI S 16 t0.toNatClampNeg (t1 ||| t2) →
  Hd S_1 (x3 + 1)
def LX6_partsOf_18 (x1 : Int32) (x2 : Int32) (K : MS → Prop) (Q : Int32 → MS → Prop) : Nat → MS → Int32 → Prop
  | 0, _, _ => False
  | n + 1, S, x3 =>
    vp_in x2 12 ∧
    ((((4 * x2) + (S.1 14 x2.toNatClampNeg)) ≤ x3 →
      K S ) ∧
    (¬ ((4 * x2) + (S.1 14 x2.toNatClampNeg)) ≤ x3 →
      vp_in x2 12 ∧
      vp_in x3 48 ∧
      (((12 : Int32) ≤ (S.1 15 x3.toNatClampNeg) →
        vp_in x3 48 ∧
        vp_in ((S.1 15 x3.toNatClampNeg) - 12) 12 ∧
        JX6_partsOf_75 S x1 x2 x3 x2 (S.1 16 x2.toNatClampNeg) (S.1 16 ((S.1 15 x3.toNatClampNeg) - 12).toNatClampNeg) (fun S a3 => LX6_partsOf_18 x1 x2 K Q n S a3) K Q) ∧
      (¬ (12 : Int32) ≤ (S.1 15 x3.toNatClampNeg) →
        vp_in x3 48 ∧
        JX6_partsOf_75 S x1 x2 x3 x2 (S.1 16 x2.toNatClampNeg) ((1 : Int32) <<< ((S.1 15 x3.toNatClampNeg) &&& 31)) (fun S a3 => LX6_partsOf_18 x1 x2 K Q n S a3) K Q))))
def LX6_partsOf_2 (x1 : Int32) (K : MS → Prop) (Q : Int32 → MS → Prop) : Nat → MS → Int32 → Prop
  | 0, _, _ => False
  | n + 1, S, x2 =>
    ((x1 < x2 →
      K S ) ∧
    (¬ x1 < x2 →
      vp_in x2 12 ∧
      ∀ S_1 : MS, S_1 = uI S 16 x2.toNatClampNeg 0 →
      ∃ n0 : Nat, LX6_partsOf_18 x1 x2 (fun S_2 =>
        LX6_partsOf_2 x1 K Q n S_2 (x2 + 1)) Q n0 S_1 (4 * x2)))
def wX6_partsOf (S : MS) (x1 : Int32) (Q : Int32 → MS → Prop) : Prop :=
  ∃ n0 : Nat, LX6_partsOf_2 x1 (fun S_1 =>
    vp_in x1 12 ∧
    Q (S_1.1 16 x1.toNatClampNeg) S_1) Q n0 S 0
def JX6_groupsOf_31 (S : MS) (x1 : Int32) (x3 : Int32) (t0 : Int32) (t1 : Int32) (Hd : MS → Int32 → Int32 → Prop) (K : MS → Int32 → Prop) (Q : Int32 → MS → Prop) : Prop :=
  Hd S (t0 ||| t1) (x3 + 1)
def LX6_groupsOf_4 (x1 : Int32) (K : MS → Int32 → Prop) (Q : Int32 → MS → Prop) : Nat → MS → Int32 → Int32 → Prop
  | 0, _, _, _ => False
  | n + 1, S, x2, x3 =>
    (((S.2.2 2) ≤ x3 →
      K S x2) ∧
    (¬ (S.2.2 2) ≤ x3 →
      vp_in x3 4 ∧
      ((((S.1 12 x3.toNatClampNeg) &&& x1) = 0 →
        JX6_groupsOf_31 S x1 x3 x2 0 (fun S a2 a3 => LX6_groupsOf_4 x1 K Q n S a2 a3) K Q) ∧
      (¬ ((S.1 12 x3.toNatClampNeg) &&& x1) = 0 →
        JX6_groupsOf_31 S x1 x3 x2 ((1 : Int32) <<< (x3 &&& 31)) (fun S a2 a3 => LX6_groupsOf_4 x1 K Q n S a2 a3) K Q))))
def wX6_groupsOf (S : MS) (x1 : Int32) (Q : Int32 → MS → Prop) : Prop :=
  ∃ n0 : Nat, LX6_groupsOf_4 x1 (fun S_1 y_2 =>
    Q y_2 S_1) Q n0 S 0 0
def wX6_eventsOf (S : MS) (x1 : Int32) (Q : Int32 → MS → Prop) : Prop :=
  wX6_partsOf S x1 fun r_2 S_1 =>
  wX6_bits S_1 r_2 fun r_4 S_3 =>
  wX6_groupsOf S_3 r_2 fun r_6 S_5 =>
  wX6_bits S_5 r_6 fun r_8 S_7 =>
  Q (r_4 + r_8) S_7
def wX6_below (S : MS) (x1 : Int32) (x2 : Int32) (Q : Int32 → MS → Prop) : Prop :=
  wX6_isVote S x1 fun r_2 S_1 =>
  ((r_2 = 0 →
    Q (-1) S_1) ∧
  (¬ r_2 = 0 →
    wX6_in S_1 x2.toInt64 0 2 fun r_4 S_3 =>
    ((r_4 = 0 →
      Q (-1) S_3) ∧
    (¬ r_4 = 0 →
      wX6_partsOf S_3 x1 fun r_6 S_5 =>
      ((x2 = 0 →
        Q r_6 S_5) ∧
      (¬ x2 = 0 →
        ((x2 = 1 →
          wX6_groupsOf S_5 r_6 fun r_10 S_9 =>
          Q r_10 S_9) ∧
        (¬ x2 = 1 →
          wX6_eventsOf S_5 x1 fun r_8 S_7 =>
          Q r_8 S_7))))))))
def wX6_shared (S : MS) (x1 : Int32) (x2 : Int32) (Q : Int32 → MS → Prop) : Prop :=
  wX6_isVote S x1 fun r_2 S_1 =>
  ((r_2 = 0 →
    Q (-1) S_1) ∧
  (¬ r_2 = 0 →
    wX6_isVote S_1 x2 fun r_4 S_3 =>
    ((r_4 = 0 →
      Q (-1) S_3) ∧
    (¬ r_4 = 0 →
      wX6_partsOf S_3 x1 fun r_6 S_5 =>
      wX6_partsOf S_5 x2 fun r_8 S_7 =>
      wX6_groupsOf S_7 r_6 fun r_10 S_9 =>
      wX6_groupsOf S_9 r_8 fun r_12 S_11 =>
      Q ((r_6 &&& r_8) ||| ((r_10 &&& r_12) <<< ((12 : Int32) &&& 31))) S_11))))
def JX6_does_94 (S : MS) (x1 : Int32) (x2 : Int32) (x3 : Int32) (x5 : Int32) (t0 : Int32) (t1 : Int32) (Hd : MS → Int32 → Int32 → Prop) (K : MS → Int32 → Prop) (Q : Int32 → MS → Prop) : Prop :=
  Hd S (t0 + t1) (x5 + 1)
def JX6_does_80 (S : MS) (x1 : Int32) (x2 : Int32) (x3 : Int32) (x4 : Int32) (x5 : Int32) (t0 : Int32) (Hd : MS → Int32 → Int32 → Prop) (K : MS → Int32 → Prop) (Q : Int32 → MS → Prop) : Prop :=
  ((t0 = 0 →
    JX6_does_94 S x1 x2 x3 x5 x4 0 Hd K Q) ∧
  (¬ t0 = 0 →
    JX6_does_94 S x1 x2 x3 x5 x4 1 Hd K Q))
def LX6_does_15 (x1 : Int32) (x2 : Int32) (x3 : Int32) (K : MS → Int32 → Prop) (Q : Int32 → MS → Prop) : Nat → MS → Int32 → Int32 → Prop
  | 0, _, _, _ => False
  | n + 1, S, x4, x5 =>
    vp_in x3 12 ∧
    ((((4 * x3) + (S.1 14 x3.toNatClampNeg)) ≤ x5 →
      K S x4) ∧
    (¬ ((4 * x3) + (S.1 14 x3.toNatClampNeg)) ≤ x5 →
      vp_in x5 48 ∧
      (((12 : Int32) ≤ (S.1 15 x5.toNatClampNeg) →
        vp_in x5 48 ∧
        vp_in ((S.1 15 x5.toNatClampNeg) - 12) 12 ∧
        JX6_does_80 S x1 x2 x3 x4 x5 (S.1 20 ((S.1 15 x5.toNatClampNeg) - 12).toNatClampNeg) (fun S a4 a5 => LX6_does_15 x1 x2 x3 K Q n S a4 a5) K Q) ∧
      (¬ (12 : Int32) ≤ (S.1 15 x5.toNatClampNeg) →
        vp_in x5 48 ∧
        ((((x2 >>> ((S.1 15 x5.toNatClampNeg) &&& 31)) &&& 1) = 1 →
          JX6_does_80 S x1 x2 x3 x4 x5 1 (fun S a4 a5 => LX6_does_15 x1 x2 x3 K Q n S a4 a5) K Q) ∧
        (¬ ((x2 >>> ((S.1 15 x5.toNatClampNeg) &&& 31)) &&& 1) = 1 →
          JX6_does_80 S x1 x2 x3 x4 x5 0 (fun S a4 a5 => LX6_does_15 x1 x2 x3 K Q n S a4 a5) K Q))))))
def JX6_does_124 (S : MS) (x1 : Int32) (x2 : Int32) (x3 : Int32) (t0 : Int32) (t1 : Int32) (Hd : MS → Int32 → Prop) (K : MS → Prop) (Q : Int32 → MS → Prop) : Prop :=
  vp_in t0 12 ∧
  ∀ S_1 : MS, S_1 = uI S 20 t0.toNatClampNeg (vp_nar .boolean t1) →
  Hd S_1 (x3 + 1)
def LX6_does_2 (x1 : Int32) (x2 : Int32) (K : MS → Prop) (Q : Int32 → MS → Prop) : Nat → MS → Int32 → Prop
  | 0, _, _ => False
  | n + 1, S, x3 =>
    ((x1 < x3 →
      K S ) ∧
    (¬ x1 < x3 →
      ∃ n0 : Nat, LX6_does_15 x1 x2 x3 (fun S_1 y_2 =>
        vp_in x3 12 ∧
        ((y_2 < (S_1.1 13 x3.toNatClampNeg) →
          JX6_does_124 S_1 x1 x2 x3 x3 0 (fun S a3 => LX6_does_2 x1 x2 K Q n S a3) K Q) ∧
        (¬ y_2 < (S_1.1 13 x3.toNatClampNeg) →
          JX6_does_124 S_1 x1 x2 x3 x3 1 (fun S a3 => LX6_does_2 x1 x2 K Q n S a3) K Q))) Q n0 S 0 (4 * x3)))
def wX6_does (S : MS) (x1 : Int32) (x2 : Int32) (Q : Int32 → MS → Prop) : Prop :=
  ∃ n0 : Nat, LX6_does_2 x1 x2 (fun S_1 =>
    vp_in x1 12 ∧
    narrow .boolean (.int (S_1.1 20 x1.toNatClampNeg)) = .int (S_1.1 20 x1.toNatClampNeg) ∧ Q (S_1.1 20 x1.toNatClampNeg) S_1) Q n0 S 0
def wX6_adds (S : MS) (x1 : Int32) (x2 : Int32) (Q : MS → Prop) : Prop :=
  vp_in (S.2.2 4) 24 ∧
  ∀ S_1 : MS, S_1 = uI S 17 (S.2.2 4).toNatClampNeg x1 →
  vp_in (S_1.2.2 4) 24 ∧
  ∀ S_2 : MS, S_2 = uI S_1 18 (S_1.2.2 4).toNatClampNeg x2 →
  ∀ S_3 : MS, S_3 = uF S_2 4 ((S_2.2.2 4) + 1) →
  Q S_3
def JX6_sums_102 (S : MS) (x1 : Int32) (x2 : Int32) (x3 : Int64) (x5 : Int32) (x6 : Int32) (x9 : Int32) (t0 : Int64) (t1 : Int64) (Hd : MS → Int32 → Int64 → Int32 → Prop) (K : MS → Int32 → Int64 → Prop) (Q : Int64 → MS → Prop) : Prop :=
  Hd S x6 (t0 * t1) (x9 + 1)
def JX6_sums_70 (S : MS) (x1 : Int32) (x2 : Int32) (x3 : Int64) (x5 : Int32) (x7 : Int64) (x9 : Int32) (x10 : Int32) (t0 : Int32) (t1 : Int32) (Hd : MS → Int32 → Int64 → Int32 → Prop) (K : MS → Int32 → Int64 → Prop) (Q : Int64 → MS → Prop) : Prop :=
  ((x10 = 0 →
    vp_in x9 24 ∧
    JX6_sums_102 S x1 x2 x3 x5 (t0 ||| t1) x9 x7 ((64 - (S.1 17 x9.toNatClampNeg)).toInt64) Hd K Q) ∧
  (¬ x10 = 0 →
    vp_in x9 24 ∧
    JX6_sums_102 S x1 x2 x3 x5 (t0 ||| t1) x9 x7 ((S.1 17 x9.toNatClampNeg).toInt64) Hd K Q))
def JX6_sums_50 (S : MS) (x1 : Int32) (x2 : Int32) (x3 : Int64) (x5 : Int32) (x6 : Int32) (x7 : Int64) (x9 : Int32) (t0 : Int32) (Hd : MS → Int32 → Int64 → Int32 → Prop) (K : MS → Int32 → Int64 → Prop) (Q : Int64 → MS → Prop) : Prop :=
  ((t0 = 0 →
    JX6_sums_70 S x1 x2 x3 x5 x7 x9 t0 x6 0 Hd K Q) ∧
  (¬ t0 = 0 →
    vp_in x9 24 ∧
    JX6_sums_70 S x1 x2 x3 x5 x7 x9 t0 x6 (S.1 18 x9.toNatClampNeg) Hd K Q))
def LX6_sums_25 (x1 : Int32) (x2 : Int32) (x3 : Int64) (x5 : Int32) (K : MS → Int32 → Int64 → Prop) (Q : Int64 → MS → Prop) : Nat → MS → Int32 → Int64 → Int32 → Prop
  | 0, _, _, _, _ => False
  | n + 1, S, x6, x7, x9 =>
    (((S.2.2 4) ≤ x9 →
      K S x6 x7) ∧
    (¬ (S.2.2 4) ≤ x9 →
      ((((x5 >>> (x9 &&& 31)) &&& 1) = 1 →
        JX6_sums_50 S x1 x2 x3 x5 x6 x7 x9 1 (fun S a6 a7 a9 => LX6_sums_25 x1 x2 x3 x5 K Q n S a6 a7 a9) K Q) ∧
      (¬ ((x5 >>> (x9 &&& 31)) &&& 1) = 1 →
        JX6_sums_50 S x1 x2 x3 x5 x6 x7 x9 0 (fun S a6 a7 a9 => LX6_sums_25 x1 x2 x3 x5 K Q n S a6 a7 a9) K Q))))
def JX6_sums_145 (S : MS) (x1 : Int32) (x2 : Int32) (x3 : Int64) (x5 : Int32) (Hd : MS → Int64 → Int32 → Prop) (K : MS → Int64 → Prop) (Q : Int64 → MS → Prop) : Prop :=
  Hd S x3 (x5 + 1)
def JX6_sums_133 (S : MS) (x1 : Int32) (x2 : Int32) (x3 : Int64) (x5 : Int32) (x7 : Int64) (t0 : Int32) (t1 : Int32) (Hd : MS → Int64 → Int32 → Prop) (K : MS → Int64 → Prop) (Q : Int64 → MS → Prop) : Prop :=
  wX6_does S t0 t1 fun r_2 S_1 =>
  ((r_2 = x2 →
    JX6_sums_145 S_1 x1 x2 x3 x5 Hd K Q) ∧
  (¬ r_2 = x2 →
    JX6_sums_145 S_1 x1 x2 (x3 + x7) x5 Hd K Q))
def LX6_sums_5 (x1 : Int32) (x2 : Int32) (K : MS → Int64 → Prop) (Q : Int64 → MS → Prop) : Nat → MS → Int64 → Int32 → Prop
  | 0, _, _, _ => False
  | n + 1, S, x3, x5 =>
    ((((1 : Int32) <<< ((S.2.2 4) &&& 31)) ≤ x5 →
      K S x3) ∧
    (¬ ((1 : Int32) <<< ((S.2.2 4) &&& 31)) ≤ x5 →
      ∃ n0 : Nat, LX6_sums_25 x1 x2 x3 x5 (fun S_1 y_2 y_3 =>
        (((lg_cmp y_3 0) ≤ 0 →
          JX6_sums_145 S_1 x1 x2 x3 x5 (fun S a3 a5 => LX6_sums_5 x1 x2 K Q n S a3 a5) K Q) ∧
        (¬ (lg_cmp y_3 0) ≤ 0 →
          ((x2 = 0 →
            JX6_sums_133 S_1 x1 x2 x3 x5 y_3 x1 y_2 (fun S a3 a5 => LX6_sums_5 x1 x2 K Q n S a3 a5) K Q) ∧
          (¬ x2 = 0 →
            JX6_sums_133 S_1 x1 x2 x3 x5 y_3 x1 (y_2 ^^^ (-1)) (fun S a3 a5 => LX6_sums_5 x1 x2 K Q n S a3 a5) K Q))))) Q n0 S 0 1 0))
def LX6_sums_157 (K : MS → Int64 → Prop) (Q : Int64 → MS → Prop) : Nat → MS → Int64 → Int32 → Prop
  | 0, _, _, _ => False
  | n + 1, S, x3, x5 =>
    (((8 : Int32) ≤ x5 →
      K S x3) ∧
    (¬ (8 : Int32) ≤ x5 →
      LX6_sums_157 K Q n S (x3 * 64) (x5 + 1)))
def wX6_sums (S : MS) (x1 : Int32) (x2 : Int32) (Q : Int64 → MS → Prop) : Prop :=
  ∃ n0 : Nat, LX6_sums_5 x1 x2 (fun S_1 y_2 =>
    ∃ n0 : Nat, LX6_sums_157 (fun S_3 y_4 =>
      Q y_4 S_3) Q n0 S_1 y_2 (S_1.2.2 4)) Q n0 S 0 0
def JX6_chanceOf_48 (S : MS) (x1 : Int32) (x2 : Int32) (x3 : Int32) (x4 : Int32) (Hd : MS → Int32 → Prop) (K : MS → Prop) (Q : Int64 → MS → Prop) : Prop :=
  Hd S (x4 + 1)
def LX6_chanceOf_14 (x1 : Int32) (x2 : Int32) (x3 : Int32) (K : MS → Prop) (Q : Int64 → MS → Prop) : Nat → MS → Int32 → Prop
  | 0, _, _ => False
  | n + 1, S, x4 =>
    (((S.2.2 0) ≤ x4 →
      K S ) ∧
    (¬ (S.2.2 0) ≤ x4 →
      ((((x3 >>> (x4 &&& 31)) &&& 1) = 1 →
        wX6_shareOf S x4 x2 fun r_2 S_1 =>
        wX6_adds S_1 r_2 ((1 : Int32) <<< (x4 &&& 31)) fun S_3 =>
        JX6_chanceOf_48 S_3 x1 x2 x3 x4 (fun S a4 => LX6_chanceOf_14 x1 x2 x3 K Q n S a4) K Q) ∧
      (¬ ((x3 >>> (x4 &&& 31)) &&& 1) = 1 →
        JX6_chanceOf_48 S x1 x2 x3 x4 (fun S a4 => LX6_chanceOf_14 x1 x2 x3 K Q n S a4) K Q))))
def JX6_chanceOf_96 (S : MS) (x1 : Int32) (x3 : Int32) (x4 : Int32) (Hd : MS → Int32 → Prop) (K : MS → Prop) (Q : Int64 → MS → Prop) : Prop :=
  Hd S (x4 + 1)
def LX6_chanceOf_57 (x1 : Int32) (x3 : Int32) (K : MS → Prop) (Q : Int64 → MS → Prop) : Nat → MS → Int32 → Prop
  | 0, _, _ => False
  | n + 1, S, x4 =>
    (((S.2.2 2) ≤ x4 →
      K S ) ∧
    (¬ (S.2.2 2) ≤ x4 →
      vp_in x4 4 ∧
      ((((S.1 12 x4.toNatClampNeg) &&& x3) = 0 →
        JX6_chanceOf_96 S x1 x3 x4 (fun S a4 => LX6_chanceOf_57 x1 x3 K Q n S a4) K Q) ∧
      (¬ ((S.1 12 x4.toNatClampNeg) &&& x3) = 0 →
        vp_in x4 4 ∧
        vp_in x4 4 ∧
        wX6_adds S (S.1 11 x4.toNatClampNeg) (S.1 12 x4.toNatClampNeg) fun S_1 =>
        JX6_chanceOf_96 S_1 x1 x3 x4 (fun S a4 => LX6_chanceOf_57 x1 x3 K Q n S a4) K Q))))
def wX6_chanceOf (S : MS) (x1 : Int32) (x2 : Int32) (Q : Int64 → MS → Prop) : Prop :=
  wX6_partsOf S x1 fun r_2 S_1 =>
  ∀ S_3 : MS, S_3 = uF S_1 4 0 →
  ∃ n0 : Nat, LX6_chanceOf_14 x1 x2 r_2 (fun S_4 =>
    ∃ n0 : Nat, LX6_chanceOf_57 x1 r_2 (fun S_5 =>
      wX6_sums S_5 x1 1 fun r_7 S_6 =>
      Q r_7 S_6) Q n0 S_4 0) Q n0 S_3 0
def wX6_chance (S : MS) (x1 : Int32) (x2 : Int32) (Q : Int64 → MS → Prop) : Prop :=
  wX6_isVote S x1 fun r_2 S_1 =>
  ((r_2 = 0 →
    Q (-1) S_1) ∧
  (¬ r_2 = 0 →
    wX6_isDay S_1 x2 fun r_4 S_3 =>
    ((r_4 = 0 →
      Q (-1) S_3) ∧
    (¬ r_4 = 0 →
      wX6_eventsOf S_3 x1 fun r_6 S_5 =>
      ((r_6 ≤ 8 →
        wX6_chanceOf S_5 x1 x2 fun r_8 S_7 =>
        Q r_8 S_7) ∧
      (¬ r_6 ≤ 8 →
        Q (-2) S_5))))))
def wX6_isSpan (S : MS) (x1 : Int32) (x2 : Int32) (Q : Int32 → MS → Prop) : Prop :=
  wX6_areDays S x1 x2 fun r_2 S_1 =>
  ((r_2 = 0 →
    Q 0 S_1) ∧
  (¬ r_2 = 0 →
    (((200 : Int32) ≤ (x2 - x1) →
      Q 0 S_1) ∧
    (¬ (200 : Int32) ≤ (x2 - x1) →
      Q 1 S_1))))
def LX6_over_41 (x1 : Int32) (x3 : Int32) (K : MS → Int64 → Prop) (Q : Int64 → MS → Prop) : Nat → MS → Int64 → Int32 → Prop
  | 0, _, _, _ => False
  | n + 1, S, x4, x6 =>
    ((x3 < x6 →
      K S x4) ∧
    (¬ x3 < x6 →
      wX6_chanceOf S x1 x6 fun r_2 S_1 =>
      LX6_over_41 x1 x3 K Q n S_1 (x4 + r_2) (x6 + 1)))
def wX6_over (S : MS) (x1 : Int32) (x2 : Int32) (x3 : Int32) (Q : Int64 → MS → Prop) : Prop :=
  wX6_isVote S x1 fun r_2 S_1 =>
  ((r_2 = 0 →
    Q (-1) S_1) ∧
  (¬ r_2 = 0 →
    wX6_isSpan S_1 x2 x3 fun r_4 S_3 =>
    ((r_4 = 0 →
      Q (-1) S_3) ∧
    (¬ r_4 = 0 →
      wX6_eventsOf S_3 x1 fun r_6 S_5 =>
      ((r_6 ≤ 8 →
        ∃ n0 : Nat, LX6_over_41 x1 x3 (fun S_7 y_8 =>
          Q y_8 S_7) Q n0 S_5 0 x2) ∧
      (¬ r_6 ≤ 8 →
        Q (-2) S_5))))))
def LX6_broken_47 (x1 : Int32) (x3 : Int32) (x4 : Int64) (K : MS → Prop) (Q : Int32 → MS → Prop) : Nat → MS → Int32 → Prop
  | 0, _, _ => False
  | n + 1, S, x6 =>
    ((x3 < x6 →
      K S ) ∧
    (¬ x3 < x6 →
      wX6_chanceOf S x1 x6 fun r_2 S_1 =>
      (((lg_cmp r_2 x4) ≤ 0 →
        LX6_broken_47 x1 x3 x4 K Q n S_1 (x6 + 1)) ∧
      (¬ (lg_cmp r_2 x4) ≤ 0 →
        Q x6 S_1))))
def wX6_broken (S : MS) (x1 : Int32) (x2 : Int32) (x3 : Int32) (x4 : Int64) (Q : Int32 → MS → Prop) : Prop :=
  wX6_isVote S x1 fun r_2 S_1 =>
  ((r_2 = 0 →
    Q (-1) S_1) ∧
  (¬ r_2 = 0 →
    wX6_isSpan S_1 x2 x3 fun r_4 S_3 =>
    ((r_4 = 0 →
      Q (-1) S_3) ∧
    (¬ r_4 = 0 →
      wX6_in S_3 x4 0 281474976710656 fun r_6 S_5 =>
      ((r_6 = 0 →
        Q (-1) S_5) ∧
      (¬ r_6 = 0 →
        wX6_eventsOf S_5 x1 fun r_8 S_7 =>
        ((r_8 ≤ 8 →
          ∃ n0 : Nat, LX6_broken_47 x1 x3 x4 (fun S_9 =>
            Q (-4) S_9) Q n0 S_7 x2) ∧
        (¬ r_8 ≤ 8 →
          Q (-2) S_7))))))))
def JX6_nothing_68 (S : MS) (x1 : Int32) (x2 : Int32) (x3 : Int32) (Hd : MS → Int32 → Prop) (K : MS → Prop) (Q : Int64 → MS → Prop) : Prop :=
  Hd S (x3 + 1)
def LX6_nothing_38 (x1 : Int32) (x2 : Int32) (K : MS → Prop) (Q : Int64 → MS → Prop) : Nat → MS → Int32 → Prop
  | 0, _, _ => False
  | n + 1, S, x3 =>
    (((S.2.2 0) ≤ x3 →
      K S ) ∧
    (¬ (S.2.2 0) ≤ x3 →
      ((((x2 >>> (x3 &&& 31)) &&& 1) = 1 →
        vp_in x3 12 ∧
        wX6_adds S (S.1 2 x3.toNatClampNeg) ((1 : Int32) <<< (x3 &&& 31)) fun S_1 =>
        JX6_nothing_68 S_1 x1 x2 x3 (fun S a3 => LX6_nothing_38 x1 x2 K Q n S a3) K Q) ∧
      (¬ ((x2 >>> (x3 &&& 31)) &&& 1) = 1 →
        JX6_nothing_68 S x1 x2 x3 (fun S a3 => LX6_nothing_38 x1 x2 K Q n S a3) K Q))))
def wX6_nothing (S : MS) (x1 : Int32) (Q : Int64 → MS → Prop) : Prop :=
  wX6_isVote S x1 fun r_2 S_1 =>
  ((r_2 = 0 →
    Q (-1) S_1) ∧
  (¬ r_2 = 0 →
    wX6_partsOf S_1 x1 fun r_4 S_3 =>
    wX6_bits S_3 r_4 fun r_6 S_5 =>
    ((r_6 ≤ 8 →
      ∀ S_7 : MS, S_7 = uF S_5 4 0 →
      ∃ n0 : Nat, LX6_nothing_38 x1 r_4 (fun S_8 =>
        wX6_sums S_8 x1 0 fun r_10 S_9 =>
        Q r_10 S_9) Q n0 S_7 0) ∧
    (¬ r_6 ≤ 8 →
      Q (-2) S_5))))
def wX6_mattersOf (S : MS) (x1 : Int32) (x2 : Int32) (x3 : Int32) (Q : Int64 → MS → Prop) : Prop :=
  wX6_partsOf S x1 fun r_2 S_1 =>
  ((((r_2 >>> (x2 &&& 31)) &&& 1) = 0 →
    Q 0 S_1) ∧
  (¬ ((r_2 >>> (x2 &&& 31)) &&& 1) = 0 →
    vp_in x2 12 ∧
    ∀ S_3 : MS, S_3 = uI S_1 7 x2.toNatClampNeg 64 →
    wX6_chanceOf S_3 x1 x3 fun r_5 S_4 =>
    vp_in x2 12 ∧
    ∀ S_6 : MS, S_6 = uI S_4 7 x2.toNatClampNeg 0 →
    wX6_chanceOf S_6 x1 x3 fun r_8 S_7 =>
    vp_in x2 12 ∧
    ∀ S_9 : MS, S_9 = uI S_7 7 x2.toNatClampNeg (-1) →
    Q (r_5 - r_8) S_9))
def wX6_matters (S : MS) (x1 : Int32) (x2 : Int32) (x3 : Int32) (Q : Int64 → MS → Prop) : Prop :=
  wX6_isVote S x1 fun r_2 S_1 =>
  ((r_2 = 0 →
    Q (-1) S_1) ∧
  (¬ r_2 = 0 →
    wX6_isPart S_1 x2 fun r_4 S_3 =>
    ((r_4 = 0 →
      Q (-1) S_3) ∧
    (¬ r_4 = 0 →
      wX6_isDay S_3 x3 fun r_6 S_5 =>
      ((r_6 = 0 →
        Q (-1) S_5) ∧
      (¬ r_6 = 0 →
        wX6_eventsOf S_5 x1 fun r_8 S_7 =>
        ((r_8 ≤ 8 →
          wX6_mattersOf S_7 x1 x2 x3 fun r_10 S_9 =>
          Q r_10 S_9) ∧
        (¬ r_8 ≤ 8 →
          Q (-2) S_7))))))))
def JX6_most_114 (S : MS) (x1 : Int32) (x2 : Int32) (x3 : Int32) (x4 : Int32) (x7 : Int32) (t0 : Int64) (Hd : MS → Int32 → Int64 → Int32 → Prop) (K : MS → Int32 → Prop) (Q : Int32 → MS → Prop) : Prop :=
  Hd S x4 t0 (x7 + 1)
def JX6_most_97 (S : MS) (x1 : Int32) (x2 : Int32) (x3 : Int32) (x5 : Int64) (x7 : Int32) (x8 : Int64) (t0 : Int32) (Hd : MS → Int32 → Int64 → Int32 → Prop) (K : MS → Int32 → Prop) (Q : Int32 → MS → Prop) : Prop :=
  (((lg_cmp x8 x5) ≤ 0 →
    JX6_most_114 S x1 x2 x3 t0 x7 x5 Hd K Q) ∧
  (¬ (lg_cmp x8 x5) ≤ 0 →
    JX6_most_114 S x1 x2 x3 t0 x7 x8 Hd K Q))
def JX6_most_80 (S : MS) (x1 : Int32) (x2 : Int32) (x3 : Int32) (x4 : Int32) (x5 : Int64) (x7 : Int32) (t0 : Int64) (Hd : MS → Int32 → Int64 → Int32 → Prop) (K : MS → Int32 → Prop) (Q : Int32 → MS → Prop) : Prop :=
  (((lg_cmp t0 x5) ≤ 0 →
    JX6_most_97 S x1 x2 x3 x5 x7 t0 x4 Hd K Q) ∧
  (¬ (lg_cmp t0 x5) ≤ 0 →
    JX6_most_97 S x1 x2 x3 x5 x7 t0 x7 Hd K Q))
def LX6_most_47 (x1 : Int32) (x2 : Int32) (x3 : Int32) (K : MS → Int32 → Prop) (Q : Int32 → MS → Prop) : Nat → MS → Int32 → Int64 → Int32 → Prop
  | 0, _, _, _, _ => False
  | n + 1, S, x4, x5, x7 =>
    (((S.2.2 0) ≤ x7 →
      K S x4) ∧
    (¬ (S.2.2 0) ≤ x7 →
      ((((x3 >>> (x7 &&& 31)) &&& 1) = 1 →
        wX6_mattersOf S x1 x7 x2 fun r_2 S_1 =>
        JX6_most_80 S_1 x1 x2 x3 x4 x5 x7 r_2 (fun S a4 a5 a7 => LX6_most_47 x1 x2 x3 K Q n S a4 a5 a7) K Q) ∧
      (¬ ((x3 >>> (x7 &&& 31)) &&& 1) = 1 →
        JX6_most_80 S x1 x2 x3 x4 x5 x7 (-1) (fun S a4 a5 a7 => LX6_most_47 x1 x2 x3 K Q n S a4 a5 a7) K Q))))
def wX6_most (S : MS) (x1 : Int32) (x2 : Int32) (Q : Int32 → MS → Prop) : Prop :=
  wX6_isVote S x1 fun r_2 S_1 =>
  ((r_2 = 0 →
    Q (-1) S_1) ∧
  (¬ r_2 = 0 →
    wX6_isDay S_1 x2 fun r_4 S_3 =>
    ((r_4 = 0 →
      Q (-1) S_3) ∧
    (¬ r_4 = 0 →
      wX6_eventsOf S_3 x1 fun r_6 S_5 =>
      ((r_6 ≤ 8 →
        wX6_partsOf S_5 x1 fun r_8 S_7 =>
        ∃ n0 : Nat, LX6_most_47 x1 x2 r_8 (fun S_9 y_10 =>
          Q y_10 S_9) Q n0 S_7 (-1) (-1) 0) ∧
      (¬ r_6 ≤ 8 →
        Q (-2) S_5))))))
def wX6_cost (S : MS) (x1 : Int32) (x2 : Int32) (Q : Int32 → MS → Prop) : Prop :=
  wX6_isPart S x1 fun r_2 S_1 =>
  ((r_2 = 0 →
    Q (-1) S_1) ∧
  (¬ r_2 = 0 →
    wX6_in S_1 x2.toInt64 0 1000 fun r_4 S_3 =>
    ((r_4 = 0 →
      Q (-1) S_3) ∧
    (¬ r_4 = 0 →
      vp_in x1 12 ∧
      vp_in x1 12 ∧
      ∀ S_5 : MS, S_5 = uI S_3 3 x1.toNatClampNeg x2 →
      Q (S_3.1 3 x1.toNatClampNeg) S_5))))
def LX6_laid_9 (x1 : Int32) (x2 : Int32) (x3 : Int32) (x4 : Int32) (K : MS → Int32 → Prop) (Q : Int32 → MS → Prop) : Nat → MS → Int32 → Int32 → Prop
  | 0, _, _, _ => False
  | n + 1, S, x5, x6 =>
    ((x2 ≤ x6 →
      K S x5) ∧
    (¬ x2 ≤ x6 →
      LX6_laid_9 x1 x2 x3 x4 K Q n S (x5 * 3) (x6 + 1)))
def JX6_laid_96 (S : MS) (x1 : Int32) (x3 : Int32) (x4 : Int32) (x5 : Int32) (x6 : Int32) (Hd : MS → Int32 → Int32 → Int32 → Prop) (K : MS → Int32 → Prop) (Q : Int32 → MS → Prop) : Prop :=
  Hd S x4 x5 (x6 + 1)
def LX6_laid_30 (x1 : Int32) (x3 : Int32) (K : MS → Int32 → Prop) (Q : Int32 → MS → Prop) : Nat → MS → Int32 → Int32 → Int32 → Prop
  | 0, _, _, _, _ => False
  | n + 1, S, x4, x5, x6 =>
    (((S.2.2 0) ≤ x6 →
      K S x4) ∧
    (¬ (S.2.2 0) ≤ x6 →
      ((((x1 >>> (x6 &&& 31)) &&& 1) = 1 →
        ¬ x5 = 0 ∧
        vp_in ((x3 / x5) - (x3 / x5) / 3 * 3) 3 ∧
        vp_in x6 12 ∧
        ∀ S_1 : MS, S_1 = uI S 6 x6.toNatClampNeg (S.1 19 ((x3 / x5) - (x3 / x5) / 3 * 3).toNatClampNeg) →
        vp_in x6 12 ∧
        vp_in x6 12 ∧
        ¬ (S_1.1 6 x6.toNatClampNeg) = 0 ∧
        ∀ v_2 : Int32, v_2 = (x4 + ((S_1.1 3 x6.toNatClampNeg) * (100 / (S_1.1 6 x6.toNatClampNeg)))) →
        JX6_laid_96 S_1 x1 x3 v_2 (x5 / 3) x6 (fun S a4 a5 a6 => LX6_laid_30 x1 x3 K Q n S a4 a5 a6) K Q) ∧
      (¬ ((x1 >>> (x6 &&& 31)) &&& 1) = 1 →
        JX6_laid_96 S x1 x3 x4 x5 x6 (fun S a4 a5 a6 => LX6_laid_30 x1 x3 K Q n S a4 a5 a6) K Q))))
def wX6_laid (S : MS) (x1 : Int32) (x2 : Int32) (x3 : Int32) (Q : Int32 → MS → Prop) : Prop :=
  ∃ n0 : Nat, LX6_laid_9 x1 x2 x3 0 (fun S_1 y_2 =>
    ∃ n0 : Nat, LX6_laid_30 x1 x3 (fun S_3 y_4 =>
      Q y_4 S_3) Q n0 S_1 0 y_2 0) Q n0 S 1 1
def LX6_lifted_2 (K : MS → Prop) (Q : MS → Prop) : Nat → MS → Int32 → Prop
  | 0, _, _ => False
  | n + 1, S, x1 =>
    (((12 : Int32) ≤ x1 →
      K S ) ∧
    (¬ (12 : Int32) ≤ x1 →
      vp_in x1 12 ∧
      ∀ S_1 : MS, S_1 = uI S 6 x1.toNatClampNeg 0 →
      LX6_lifted_2 K Q n S_1 (x1 + 1)))
def wX6_lifted (S : MS) (Q : MS → Prop) : Prop :=
  ∃ n0 : Nat, LX6_lifted_2 (fun S_1 =>
    Q S_1) Q n0 S 0
def JX6_plan_204 (S : MS) (x1 : Int32) (x5 : Int64) (x7 : Int32) (x8 : Int32) (x9 : Int32) (x10 : Int32) (x11 : Int32) (x12 : Int32) (x13 : Int32) (x14 : Int32) (x15 : Int64) (x17 : Int32) (Hd : MS → Int64 → Int32 → Prop) (K : MS → Int64 → Prop) (Q : Int32 → MS → Prop) : Prop :=
  wX6_chanceOf S x1 x17 fun r_2 S_1 =>
  Hd S_1 (x15 + r_2) (x17 + 1)
def LX6_plan_185 (x1 : Int32) (x5 : Int64) (x7 : Int32) (x8 : Int32) (x9 : Int32) (x10 : Int32) (x11 : Int32) (x12 : Int32) (x13 : Int32) (x14 : Int32) (K : MS → Int64 → Prop) (Q : Int32 → MS → Prop) : Nat → MS → Int64 → Int32 → Prop
  | 0, _, _, _ => False
  | n + 1, S, x15, x17 =>
    (((100 : Int32) ≤ x17 →
      K S x15) ∧
    (¬ (100 : Int32) ≤ x17 →
      ((x10 < 0 →
        JX6_plan_204 S x1 x5 x7 x8 x9 x10 x11 x12 x13 x14 x15 x17 (fun S a15 a17 => LX6_plan_185 x1 x5 x7 x8 x9 x10 x11 x12 x13 x14 K Q n S a15 a17) K Q) ∧
      (¬ x10 < 0 →
        ((x10 ≤ x14 →
          K S x15) ∧
        (¬ x10 ≤ x14 →
          JX6_plan_204 S x1 x5 x7 x8 x9 x10 x11 x12 x13 x14 x15 x17 (fun S a15 a17 => LX6_plan_185 x1 x5 x7 x8 x9 x10 x11 x12 x13 x14 K Q n S a15 a17) K Q))))))
def JX6_plan_250 (S : MS) (x1 : Int32) (x5 : Int64) (x7 : Int32) (x8 : Int32) (x9 : Int32) (x10 : Int32) (x11 : Int32) (x12 : Int32) (x13 : Int32) (Hd : MS → Int32 → Int32 → Int32 → Prop) (K : MS → Int32 → Int32 → Prop) (Q : Int32 → MS → Prop) : Prop :=
  Hd S x10 x11 (x13 + 1)
def JX6_plan_234 (S : MS) (x1 : Int32) (x5 : Int64) (x7 : Int32) (x8 : Int32) (x9 : Int32) (x10 : Int32) (x11 : Int32) (x12 : Int32) (x13 : Int32) (x14 : Int32) (x15 : Int64) (Hd : MS → Int32 → Int32 → Int32 → Prop) (K : MS → Int32 → Int32 → Prop) (Q : Int32 → MS → Prop) : Prop :=
  (((0 : Int32) < (lg_cmp x15 x5) →
    JX6_plan_250 S x1 x5 x7 x8 x9 x10 x11 x12 x13 Hd K Q) ∧
  (¬ (0 : Int32) < (lg_cmp x15 x5) →
    JX6_plan_250 S x1 x5 x7 x8 x9 x14 x13 x12 x13 Hd K Q))
def LX6_plan_160 (x1 : Int32) (x5 : Int64) (x7 : Int32) (x8 : Int32) (x9 : Int32) (x12 : Int32) (K : MS → Int32 → Int32 → Prop) (Q : Int32 → MS → Prop) : Nat → MS → Int32 → Int32 → Int32 → Prop
  | 0, _, _, _, _ => False
  | n + 1, S, x10, x11, x13 =>
    ((x12 ≤ x13 →
      K S x10 x11) ∧
    (¬ x12 ≤ x13 →
      wX6_laid S x8 x9 x13 fun r_2 S_1 =>
      ∃ n0 : Nat, LX6_plan_185 x1 x5 x7 x8 x9 x10 x11 x12 x13 r_2 (fun S_3 y_4 =>
        ((x10 < 0 →
          JX6_plan_234 S_3 x1 x5 x7 x8 x9 x10 x11 x12 x13 r_2 y_4 (fun S a10 a11 a13 => LX6_plan_160 x1 x5 x7 x8 x9 x12 K Q n S a10 a11 a13) K Q) ∧
        (¬ x10 < 0 →
          ((x10 ≤ r_2 →
            JX6_plan_250 S_3 x1 x5 x7 x8 x9 x10 x11 x12 x13 (fun S a10 a11 a13 => LX6_plan_160 x1 x5 x7 x8 x9 x12 K Q n S a10 a11 a13) K Q) ∧
          (¬ x10 ≤ r_2 →
            JX6_plan_234 S_3 x1 x5 x7 x8 x9 x10 x11 x12 x13 r_2 y_4 (fun S a10 a11 a13 => LX6_plan_160 x1 x5 x7 x8 x9 x12 K Q n S a10 a11 a13) K Q))))) Q n0 S_1 0 0))
def LX6_plan_283 (x9 : Int32) (K : MS → Int32 → Prop) (Q : Int32 → MS → Prop) : Nat → MS → Int32 → Int32 → Int32 → Prop
  | 0, _, _, _, _ => False
  | n + 1, S, x13, x14, x15 =>
    ((x9 ≤ x15 →
      K S x13) ∧
    (¬ x9 ≤ x15 →
      LX6_plan_283 x9 K Q n S ((3 * x13) + (x14 - x14 / 3 * 3)) (x14 / 3) (x15 + 1)))
def JX6_plan_155 (S : MS) (x1 : Int32) (x5 : Int64) (x7 : Int32) (x8 : Int32) (x9 : Int32) (x10 : Int32) (x11 : Int32) (t0 : Int32) (Q : Int32 → MS → Prop) : Prop :=
  ∃ n0 : Nat, LX6_plan_160 x1 x5 x7 x8 x9 t0 (fun S_1 y_2 y_3 =>
    wX6_lifted S_1 fun S_4 =>
    ((x7 = 0 →
      Q y_2 S_4) ∧
    (¬ x7 = 0 →
      (((0 : Int32) ≤ y_3 →
        ∃ n0 : Nat, LX6_plan_283 x9 (fun S_6 y_7 =>
          Q y_7 S_6) Q n0 S_4 0 y_3 0) ∧
      (¬ (0 : Int32) ≤ y_3 →
        Q y_2 S_4))))) Q n0 S x10 x11 0
def wX6_plan (S : MS) (x1 : Int32) (x2 : Int32) (x3 : Int32) (x4 : Int32) (x5 : Int64) (x7 : Int32) (Q : Int32 → MS → Prop) : Prop :=
  wX6_isVote S x1 fun r_2 S_1 =>
  ((r_2 = 0 →
    Q (-1) S_1) ∧
  (¬ r_2 = 0 →
    wX6_in S_1 x2.toInt64 1 100 fun r_4 S_3 =>
    ((r_4 = 0 →
      Q (-1) S_3) ∧
    (¬ r_4 = 0 →
      wX6_in S_3 x3.toInt64 1 100 fun r_6 S_5 =>
      ((r_6 = 0 →
        Q (-1) S_5) ∧
      (¬ r_6 = 0 →
        wX6_in S_5 x4.toInt64 1 100 fun r_8 S_7 =>
        ((r_8 = 0 →
          Q (-1) S_7) ∧
        (¬ r_8 = 0 →
          wX6_in S_7 x5 0 28147497671065600 fun r_10 S_9 =>
          ((r_10 = 0 →
            Q (-1) S_9) ∧
          (¬ r_10 = 0 →
            wX6_in S_9 x7.toInt64 0 1 fun r_12 S_11 =>
            ((r_12 = 0 →
              Q (-1) S_11) ∧
            (¬ r_12 = 0 →
              wX6_partsOf S_11 x1 fun r_14 S_13 =>
              wX6_bits S_13 r_14 fun r_16 S_15 =>
              (((3 : Int32) < r_16 →
                Q (-2) S_15) ∧
              (¬ (3 : Int32) < r_16 →
                wX6_eventsOf S_15 x1 fun r_18 S_17 =>
                ((r_18 ≤ 8 →
                  vp_in 0 3 ∧
                  ∀ S_19 : MS, S_19 = uI S_17 19 (0 : Int32).toNatClampNeg x2 →
                  vp_in 1 3 ∧
                  ∀ S_20 : MS, S_20 = uI S_19 19 (1 : Int32).toNatClampNeg x3 →
                  vp_in 2 3 ∧
                  ∀ S_21 : MS, S_21 = uI S_20 19 (2 : Int32).toNatClampNeg x4 →
                  ((r_16 = 1 →
                    JX6_plan_155 S_21 x1 x5 x7 r_14 r_16 (-4) (-1) 3 Q) ∧
                  (¬ r_16 = 1 →
                    ((r_16 = 2 →
                      JX6_plan_155 S_21 x1 x5 x7 r_14 r_16 (-4) (-1) 9 Q) ∧
                    (¬ r_16 = 2 →
                      JX6_plan_155 S_21 x1 x5 x7 r_14 r_16 (-4) (-1) 27 Q))))) ∧
                (¬ r_18 ≤ 8 →
                  Q (-2) S_17))))))))))))))))
def LX6_count_4 (x1 : Int32) (K : MS → Int32 → Prop) (Q : Int32 → MS → Prop) : Nat → MS → Int32 → Int32 → Prop
  | 0, _, _, _ => False
  | n + 1, S, x2, x3 =>
    (((12 : Int32) ≤ x3 →
      K S x2) ∧
    (¬ (12 : Int32) ≤ x3 →
      vp_in x3 12 ∧
      LX6_count_4 x1 K Q n S (x2 + (S.1 4 x3.toNatClampNeg)) (x3 + 1)))
def wX6_count (S : MS) (x1 : Int32) (Q : Int32 → MS → Prop) : Prop :=
  ∃ n0 : Nat, LX6_count_4 x1 (fun S_1 y_2 =>
    ((x1 = 0 →
      Q (S_1.2.2 0) S_1) ∧
    (x1 = 1 →
      Q y_2 S_1) ∧
    (x1 = 2 →
      Q (S_1.2.2 1) S_1) ∧
    (x1 = 3 →
      Q (S_1.2.2 2) S_1) ∧
    (x1 = 4 →
      Q (S_1.2.2 3) S_1) ∧
    (¬ x1 = 0 → ¬ x1 = 1 → ¬ x1 = 2 → ¬ x1 = 3 → ¬ x1 = 4 → 
    Q (-1) S_1))) Q n0 S 0 0
