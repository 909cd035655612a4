def jiushr (x y : Int32) : Int32 := (x.toUInt32 >>> (y.toUInt32 &&& Int32.toUInt32 31)).toInt32
def jlushr (x : Int64) (y : Int32) : Int64 := (x.toUInt64 >>> (y.toInt64.toUInt64 &&& Int64.toUInt64 63)).toInt64
def jlshl (x : Int64) (y : Int32) : Int64 := x <<< (y.toInt64 &&& 63)
def jlshr (x : Int64) (y : Int32) : Int64 := x >>> (y.toInt64 &&& 63)
def wX0_size (S : MS) (Q : Int32 → MS → Prop) : Prop :=
  Q (S.2.2 2) S
def wX0_add (S : MS) (x1 : Int32) (x2 : Int32) (Q : Int32 → MS → Prop) : Prop :=
  (((S.2.2 2) < 4 →
    vp_in (S.2.2 2) 4 ∧
    ∀ S_1 : MS, S_1 = uI S 6 (S.2.2 2).toNatClampNeg x1 →
    vp_in (S_1.2.2 2) 4 ∧
    ∀ S_2 : MS, S_2 = uI S_1 7 (S_1.2.2 2).toNatClampNeg x2 →
    ∀ S_3 : MS, S_3 = uF S_2 2 ((S_2.2.2 2) + 1) →
    Q ((S_3.2.2 2) - 1) S_3) ∧
  (¬ (S.2.2 2) < 4 →
    Q (-3) S))
def wX0_shareOf (S : MS) (x1 : Int32) (Q : Int32 → MS → Prop) : Prop :=
  vp_in x1 4 ∧
  Q (S.1 6 x1.toNatClampNeg) S
def wX0_struckBy (S : MS) (x1 : Int32) (Q : Int32 → MS → Prop) : Prop :=
  vp_in x1 4 ∧
  Q (S.1 7 x1.toNatClampNeg) S
def JX0_striking_29 (S : MS) (x1 : Int32) (x2 : Int32) (x3 : Int32) (Hd : MS → Int32 → Int32 → Prop) (K : MS → Int32 → Prop) (Q : Int32 → MS → Prop) : Prop :=
  Hd S x2 (x3 + 1)
def LX0_striking_4 (x1 : Int32) (K : MS → Int32 → Prop) (Q : Int32 → MS → Prop) : Nat → MS → Int32 → Int32 → Prop
  | 0, _, _, _ => False
  | n + 1, S, x2, x3 =>
    (((S.2.2 2) ≤ x3 →
      K S x2) ∧
    (¬ (S.2.2 2) ≤ x3 →
      vp_in x3 4 ∧
      ((((S.1 7 x3.toNatClampNeg) &&& x1) = 0 →
        JX0_striking_29 S x1 x2 x3 (fun S a2 a3 => LX0_striking_4 x1 K Q n S a2 a3) K Q) ∧
      (¬ ((S.1 7 x3.toNatClampNeg) &&& x1) = 0 →
        ∀ v_1 : Int32, v_1 = (x2 ||| ((1 : Int32) <<< (x3 &&& 31))) →
        JX0_striking_29 S x1 v_1 x3 (fun S a2 a3 => LX0_striking_4 x1 K Q n S a2 a3) K Q))))
def wX0_striking (S : MS) (x1 : Int32) (Q : Int32 → MS → Prop) : Prop :=
  ∃ n0 : Nat, LX0_striking_4 x1 (fun S_1 y_2 =>
    Q y_2 S_1) Q n0 S 0 0
def wX4_partsBelow (S : MS) (x1 : Int32) (Q : Int32 → MS → Prop) : Prop :=
  vp_in x1 12 ∧
  Q (S.1 11 x1.toNatClampNeg) S
def wX1_groupsOf (S : MS) (x1 : Int32) (Q : Int32 → MS → Prop) : Prop :=
  wX4_partsBelow S x1 fun r_2 S_1 =>
  wX0_striking S_1 r_2 fun r_4 S_3 =>
  Q r_4 S_3
def wJ6_bitCount_0f7a4 (S : MS) (x0 : Int32) (Q : Int32 → MS → Prop) : Prop :=
  ∀ v_1 : Int32, v_1 = (x0 - ((jiushr x0 1) &&& 1431655765)) →
  ∀ v_2 : Int32, v_2 = ((v_1 &&& 858993459) + ((jiushr v_1 2) &&& 858993459)) →
  ∀ v_3 : Int32, v_3 = ((v_2 + (jiushr v_2 4)) &&& 252645135) →
  ∀ v_4 : Int32, v_4 = ((v_3 + (jiushr v_3 8)) + (jiushr (v_3 + (jiushr v_3 8)) 16)) →
  Q (v_4 &&& 63) S
def wX4_sizeBelow (S : MS) (x1 : Int32) (Q : Int32 → MS → Prop) : Prop :=
  vp_in x1 12 ∧
  wJ6_bitCount_0f7a4 S (S.1 11 x1.toNatClampNeg) fun r_2 S_1 =>
  Q r_2 S_1
def wX1_eventsOf (S : MS) (x1 : Int32) (Q : Int32 → MS → Prop) : Prop :=
  wX4_sizeBelow S x1 fun r_2 S_1 =>
  wX1_groupsOf S_1 x1 fun r_4 S_3 =>
  wJ6_bitCount_0f7a4 S_3 r_4 fun r_6 S_5 =>
  Q (r_2 + r_6) S_5
def wX1_hasTooManyEvents (S : MS) (x1 : Int32) (Q : Int32 → MS → Prop) : Prop :=
  wX1_eventsOf S x1 fun r_2 S_1 =>
  ((r_2 ≤ 8 →
    Q 0 S_1) ∧
  (¬ r_2 ≤ 8 →
    Q 1 S_1))
def wX5_hasBit (S : MS) (x0 : Int32) (x1 : Int32) (Q : Int32 → MS → Prop) : Prop :=
  ((((jiushr x0 x1) &&& 1) = 0 →
    Q 0 S) ∧
  (¬ ((jiushr x0 x1) &&& 1) = 0 →
    Q 1 S))
def JX1_takeMembers_57 (S : MS) (x1 : Int32) (x2 : Int32) (Hd : MS → Int32 → Prop) (K : MS → Prop) (Q : MS → Prop) : Prop :=
  Hd S (x2 + 1)
def LX1_takeMembers_7 (x1 : Int32) (K : MS → Prop) (Q : MS → Prop) : Nat → MS → Int32 → Prop
  | 0, _, _ => False
  | n + 1, S, x2 =>
    (((12 : Int32) ≤ x2 →
      K S ) ∧
    (¬ (12 : Int32) ≤ x2 →
      (((8 : Int32) ≤ (S.2.2 4) →
        K S ) ∧
      (¬ (8 : Int32) ≤ (S.2.2 4) →
        wX4_partsBelow S x1 fun r_2 S_1 =>
        wX5_hasBit S_1 r_2 x2 fun r_4 S_3 =>
        ((r_4 = 0 →
          JX1_takeMembers_57 S_3 x1 x2 (fun S a2 => LX1_takeMembers_7 x1 K Q n S a2) K Q) ∧
        (¬ r_4 = 0 →
          vp_in (S_3.2.2 4) 8 ∧
          ∀ S_5 : MS, S_5 = uI S_3 12 (S_3.2.2 4).toNatClampNeg x2 →
          ∀ S_6 : MS, S_6 = uF S_5 4 ((S_5.2.2 4) + 1) →
          JX1_takeMembers_57 S_6 x1 x2 (fun S a2 => LX1_takeMembers_7 x1 K Q n S a2) K Q))))))
def wX1_takeMembers (S : MS) (x1 : Int32) (Q : MS → Prop) : Prop :=
  ∀ S_1 : MS, S_1 = uF S 4 0 →
  ∃ n0 : Nat, LX1_takeMembers_7 x1 (fun S_2 =>
    ∀ S_3 : MS, S_3 = uF S_2 5 (S_2.2.2 4) →
    Q S_3) Q n0 S_1 0
def wX4_actsIn (S : MS) (x1 : Int32) (x2 : Int32) (Q : Int32 → MS → Prop) : Prop :=
  vp_in ((x1 * 4) + (x2 >>> ((6 : Int32) &&& 31))) 48 ∧
  (((lg_cmp ((jlushr (S.2.1 1 ((x1 * 4) + (x2 >>> ((6 : Int32) &&& 31))).toNatClampNeg) (x2 &&& 63)) &&& 1) 0) = 0 →
    Q 0 S) ∧
  (¬ (lg_cmp ((jlushr (S.2.1 1 ((x1 * 4) + (x2 >>> ((6 : Int32) &&& 31))).toNatClampNeg) (x2 &&& 63)) &&& 1) 0) = 0 →
    Q 1 S))
def JX5_packed_37 (S : MS) (x0 : Int32) (x1 : Int32) (x2 : Int32) (x3 : Int32) (x4 : Int32) (Hd : MS → Int32 → Int32 → Int32 → Prop) (K : MS → Int32 → Prop) (Q : Int32 → MS → Prop) : Prop :=
  Hd S x2 x3 (x4 + 1)
def LX5_packed_7 (x0 : Int32) (x1 : Int32) (K : MS → Int32 → Prop) (Q : Int32 → MS → Prop) : Nat → MS → Int32 → Int32 → Int32 → Prop
  | 0, _, _, _, _ => False
  | n + 1, S, x2, x3, x4 =>
    (((12 : Int32) ≤ x4 →
      K S x2) ∧
    (¬ (12 : Int32) ≤ x4 →
      wX5_hasBit S x1 x4 fun r_2 S_1 =>
      ((r_2 = 0 →
        JX5_packed_37 S_1 x0 x1 x2 x3 x4 (fun S a2 a3 a4 => LX5_packed_7 x0 x1 K Q n S a2 a3 a4) K Q) ∧
      (¬ r_2 = 0 →
        ∀ v_3 : Int32, v_3 = (x2 ||| (((jiushr x0 x4) &&& 1) <<< (x3 &&& 31))) →
        JX5_packed_37 S_1 x0 x1 v_3 (x3 + 1) x4 (fun S a2 a3 a4 => LX5_packed_7 x0 x1 K Q n S a2 a3 a4) K Q))))
def wX5_packed (S : MS) (x0 : Int32) (x1 : Int32) (Q : Int32 → MS → Prop) : Prop :=
  ∃ n0 : Nat, LX5_packed_7 x0 x1 (fun S_1 y_2 =>
    Q y_2 S_1) Q n0 S 0 0 0
def LX1_workIn_11 (x1 : Int32) (x2 : Int64) (x4 : Int32) (K : MS → Prop) (Q : MS → Prop) : Nat → MS → Int32 → Prop
  | 0, _, _ => False
  | n + 1, S, x5 =>
    ((x4 ≤ x5 →
      K S ) ∧
    (¬ x4 ≤ x5 →
      vp_in x5 256 ∧
      vp_in (x5 ||| x1) 256 ∧
      vp_in x5 256 ∧
      ∀ S_1 : MS, S_1 = uL S 2 x5.toNatClampNeg (((64 - x2) * (S.2.1 2 x5.toNatClampNeg)) + (x2 * (S.2.1 2 (x5 ||| x1).toNatClampNeg))) →
      LX1_workIn_11 x1 x2 x4 K Q n S_1 (x5 + 1)))
def wX1_workIn (S : MS) (x1 : Int32) (x2 : Int64) (Q : MS → Prop) : Prop :=
  ∀ v_1 : Int32, v_1 = ((1 : Int32) <<< ((S.2.2 4) &&& 31)) →
  ∃ n0 : Nat, LX1_workIn_11 x1 x2 v_1 (fun S_2 =>
    ∀ S_3 : MS, S_3 = uF S_2 5 ((S_2.2.2 5) + 1) →
    Q S_3) Q n0 S 0
def JX1_startFailing_45 (S : MS) (x1 : Int32) (x2 : Int32) (x3 : Int32) (t0 : Int32) (t1 : Int64) (Hd : MS → Int32 → Prop) (K : MS → Prop) (Q : MS → Prop) : Prop :=
  vp_in t0 256 ∧
  ∀ S_1 : MS, S_1 = uL S 2 t0.toNatClampNeg t1 →
  Hd S_1 (x3 + 1)
def LX1_startFailing_14 (x1 : Int32) (x2 : Int32) (K : MS → Prop) (Q : MS → Prop) : Nat → MS → Int32 → Prop
  | 0, _, _ => False
  | n + 1, S, x3 =>
    ((x2 ≤ x3 →
      K S ) ∧
    (¬ x2 ≤ x3 →
      wX4_actsIn S x1 ((x2 - 1) - x3) fun r_2 S_1 =>
      ((r_2 = 0 →
        JX1_startFailing_45 S_1 x1 x2 x3 x3 1 (fun S a3 => LX1_startFailing_14 x1 x2 K Q n S a3) K Q) ∧
      (¬ r_2 = 0 →
        JX1_startFailing_45 S_1 x1 x2 x3 x3 0 (fun S a3 => LX1_startFailing_14 x1 x2 K Q n S a3) K Q))))
def JX1_startFailing_106 (S : MS) (x1 : Int32) (x3 : Int32) (Hd : MS → Int32 → Prop) (K : MS → Prop) (Q : MS → Prop) : Prop :=
  Hd S (x3 + 1)
def LX1_startFailing_54 (x1 : Int32) (K : MS → Prop) (Q : MS → Prop) : Nat → MS → Int32 → Prop
  | 0, _, _ => False
  | n + 1, S, x3 =>
    wX0_size S fun r_2 S_1 =>
    ((r_2 ≤ x3 →
      K S_1 ) ∧
    (¬ r_2 ≤ x3 →
      wX0_struckBy S_1 x3 fun r_4 S_3 =>
      wX4_partsBelow S_3 x1 fun r_6 S_5 =>
      wX5_packed S_5 r_4 r_6 fun r_8 S_7 =>
      ((r_8 = 0 →
        JX1_startFailing_106 S_7 x1 x3 (fun S a3 => LX1_startFailing_54 x1 K Q n S a3) K Q) ∧
      (¬ r_8 = 0 →
        wX0_shareOf S_7 x3 fun r_10 S_9 =>
        wX1_workIn S_9 r_8 r_10.toInt64 fun S_11 =>
        JX1_startFailing_106 S_11 x1 x3 (fun S a3 => LX1_startFailing_54 x1 K Q n S a3) K Q))))
def wX1_startFailing (S : MS) (x1 : Int32) (Q : MS → Prop) : Prop :=
  wX1_takeMembers S x1 fun S_1 =>
  ∀ v_3 : Int32, v_3 = ((1 : Int32) <<< ((S_1.2.2 4) &&& 31)) →
  ∃ n0 : Nat, LX1_startFailing_14 x1 v_3 (fun S_4 =>
    ∃ n0 : Nat, LX1_startFailing_54 x1 (fun S_5 =>
      Q S_5) Q n0 S_4 0) Q n0 S_1 0
def JX2_testsUpTo_35 (S : MS) (x1 : Int32) (x2 : Int32) (x3 : Int32) (x4 : Int32) (Hd : MS → Int32 → Int32 → Prop) (K : MS → Int32 → Prop) (Q : Int32 → MS → Prop) : Prop :=
  Hd S x3 (x4 + 1)
def LX2_testsUpTo_5 (x1 : Int32) (x2 : Int32) (K : MS → Int32 → Prop) (Q : Int32 → MS → Prop) : Nat → MS → Int32 → Int32 → Prop
  | 0, _, _, _ => False
  | n + 1, S, x3, x4 =>
    vp_in x1 12 ∧
    (((S.1 4 x1.toNatClampNeg) ≤ x4 →
      K S x3) ∧
    (¬ (S.1 4 x1.toNatClampNeg) ≤ x4 →
      vp_in ((x1 * 12) + x4) 144 ∧
      ((x2 < (S.1 5 ((x1 * 12) + x4).toNatClampNeg) →
        JX2_testsUpTo_35 S x1 x2 x3 x4 (fun S a3 a4 => LX2_testsUpTo_5 x1 x2 K Q n S a3 a4) K Q) ∧
      (¬ x2 < (S.1 5 ((x1 * 12) + x4).toNatClampNeg) →
        JX2_testsUpTo_35 S x1 x2 (x3 + 1) x4 (fun S a3 a4 => LX2_testsUpTo_5 x1 x2 K Q n S a3 a4) K Q))))
def wX2_testsUpTo (S : MS) (x1 : Int32) (x2 : Int32) (Q : Int32 → MS → Prop) : Prop :=
  ∃ n0 : Nat, LX2_testsUpTo_5 x1 x2 (fun S_1 y_2 =>
    Q y_2 S_1) Q n0 S 0 0
def wX2_shareAfter (S : MS) (x1 : Int32) (x2 : Int32) (x3 : Int32) (Q : Int32 → MS → Prop) : Prop :=
  vp_in ((x1 * 16) + (x2 >>> ((6 : Int32) &&& 31))) 192 ∧
  (((lg_cmp ((jlushr (S.2.1 0 ((x1 * 16) + (x2 >>> ((6 : Int32) &&& 31))).toNatClampNeg) (x2 &&& 63)) &&& 1) 0) = 0 →
    vp_in x1 12 ∧
    vp_in x1 12 ∧
    Q (if ((S.1 0 x1.toNatClampNeg) + ((S.1 1 x1.toNatClampNeg) * x3)) < 64 then ((S.1 0 x1.toNatClampNeg) + ((S.1 1 x1.toNatClampNeg) * x3)) else 64) S) ∧
  (¬ (lg_cmp ((jlushr (S.2.1 0 ((x1 * 16) + (x2 >>> ((6 : Int32) &&& 31))).toNatClampNeg) (x2 &&& 63)) &&& 1) 0) = 0 →
    Q 64 S))
def JX2_shareOn_28 (S : MS) (x1 : Int32) (x2 : Int32) (t0 : Int32) (Q : Int32 → MS → Prop) : Prop :=
  wX2_shareAfter S x1 x2 (x2 - t0) fun r_2 S_1 =>
  Q r_2 S_1
def wX2_shareOn (S : MS) (x1 : Int32) (x2 : Int32) (Q : Int32 → MS → Prop) : Prop :=
  wX2_testsUpTo S x1 x2 fun r_2 S_1 =>
  ((r_2 = 0 →
    JX2_shareOn_28 S_1 x1 x2 0 Q) ∧
  (¬ r_2 = 0 →
    vp_in (((x1 * 12) + r_2) - 1) 144 ∧
    JX2_shareOn_28 S_1 x1 x2 (S_1.1 5 (((x1 * 12) + r_2) - 1).toNatClampNeg) Q))
def LX1_takeSharesOn_2 (x1 : Int32) (K : MS → Prop) (Q : MS → Prop) : Nat → MS → Int32 → Prop
  | 0, _, _ => False
  | n + 1, S, x2 =>
    (((S.2.2 4) ≤ x2 →
      K S ) ∧
    (¬ (S.2.2 4) ≤ x2 →
      vp_in x2 8 ∧
      wX2_shareOn S (S.1 12 x2.toNatClampNeg) x1 fun r_2 S_1 =>
      vp_in x2 8 ∧
      ∀ S_3 : MS, S_3 = uI S_1 13 x2.toNatClampNeg r_2 →
      LX1_takeSharesOn_2 x1 K Q n S_3 (x2 + 1)))
def wX1_takeSharesOn (S : MS) (x1 : Int32) (Q : MS → Prop) : Prop :=
  ∃ n0 : Nat, LX1_takeSharesOn_2 x1 (fun S_1 =>
    Q S_1) Q n0 S 0
def LX1_sum_45 (x1 : Int32) (x2 : Int32) (x3 : Int64) (K : MS → Prop) (Q : Int64 → MS → Prop) : Nat → MS → Int32 → Prop
  | 0, _, _ => False
  | n + 1, S, x5 =>
    ((x2 ≤ x5 →
      K S ) ∧
    (¬ x2 ≤ x5 →
      vp_in x5 256 ∧
      vp_in (x5 + x2) 256 ∧
      vp_in x5 256 ∧
      ∀ S_1 : MS, S_1 = uL S 3 x5.toNatClampNeg (((64 - x3) * (S.2.1 3 x5.toNatClampNeg)) + (x3 * (S.2.1 3 (x5 + x2).toNatClampNeg))) →
      LX1_sum_45 x1 x2 x3 K Q n S_1 (x5 + 1)))
def LX1_sum_26 (K : MS → Prop) (Q : Int64 → MS → Prop) : Nat → MS → Int32 → Prop
  | 0, _, _ => False
  | n + 1, S, x1 =>
    ((x1 < 0 →
      K S ) ∧
    (¬ x1 < 0 →
      vp_in x1 8 ∧
      ∃ n0 : Nat, LX1_sum_45 x1 ((1 : Int32) <<< (x1 &&& 31)) ((S.1 13 x1.toNatClampNeg).toInt64) (fun S_1 =>
        LX1_sum_26 K Q n S_1 (x1 + (-1))) Q n0 S 0))
def wX1_sum (S : MS) (Q : Int64 → MS → Prop) : Prop :=
  ¬ ((1 : Int32) <<< ((S.2.2 4) &&& 31)) < 0 ∧ ((1 : Int32) <<< ((S.2.2 4) &&& 31)).toNatClampNeg ≤ 256 ∧ ((1 : Int32) <<< ((S.2.2 4) &&& 31)).toNatClampNeg ≤ 256 ∧
  ∀ S_1 : MS, S_1 = uC S 3 (va_cpy (S.2.1 2) (S.2.1 3) 0 0 ((1 : Int32) <<< ((S.2.2 4) &&& 31)).toNatClampNeg) →
  ∃ n0 : Nat, LX1_sum_26 (fun S_2 =>
    vp_in 0 256 ∧
    Q (jlshl (S_2.2.1 3 (0 : Int32).toNatClampNeg) (6 * (8 - (S_2.2.2 5)))) S_2) Q n0 S_1 ((S_1.2.2 4) - 1)
def wX1_onDay (S : MS) (x1 : Int32) (Q : Int64 → MS → Prop) : Prop :=
  wX1_takeSharesOn S x1 fun S_1 =>
  wX1_sum S_1 fun r_4 S_3 =>
  Q r_4 S_3
def wX2_shareForNothing (S : MS) (x1 : Int32) (Q : Int32 → MS → Prop) : Prop :=
  vp_in x1 12 ∧
  Q (S.1 2 x1.toNatClampNeg) S
def JX1_forNothing_41 (S : MS) (x1 : Int32) (x2 : Int32) (x3 : Int32) (t0 : Int32) (t1 : Int64) (Hd : MS → Int32 → Prop) (K : MS → Prop) (Q : Int64 → MS → Prop) : Prop :=
  vp_in t0 256 ∧
  ∀ S_1 : MS, S_1 = uL S 2 t0.toNatClampNeg t1 →
  Hd S_1 (x3 + 1)
def LX1_forNothing_14 (x1 : Int32) (x2 : Int32) (K : MS → Prop) (Q : Int64 → MS → Prop) : Nat → MS → Int32 → Prop
  | 0, _, _ => False
  | n + 1, S, x3 =>
    ((x2 ≤ x3 →
      K S ) ∧
    (¬ x2 ≤ x3 →
      wX4_actsIn S x1 x3 fun r_2 S_1 =>
      ((r_2 = 0 →
        JX1_forNothing_41 S_1 x1 x2 x3 x3 0 (fun S a3 => LX1_forNothing_14 x1 x2 K Q n S a3) K Q) ∧
      (¬ r_2 = 0 →
        JX1_forNothing_41 S_1 x1 x2 x3 x3 1 (fun S a3 => LX1_forNothing_14 x1 x2 K Q n S a3) K Q))))
def LX1_forNothing_50 (K : MS → Prop) (Q : Int64 → MS → Prop) : Nat → MS → Int32 → Prop
  | 0, _, _ => False
  | n + 1, S, x3 =>
    (((S.2.2 4) ≤ x3 →
      K S ) ∧
    (¬ (S.2.2 4) ≤ x3 →
      vp_in x3 8 ∧
      wX2_shareForNothing S (S.1 12 x3.toNatClampNeg) fun r_2 S_1 =>
      vp_in x3 8 ∧
      ∀ S_3 : MS, S_3 = uI S_1 13 x3.toNatClampNeg r_2 →
      LX1_forNothing_50 K Q n S_3 (x3 + 1)))
def wX1_forNothing (S : MS) (x1 : Int32) (Q : Int64 → MS → Prop) : Prop :=
  wX1_takeMembers S x1 fun S_1 =>
  ∀ v_3 : Int32, v_3 = ((1 : Int32) <<< ((S_1.2.2 4) &&& 31)) →
  ∃ n0 : Nat, LX1_forNothing_14 x1 v_3 (fun S_4 =>
    ∃ n0 : Nat, LX1_forNothing_50 (fun S_5 =>
      wX1_sum S_5 fun r_7 S_6 =>
      Q r_7 S_6) Q n0 S_4 0) Q n0 S_1 0
def wX1_weightAt (S : MS) (x1 : Int32) (Q : Int64 → MS → Prop) : Prop :=
  vp_in x1 8 ∧
  vp_in x1 8 ∧
  ∀ S_1 : MS, S_1 = uI S 13 x1.toNatClampNeg 64 →
  wX1_sum S_1 fun r_3 S_2 =>
  vp_in x1 8 ∧
  ∀ S_4 : MS, S_4 = uI S_2 13 x1.toNatClampNeg 0 →
  wX1_sum S_4 fun r_6 S_5 =>
  vp_in x1 8 ∧
  ∀ S_7 : MS, S_7 = uI S_5 13 x1.toNatClampNeg (S.1 13 x1.toNatClampNeg) →
  Q (r_3 - r_6) S_7
def LX1_weightOf_7 (x1 : Int32) (K : MS → Prop) (Q : Int64 → MS → Prop) : Nat → MS → Int32 → Prop
  | 0, _, _ => False
  | n + 1, S, x3 =>
    (((S.2.2 4) ≤ x3 →
      K S ) ∧
    (¬ (S.2.2 4) ≤ x3 →
      vp_in x3 8 ∧
      (((S.1 12 x3.toNatClampNeg) = x1 →
        wX1_weightAt S x3 fun r_2 S_1 =>
        Q r_2 S_1) ∧
      (¬ (S.1 12 x3.toNatClampNeg) = x1 →
        LX1_weightOf_7 x1 K Q n S (x3 + 1)))))
def wX1_weightOf (S : MS) (x1 : Int32) (x2 : Int32) (Q : Int64 → MS → Prop) : Prop :=
  wX1_takeSharesOn S x2 fun S_1 =>
  ∃ n0 : Nat, LX1_weightOf_7 x1 (fun S_3 =>
    Q 0 S_3) Q n0 S_1 0
def JX1_weightiestPart_46 (S : MS) (x2 : Int32) (x3 : Int64) (x5 : Int32) (Hd : MS → Int32 → Int64 → Int32 → Prop) (K : MS → Int32 → Prop) (Q : Int32 → MS → Prop) : Prop :=
  Hd S x2 x3 (x5 + 1)
def LX1_weightiestPart_16 (K : MS → Int32 → Prop) (Q : Int32 → MS → Prop) : Nat → MS → Int32 → Int64 → Int32 → Prop
  | 0, _, _, _, _ => False
  | n + 1, S, x2, x3, x5 =>
    (((S.2.2 4) ≤ x5 →
      K S x2) ∧
    (¬ (S.2.2 4) ≤ x5 →
      wX1_weightAt S x5 fun r_2 S_1 =>
      (((lg_cmp r_2 x3) ≤ 0 →
        JX1_weightiestPart_46 S_1 x2 x3 x5 (fun S a2 a3 a5 => LX1_weightiestPart_16 K Q n S a2 a3 a5) K Q) ∧
      (¬ (lg_cmp r_2 x3) ≤ 0 →
        JX1_weightiestPart_46 S_1 x5 r_2 x5 (fun S a2 a3 a5 => LX1_weightiestPart_16 K Q n S a2 a3 a5) K Q))))
def wX1_weightiestPart (S : MS) (x1 : Int32) (Q : Int32 → MS → Prop) : Prop :=
  wX1_takeSharesOn S x1 fun S_1 =>
  wX1_weightAt S_1 0 fun r_4 S_3 =>
  ∃ n0 : Nat, LX1_weightiestPart_16 (fun S_5 y_6 =>
    vp_in y_6 8 ∧
    Q (S_5.1 12 y_6.toNatClampNeg) S_5) Q n0 S_3 0 r_4 1
def wX1_memberCount (S : MS) (Q : Int32 → MS → Prop) : Prop :=
  Q (S.2.2 4) S
def wX1_memberAt (S : MS) (x1 : Int32) (Q : Int32 → MS → Prop) : Prop :=
  vp_in x1 8 ∧
  Q (S.1 12 x1.toNatClampNeg) S
def wX1_setShare (S : MS) (x1 : Int32) (x2 : Int32) (Q : MS → Prop) : Prop :=
  vp_in x1 8 ∧
  ∀ S_1 : MS, S_1 = uI S 13 x1.toNatClampNeg x2 →
  Q S_1
def wX2_has (S : MS) (x1 : Int32) (Q : Int32 → MS → Prop) : Prop :=
  ((x1 < 0 →
    Q 0 S) ∧
  (¬ x1 < 0 →
    (((S.2.2 1) ≤ x1 →
      Q 0 S) ∧
    (¬ (S.2.2 1) ≤ x1 →
      Q 1 S))))
def wX2_hasAll (S : MS) (x1 : Int32) (Q : Int32 → MS → Prop) : Prop :=
  (((jiushr x1 (S.2.2 1)) = 0 →
    Q 1 S) ∧
  (¬ (jiushr x1 (S.2.2 1)) = 0 →
    Q 0 S))
def wX2_size (S : MS) (Q : Int32 → MS → Prop) : Prop :=
  Q (S.2.2 1) S
def wX2_add (S : MS) (x1 : Int32) (x2 : Int32) (x3 : Int32) (Q : Int32 → MS → Prop) : Prop :=
  (((S.2.2 1) < 12 →
    vp_in (S.2.2 1) 12 ∧
    ∀ S_1 : MS, S_1 = uI S 0 (S.2.2 1).toNatClampNeg x1 →
    vp_in (S_1.2.2 1) 12 ∧
    ∀ S_2 : MS, S_2 = uI S_1 1 (S_1.2.2 1).toNatClampNeg x2 →
    vp_in (S_2.2.2 1) 12 ∧
    ∀ S_3 : MS, S_3 = uI S_2 2 (S_2.2.2 1).toNatClampNeg x3 →
    vp_in (S_3.2.2 1) 12 ∧
    ∀ S_4 : MS, S_4 = uI S_3 3 (S_3.2.2 1).toNatClampNeg 1 →
    ∀ S_5 : MS, S_5 = uF S_4 1 ((S_4.2.2 1) + 1) →
    Q ((S_5.2.2 1) - 1) S_5) ∧
  (¬ (S.2.2 1) < 12 →
    Q (-3) S))
def JX2_addTest_31 (S : MS) (x1 : Int32) (x2 : Int32) (x3 : Int32) (Q : Int32 → MS → Prop) : Prop :=
  ((x3 < 12 →
    vp_in ((x1 * 12) + x3) 144 ∧
    ∀ S_1 : MS, S_1 = uI S 5 ((x1 * 12) + x3).toNatClampNeg x2 →
    vp_in x1 12 ∧
    ∀ S_2 : MS, S_2 = uI S_1 4 x1.toNatClampNeg (x3 + 1) →
    Q (x3 + 1) S_2) ∧
  (¬ x3 < 12 →
    Q (-3) S))
def wX2_addTest (S : MS) (x1 : Int32) (x2 : Int32) (Q : Int32 → MS → Prop) : Prop :=
  vp_in x1 12 ∧
  (((S.1 4 x1.toNatClampNeg) ≤ 0 →
    JX2_addTest_31 S x1 x2 (S.1 4 x1.toNatClampNeg) Q) ∧
  (¬ (S.1 4 x1.toNatClampNeg) ≤ 0 →
    vp_in (((x1 * 12) + (S.1 4 x1.toNatClampNeg)) - 1) 144 ∧
    (((S.1 5 (((x1 * 12) + (S.1 4 x1.toNatClampNeg)) - 1).toNatClampNeg) < x2 →
      JX2_addTest_31 S x1 x2 (S.1 4 x1.toNatClampNeg) Q) ∧
    (¬ (S.1 5 (((x1 * 12) + (S.1 4 x1.toNatClampNeg)) - 1).toNatClampNeg) < x2 →
      Q (-2) S))))
def wX2_dropTests (S : MS) (x1 : Int32) (x2 : Int32) (Q : Int32 → MS → Prop) : Prop :=
  wX2_testsUpTo S x1 (x2 - 1) fun r_2 S_1 =>
  vp_in x1 12 ∧
  vp_in x1 12 ∧
  ∀ S_3 : MS, S_3 = uI S_1 4 x1.toNatClampNeg r_2 →
  Q ((S_1.1 4 x1.toNatClampNeg) - r_2) S_3
def LX2_allTests_4 (K : MS → Int32 → Prop) (Q : Int32 → MS → Prop) : Nat → MS → Int32 → Int32 → Prop
  | 0, _, _, _ => False
  | n + 1, S, x1, x2 =>
    (((S.2.2 1) ≤ x2 →
      K S x1) ∧
    (¬ (S.2.2 1) ≤ x2 →
      vp_in x2 12 ∧
      LX2_allTests_4 K Q n S (x1 + (S.1 4 x2.toNatClampNeg)) (x2 + 1)))
def wX2_allTests (S : MS) (Q : Int32 → MS → Prop) : Prop :=
  ∃ n0 : Nat, LX2_allTests_4 (fun S_1 y_2 =>
    Q y_2 S_1) Q n0 S 0 0
def wX2_allBypasses (S : MS) (Q : Int32 → MS → Prop) : Prop :=
  Q (S.2.2 0) S
def wX2_daysInWord (S : MS) (x0 : Int32) (x1 : Int32) (x2 : Int32) (Q : Int64 → MS → Prop) : Prop :=
  ∀ v_1 : Int32, v_1 = (if (x1 - (x0 * 64)) < 0 then 0 else (x1 - (x0 * 64))) →
  ∀ v_2 : Int32, v_2 = (if 63 < (x2 - (x0 * 64)) then 63 else (x2 - (x0 * 64))) →
  ((v_1 ≤ v_2 →
    Q ((jlshl (-1) v_1) &&& (jlushr (-1) (63 - v_2))) S) ∧
  (¬ v_1 ≤ v_2 →
    Q 0 S))
def LX2_addBypass_15 (x1 : Int32) (x2 : Int32) (x3 : Int32) (K : MS → Prop) (Q : Int32 → MS → Prop) : Nat → MS → Int32 → Prop
  | 0, _, _ => False
  | n + 1, S, x4 =>
    (((16 : Int32) ≤ x4 →
      K S ) ∧
    (¬ (16 : Int32) ≤ x4 →
      vp_in ((x1 * 16) + x4) 192 ∧
      wX2_daysInWord S x4 x2 x3 fun r_2 S_1 =>
      vp_in ((x1 * 16) + x4) 192 ∧
      ∀ S_3 : MS, S_3 = uL S_1 0 ((x1 * 16) + x4).toNatClampNeg ((S.2.1 0 ((x1 * 16) + x4).toNatClampNeg) ||| r_2) →
      LX2_addBypass_15 x1 x2 x3 K Q n S_3 (x4 + 1)))
def wX2_addBypass (S : MS) (x1 : Int32) (x2 : Int32) (x3 : Int32) (Q : Int32 → MS → Prop) : Prop :=
  (((S.2.2 0) < 20 →
    ∃ n0 : Nat, LX2_addBypass_15 x1 x2 x3 (fun S_1 =>
      ∀ S_2 : MS, S_2 = uF S_1 0 ((S_1.2.2 0) + 1) →
      Q (S_2.2.2 0) S_2) Q n0 S 0) ∧
  (¬ (S.2.2 0) < 20 →
    Q (-3) S))
def wJ13_bitCount_95d88 (S : MS) (x0 : Int64) (Q : Int32 → MS → Prop) : Prop :=
  ∀ v_1 : Int64, v_1 = (x0 - ((jlushr x0 1) &&& 6148914691236517205)) →
  ∀ v_2 : Int64, v_2 = ((v_1 &&& 3689348814741910323) + ((jlushr v_1 2) &&& 3689348814741910323)) →
  ∀ v_3 : Int64, v_3 = ((v_2 + (jlushr v_2 4)) &&& 1085102592571150095) →
  ∀ v_4 : Int64, v_4 = ((v_3 + (jlushr v_3 8)) + (jlushr (v_3 + (jlushr v_3 8)) 16)) →
  Q ((v_4 + (jlushr v_4 32)).toInt32 &&& 127) S
def LX2_bypassedDays_6 (x1 : Int32) (x2 : Int32) (x3 : Int32) (K : MS → Int32 → Prop) (Q : Int32 → MS → Prop) : Nat → MS → Int32 → Int32 → Prop
  | 0, _, _, _ => False
  | n + 1, S, x4, x5 =>
    (((16 : Int32) ≤ x5 →
      K S x4) ∧
    (¬ (16 : Int32) ≤ x5 →
      vp_in ((x1 * 16) + x5) 192 ∧
      wX2_daysInWord S x5 x2 x3 fun r_2 S_1 =>
      wJ13_bitCount_95d88 S_1 ((S.2.1 0 ((x1 * 16) + x5).toNatClampNeg) &&& r_2) fun r_4 S_3 =>
      LX2_bypassedDays_6 x1 x2 x3 K Q n S_3 (x4 + r_4) (x5 + 1)))
def wX2_bypassedDays (S : MS) (x1 : Int32) (x2 : Int32) (x3 : Int32) (Q : Int32 → MS → Prop) : Prop :=
  ∃ n0 : Nat, LX2_bypassedDays_6 x1 x2 x3 (fun S_1 y_2 =>
    Q y_2 S_1) Q n0 S 0 0
def wX2_changeCost (S : MS) (x1 : Int32) (x2 : Int32) (Q : Int32 → MS → Prop) : Prop :=
  vp_in x1 12 ∧
  vp_in x1 12 ∧
  ∀ S_1 : MS, S_1 = uI S 3 x1.toNatClampNeg x2 →
  Q (S.1 3 x1.toNatClampNeg) S_1
def wX2_costOf (S : MS) (x1 : Int32) (Q : Int32 → MS → Prop) : Prop :=
  vp_in x1 12 ∧
  Q (S.1 3 x1.toNatClampNeg) S
def wX3_setIntervals (S : MS) (x1 : Int32) (x2 : Int32) (x3 : Int32) (Q : MS → Prop) : Prop :=
  vp_in 0 3 ∧
  ∀ S_1 : MS, S_1 = uI S 14 (0 : Int32).toNatClampNeg x1 →
  vp_in 1 3 ∧
  ∀ S_2 : MS, S_2 = uI S_1 14 (1 : Int32).toNatClampNeg x2 →
  vp_in 2 3 ∧
  ∀ S_3 : MS, S_3 = uI S_2 14 (2 : Int32).toNatClampNeg x3 →
  Q S_3
def wX3_cheapestCost (S : MS) (Q : Int32 → MS → Prop) : Prop :=
  Q (S.2.2 6) S
def wX3_cheapestChoices (S : MS) (Q : Int32 → MS → Prop) : Prop :=
  Q (S.2.2 7) S
def LX3_takeChoices_12 (K : MS → Prop) (Q : MS → Prop) : Nat → MS → Int32 → Int32 → Prop
  | 0, _, _, _ => False
  | n + 1, S, x2, x3 =>
    ((x3 < 0 →
      K S ) ∧
    (¬ x3 < 0 →
      vp_in x3 3 ∧
      ∀ S_1 : MS, S_1 = uI S 15 x3.toNatClampNeg (x2 - x2 / 3 * 3) →
      LX3_takeChoices_12 K Q n S_1 (x2 / 3) (x3 + (-1))))
def wX3_takeChoices (S : MS) (x1 : Int32) (Q : MS → Prop) : Prop :=
  wX1_memberCount S fun r_2 S_1 =>
  ∃ n0 : Nat, LX3_takeChoices_12 (fun S_3 =>
    Q S_3) Q n0 S_1 x1 (r_2 - 1)
def LX3_costOfChoices_4 (K : MS → Int32 → Prop) (Q : Int32 → MS → Prop) : Nat → MS → Int32 → Int32 → Prop
  | 0, _, _, _ => False
  | n + 1, S, x1, x2 =>
    wX1_memberCount S fun r_2 S_1 =>
    ((r_2 ≤ x2 →
      K S_1 x1) ∧
    (¬ r_2 ≤ x2 →
      wX1_memberAt S_1 x2 fun r_4 S_3 =>
      wX2_costOf S_3 r_4 fun r_6 S_5 =>
      vp_in x2 3 ∧
      vp_in (S_5.1 15 x2.toNatClampNeg) 3 ∧
      ¬ (S_5.1 14 (S_5.1 15 x2.toNatClampNeg).toNatClampNeg) = 0 ∧
      ∀ v_7 : Int32, v_7 = (x1 + (r_6 * (100 / (S_5.1 14 (S_5.1 15 x2.toNatClampNeg).toNatClampNeg)))) →
      LX3_costOfChoices_4 K Q n S_5 v_7 (x2 + 1)))
def wX3_costOfChoices (S : MS) (Q : Int32 → MS → Prop) : Prop :=
  ∃ n0 : Nat, LX3_costOfChoices_4 (fun S_1 y_2 =>
    Q y_2 S_1) Q n0 S 0 0
def LX3_keepsLaw_21 (x1 : Int64) (x3 : Int64) (x5 : Int32) (K : MS → Prop) (Q : Int32 → MS → Prop) : Nat → MS → Int32 → Prop
  | 0, _, _ => False
  | n + 1, S, x6 =>
    wX1_memberCount S fun r_2 S_1 =>
    ((r_2 ≤ x6 →
      K S_1 ) ∧
    (¬ r_2 ≤ x6 →
      vp_in x6 3 ∧
      vp_in (S_1.1 15 x6.toNatClampNeg) 3 ∧
      ¬ (S_1.1 14 (S_1.1 15 x6.toNatClampNeg).toNatClampNeg) = 0 ∧
      ∀ v_3 : Int32, v_3 = (x5 - x5 / (S_1.1 14 (S_1.1 15 x6.toNatClampNeg).toNatClampNeg) * (S_1.1 14 (S_1.1 15 x6.toNatClampNeg).toNatClampNeg)) →
      wX1_memberAt S_1 x6 fun r_5 S_4 =>
      wX2_shareAfter S_4 r_5 x5 v_3 fun r_7 S_6 =>
      wX1_setShare S_6 x6 r_7 fun S_8 =>
      LX3_keepsLaw_21 x1 x3 x5 K Q n S_8 (x6 + 1)))
def LX3_keepsLaw_5 (x1 : Int64) (K : MS → Int64 → Prop) (Q : Int32 → MS → Prop) : Nat → MS → Int64 → Int32 → Prop
  | 0, _, _, _ => False
  | n + 1, S, x3, x5 =>
    (((100 : Int32) ≤ x5 →
      K S x3) ∧
    (¬ (100 : Int32) ≤ x5 →
      (((0 : Int32) < (lg_cmp x3 x1) →
        K S x3) ∧
      (¬ (0 : Int32) < (lg_cmp x3 x1) →
        ∃ n0 : Nat, LX3_keepsLaw_21 x1 x3 x5 (fun S_1 =>
          wX1_sum S_1 fun r_3 S_2 =>
          LX3_keepsLaw_5 x1 K Q n S_2 (x3 + r_3) (x5 + 1)) Q n0 S 0))))
def wX3_keepsLaw (S : MS) (x1 : Int64) (Q : Int32 → MS → Prop) : Prop :=
  ∃ n0 : Nat, LX3_keepsLaw_5 x1 (fun S_1 y_2 =>
    (((0 : Int32) < (lg_cmp y_2 x1) →
      Q 0 S_1) ∧
    (¬ (0 : Int32) < (lg_cmp y_2 x1) →
      Q 1 S_1))) Q n0 S 0 0
def LX3_toldChoices_12 (K : MS → Int32 → Prop) (Q : Int32 → MS → Prop) : Nat → MS → Int32 → Int32 → Prop
  | 0, _, _, _ => False
  | n + 1, S, x1, x2 =>
    ((x2 < 0 →
      K S x1) ∧
    (¬ x2 < 0 →
      vp_in x2 3 ∧
      ∀ v_1 : Int32, v_1 = ((x1 * 3) + (S.1 15 x2.toNatClampNeg)) →
      LX3_toldChoices_12 K Q n S v_1 (x2 + (-1))))
def wX3_toldChoices (S : MS) (Q : Int32 → MS → Prop) : Prop :=
  wX1_memberCount S fun r_2 S_1 =>
  ∃ n0 : Nat, LX3_toldChoices_12 (fun S_3 y_4 =>
    Q y_4 S_3) Q n0 S_1 0 (r_2 - 1)
def LX3_findCheapest_14 (x2 : Int64) (K : MS → Int32 → Prop) (Q : Int32 → MS → Prop) : Nat → MS → Int32 → Int32 → Prop
  | 0, _, _, _ => False
  | n + 1, S, x4, x5 =>
    wX1_memberCount S fun r_2 S_1 =>
    ((r_2 ≤ x5 →
      K S_1 x4) ∧
    (¬ r_2 ≤ x5 →
      LX3_findCheapest_14 x2 K Q n S_1 (x4 * 3) (x5 + 1)))
def JX3_findCheapest_102 (S : MS) (x2 : Int64) (x4 : Int32) (x5 : Int32) (x6 : Int32) (Hd : MS → Int32 → Int32 → Prop) (K : MS → Int32 → Prop) (Q : Int32 → MS → Prop) : Prop :=
  Hd S x5 (x6 + 1)
def JX3_findCheapest_77 (S : MS) (x2 : Int64) (x4 : Int32) (x5 : Int32) (x6 : Int32) (x7 : Int32) (Hd : MS → Int32 → Int32 → Prop) (K : MS → Int32 → Prop) (Q : Int32 → MS → Prop) : Prop :=
  wX3_keepsLaw S x2 fun r_2 S_1 =>
  ((r_2 = 0 →
    JX3_findCheapest_102 S_1 x2 x4 x5 x6 Hd K Q) ∧
  (¬ r_2 = 0 →
    ∀ S_3 : MS, S_3 = uF S_1 6 x7 →
    wX3_toldChoices S_3 fun r_5 S_4 =>
    ∀ S_6 : MS, S_6 = uF S_4 7 r_5 →
    JX3_findCheapest_102 S_6 x2 x4 1 x6 Hd K Q))
def LX3_findCheapest_44 (x2 : Int64) (x4 : Int32) (K : MS → Int32 → Prop) (Q : Int32 → MS → Prop) : Nat → MS → Int32 → Int32 → Prop
  | 0, _, _, _ => False
  | n + 1, S, x5, x6 =>
    ((x4 ≤ x6 →
      K S x5) ∧
    (¬ x4 ≤ x6 →
      wX3_takeChoices S x6 fun S_1 =>
      wX3_costOfChoices S_1 fun r_4 S_3 =>
      ((x5 = 0 →
        JX3_findCheapest_77 S_3 x2 x4 x5 x6 r_4 (fun S a5 a6 => LX3_findCheapest_44 x2 x4 K Q n S a5 a6) K Q) ∧
      (¬ x5 = 0 →
        (((S_3.2.2 6) ≤ r_4 →
          JX3_findCheapest_102 S_3 x2 x4 x5 x6 (fun S a5 a6 => LX3_findCheapest_44 x2 x4 K Q n S a5 a6) K Q) ∧
        (¬ (S_3.2.2 6) ≤ r_4 →
          JX3_findCheapest_77 S_3 x2 x4 x5 x6 r_4 (fun S a5 a6 => LX3_findCheapest_44 x2 x4 K Q n S a5 a6) K Q))))))
def wX3_findCheapest (S : MS) (x1 : Int32) (x2 : Int64) (Q : Int32 → MS → Prop) : Prop :=
  wX1_startFailing S x1 fun S_1 =>
  ∃ n0 : Nat, LX3_findCheapest_14 x2 (fun S_3 y_4 =>
    ∃ n0 : Nat, LX3_findCheapest_44 x2 y_4 (fun S_5 y_6 =>
      narrow .boolean (.int y_6) = .int y_6 ∧ Q y_6 S_5) Q n0 S_3 0 0) Q n0 S_1 1 0
def wX4_has (S : MS) (x1 : Int32) (Q : Int32 → MS → Prop) : Prop :=
  ((x1 < 0 →
    Q 0 S) ∧
  (¬ x1 < 0 →
    (((S.2.2 3) ≤ x1 →
      Q 0 S) ∧
    (¬ (S.2.2 3) ≤ x1 →
      Q 1 S))))
def wX4_size (S : MS) (Q : Int32 → MS → Prop) : Prop :=
  Q (S.2.2 3) S
def wX4_partsOfInput (S : MS) (x1 : Int32) (Q : Int32 → MS → Prop) : Prop :=
  (((12 : Int32) ≤ x1 →
    vp_in (x1 - 12) 12 ∧
    Q (S.1 11 (x1 - 12).toNatClampNeg) S) ∧
  (¬ (12 : Int32) ≤ x1 →
    Q ((1 : Int32) <<< (x1 &&& 31)) S))
def JX5_spread_37 (S : MS) (x0 : Int32) (x1 : Int32) (x2 : Int32) (x3 : Int32) (x4 : Int32) (Hd : MS → Int32 → Int32 → Int32 → Prop) (K : MS → Int32 → Prop) (Q : Int32 → MS → Prop) : Prop :=
  Hd S x2 x3 (x4 + 1)
def LX5_spread_7 (x0 : Int32) (x1 : Int32) (K : MS → Int32 → Prop) (Q : Int32 → MS → Prop) : Nat → MS → Int32 → Int32 → Int32 → Prop
  | 0, _, _, _, _ => False
  | n + 1, S, x2, x3, x4 =>
    (((12 : Int32) ≤ x4 →
      K S x2) ∧
    (¬ (12 : Int32) ≤ x4 →
      wX5_hasBit S x1 x4 fun r_2 S_1 =>
      ((r_2 = 0 →
        JX5_spread_37 S_1 x0 x1 x2 x3 x4 (fun S a2 a3 a4 => LX5_spread_7 x0 x1 K Q n S a2 a3 a4) K Q) ∧
      (¬ r_2 = 0 →
        ∀ v_3 : Int32, v_3 = (x2 ||| (((jiushr x0 x3) &&& 1) <<< (x4 &&& 31))) →
        JX5_spread_37 S_1 x0 x1 v_3 (x3 + 1) x4 (fun S a2 a3 a4 => LX5_spread_7 x0 x1 K Q n S a2 a3 a4) K Q))))
def wX5_spread (S : MS) (x0 : Int32) (x1 : Int32) (Q : Int32 → MS → Prop) : Prop :=
  ∃ n0 : Nat, LX5_spread_7 x0 x1 (fun S_1 y_2 =>
    Q y_2 S_1) Q n0 S 0 0 0
def wX4_inputActs (S : MS) (x1 : Int32) (x2 : Int32) (Q : Int32 → MS → Prop) : Prop :=
  (((12 : Int32) ≤ x1 →
    vp_in (x1 - 12) 12 ∧
    wX5_packed S x2 (S.1 11 (x1 - 12).toNatClampNeg) fun r_2 S_1 =>
    wX4_actsIn S_1 (x1 - 12) r_2 fun r_4 S_3 =>
    narrow .boolean (.int r_4) = .int r_4 ∧ Q r_4 S_3) ∧
  (¬ (12 : Int32) ≤ x1 →
    wX5_hasBit S x2 x1 fun r_6 S_5 =>
    narrow .boolean (.int r_6) = .int r_6 ∧ Q r_6 S_5))
def JX4_actingInputs_38 (S : MS) (x1 : Int32) (x2 : Int32) (x3 : Int32) (x4 : Int32) (Hd : MS → Int32 → Int32 → Prop) (K : MS → Int32 → Prop) (Q : Int32 → MS → Prop) : Prop :=
  Hd S x3 (x4 + 1)
def LX4_actingInputs_5 (x1 : Int32) (x2 : Int32) (K : MS → Int32 → Prop) (Q : Int32 → MS → Prop) : Nat → MS → Int32 → Int32 → Prop
  | 0, _, _, _ => False
  | n + 1, S, x3, x4 =>
    vp_in x1 12 ∧
    (((S.1 9 x1.toNatClampNeg) ≤ x4 →
      K S x3) ∧
    (¬ (S.1 9 x1.toNatClampNeg) ≤ x4 →
      vp_in ((x1 * 4) + x4) 48 ∧
      wX4_inputActs S (S.1 10 ((x1 * 4) + x4).toNatClampNeg) x2 fun r_2 S_1 =>
      ((r_2 = 0 →
        JX4_actingInputs_38 S_1 x1 x2 x3 x4 (fun S a3 a4 => LX4_actingInputs_5 x1 x2 K Q n S a3 a4) K Q) ∧
      (¬ r_2 = 0 →
        JX4_actingInputs_38 S_1 x1 x2 (x3 + 1) x4 (fun S a3 a4 => LX4_actingInputs_5 x1 x2 K Q n S a3 a4) K Q))))
def wX4_actingInputs (S : MS) (x1 : Int32) (x2 : Int32) (Q : Int32 → MS → Prop) : Prop :=
  ∃ n0 : Nat, LX4_actingInputs_5 x1 x2 (fun S_1 y_2 =>
    Q y_2 S_1) Q n0 S 0 0
def JX4_workOutActingSets_61 (S : MS) (x1 : Int32) (x2 : Int32) (x3 : Int32) (Hd : MS → Int32 → Prop) (K : MS → Prop) (Q : MS → Prop) : Prop :=
  Hd S (x3 + 1)
def LX4_workOutActingSets_10 (x1 : Int32) (x2 : Int32) (K : MS → Prop) (Q : MS → Prop) : Nat → MS → Int32 → Prop
  | 0, _, _ => False
  | n + 1, S, x3 =>
    ((x2 ≤ x3 →
      K S ) ∧
    (¬ x2 ≤ x3 →
      vp_in x1 12 ∧
      wX5_spread S x3 (S.1 11 x1.toNatClampNeg) fun r_2 S_1 =>
      wX4_actingInputs S_1 x1 r_2 fun r_4 S_3 =>
      vp_in x1 12 ∧
      ((r_4 < (S_3.1 8 x1.toNatClampNeg) →
        JX4_workOutActingSets_61 S_3 x1 x2 x3 (fun S a3 => LX4_workOutActingSets_10 x1 x2 K Q n S a3) K Q) ∧
      (¬ r_4 < (S_3.1 8 x1.toNatClampNeg) →
        vp_in ((x1 * 4) + (x3 >>> ((6 : Int32) &&& 31))) 48 ∧
        vp_in ((x1 * 4) + (x3 >>> ((6 : Int32) &&& 31))) 48 ∧
        ∀ S_5 : MS, S_5 = uL S_3 1 ((x1 * 4) + (x3 >>> ((6 : Int32) &&& 31))).toNatClampNeg ((S_3.2.1 1 ((x1 * 4) + (x3 >>> ((6 : Int32) &&& 31))).toNatClampNeg) ||| (jlshl 1 (x3 &&& 63))) →
        JX4_workOutActingSets_61 S_5 x1 x2 x3 (fun S a3 => LX4_workOutActingSets_10 x1 x2 K Q n S a3) K Q))))
def wX4_workOutActingSets (S : MS) (x1 : Int32) (Q : MS → Prop) : Prop :=
  wX4_sizeBelow S x1 fun r_2 S_1 =>
  ∃ n0 : Nat, LX4_workOutActingSets_10 x1 ((1 : Int32) <<< (r_2 &&& 31)) (fun S_3 =>
    Q S_3) Q n0 S_1 0
def LX4_add_37 (x2 : Int32) (x4 : Int32) (K : MS → Prop) (Q : Int32 → MS → Prop) : Nat → MS → Int32 → Prop
  | 0, _, _ => False
  | n + 1, S, x5 =>
    ((x2 ≤ x5 →
      K S ) ∧
    (¬ x2 ≤ x5 →
      vp_in x5 4 ∧
      vp_in ((x4 * 4) + x5) 48 ∧
      ∀ S_1 : MS, S_1 = uI S 10 ((x4 * 4) + x5).toNatClampNeg (S.1 16 x5.toNatClampNeg) →
      vp_in x4 12 ∧
      vp_in x5 4 ∧
      wX4_partsOfInput S_1 (S_1.1 16 x5.toNatClampNeg) fun r_3 S_2 =>
      vp_in x4 12 ∧
      ∀ S_4 : MS, S_4 = uI S_2 11 x4.toNatClampNeg ((S_1.1 11 x4.toNatClampNeg) ||| r_3) →
      LX4_add_37 x2 x4 K Q n S_4 (x5 + 1)))
def JX4_add_100 (S : MS) (x4 : Int32) (Q : Int32 → MS → Prop) : Prop :=
  ∀ S_1 : MS, S_1 = uF S 3 ((S.2.2 3) + 1) →
  Q x4 S_1
def wX4_add (S : MS) (x1 : Int32) (x2 : Int32) (Q : Int32 → MS → Prop) : Prop :=
  (((S.2.2 3) < 12 →
    vp_in (S.2.2 3) 12 ∧
    ∀ S_1 : MS, S_1 = uI S 8 (S.2.2 3).toNatClampNeg x1 →
    vp_in (S.2.2 3) 12 ∧
    ∀ S_2 : MS, S_2 = uI S_1 9 (S.2.2 3).toNatClampNeg x2 →
    ∃ n0 : Nat, LX4_add_37 x2 (S.2.2 3) (fun S_3 =>
      wX4_sizeBelow S_3 (S.2.2 3) fun r_5 S_4 =>
      (((8 : Int32) < r_5 →
        JX4_add_100 S_4 (S.2.2 3) Q) ∧
      (¬ (8 : Int32) < r_5 →
        wX4_workOutActingSets S_4 (S.2.2 3) fun S_6 =>
        JX4_add_100 S_6 (S.2.2 3) Q))) Q n0 S_2 0) ∧
  (¬ (S.2.2 3) < 12 →
    Q (-3) S))
def wX5_isShare (S : MS) (x0 : Int32) (Q : Int32 → MS → Prop) : Prop :=
  ((x0 < 0 →
    Q 0 S) ∧
  (¬ x0 < 0 →
    (((64 : Int32) < x0 →
      Q 0 S) ∧
    (¬ (64 : Int32) < x0 →
      Q 1 S))))
def wX5_part (S : MS) (x1 : Int32) (x2 : Int32) (x3 : Int32) (Q : Int32 → MS → Prop) : Prop :=
  wX5_isShare S x1 fun r_2 S_1 =>
  ((r_2 = 0 →
    Q (-1) S_1) ∧
  (¬ r_2 = 0 →
    wX5_isShare S_1 x2 fun r_4 S_3 =>
    ((r_4 = 0 →
      Q (-1) S_3) ∧
    (¬ r_4 = 0 →
      wX5_isShare S_3 x3 fun r_6 S_5 =>
      ((r_6 = 0 →
        Q (-1) S_5) ∧
      (¬ r_6 = 0 →
        wX2_add S_5 x1 x2 x3 fun r_8 S_7 =>
        Q r_8 S_7))))))
def wX5_isDay (S : MS) (x0 : Int32) (Q : Int32 → MS → Prop) : Prop :=
  ((x0 < 0 →
    Q 0 S) ∧
  (¬ x0 < 0 →
    (((999 : Int32) < x0 →
      Q 0 S) ∧
    (¬ (999 : Int32) < x0 →
      Q 1 S))))
def wX5_test (S : MS) (x1 : Int32) (x2 : Int32) (Q : Int32 → MS → Prop) : Prop :=
  wX2_has S x1 fun r_2 S_1 =>
  ((r_2 = 0 →
    Q (-1) S_1) ∧
  (¬ r_2 = 0 →
    wX5_isDay S_1 x2 fun r_4 S_3 =>
    ((r_4 = 0 →
      Q (-1) S_3) ∧
    (¬ r_4 = 0 →
      wX2_addTest S_3 x1 x2 fun r_6 S_5 =>
      Q r_6 S_5))))
def wX5_noTests (S : MS) (x1 : Int32) (x2 : Int32) (Q : Int32 → MS → Prop) : Prop :=
  wX2_has S x1 fun r_2 S_1 =>
  ((r_2 = 0 →
    Q (-1) S_1) ∧
  (¬ r_2 = 0 →
    wX5_isDay S_1 x2 fun r_4 S_3 =>
    ((r_4 = 0 →
      Q (-1) S_3) ∧
    (¬ r_4 = 0 →
      wX2_dropTests S_3 x1 x2 fun r_6 S_5 =>
      Q r_6 S_5))))
def wX5_areDays (S : MS) (x0 : Int32) (x1 : Int32) (Q : Int32 → MS → Prop) : Prop :=
  wX5_isDay S x0 fun r_2 S_1 =>
  ((r_2 = 0 →
    Q 0 S_1) ∧
  (¬ r_2 = 0 →
    wX5_isDay S_1 x1 fun r_4 S_3 =>
    ((r_4 = 0 →
      Q 0 S_3) ∧
    (¬ r_4 = 0 →
      ((x1 < x0 →
        Q 0 S_3) ∧
      (¬ x1 < x0 →
        Q 1 S_3))))))
def wX5_bypass (S : MS) (x1 : Int32) (x2 : Int32) (x3 : Int32) (Q : Int32 → MS → Prop) : Prop :=
  wX2_has S x1 fun r_2 S_1 =>
  ((r_2 = 0 →
    Q (-1) S_1) ∧
  (¬ r_2 = 0 →
    wX5_areDays S_1 x2 x3 fun r_4 S_3 =>
    ((r_4 = 0 →
      Q (-1) S_3) ∧
    (¬ r_4 = 0 →
      wX2_addBypass S_3 x1 x2 x3 fun r_6 S_5 =>
      Q r_6 S_5))))
def wX5_bypassed (S : MS) (x1 : Int32) (x2 : Int32) (x3 : Int32) (Q : Int32 → MS → Prop) : Prop :=
  wX2_has S x1 fun r_2 S_1 =>
  ((r_2 = 0 →
    Q (-1) S_1) ∧
  (¬ r_2 = 0 →
    wX5_areDays S_1 x2 x3 fun r_4 S_3 =>
    ((r_4 = 0 →
      Q (-1) S_3) ∧
    (¬ r_4 = 0 →
      wX2_bypassedDays S_3 x1 x2 x3 fun r_6 S_5 =>
      Q r_6 S_5))))
def wX5_group (S : MS) (x1 : Int32) (x2 : Int32) (Q : Int32 → MS → Prop) : Prop :=
  wX5_isShare S x1 fun r_2 S_1 =>
  ((r_2 = 0 →
    Q (-1) S_1) ∧
  (¬ r_2 = 0 →
    wX2_hasAll S_1 x2 fun r_4 S_3 =>
    ((r_4 = 0 →
      Q (-1) S_3) ∧
    (¬ r_4 = 0 →
      wJ6_bitCount_0f7a4 S_3 x2 fun r_6 S_5 =>
      (((2 : Int32) ≤ r_6 →
        wX0_add S_5 x1 x2 fun r_8 S_7 =>
        Q r_8 S_7) ∧
      (¬ (2 : Int32) ≤ r_6 →
        Q (-1) S_5))))))
def wX5_isInput (S : MS) (x1 : Int32) (Q : Int32 → MS → Prop) : Prop :=
  (((12 : Int32) ≤ x1 →
    wX4_has S (x1 - 12) fun r_2 S_1 =>
    narrow .boolean (.int r_2) = .int r_2 ∧ Q r_2 S_1) ∧
  (¬ (12 : Int32) ≤ x1 →
    wX2_has S x1 fun r_4 S_3 =>
    narrow .boolean (.int r_4) = .int r_4 ∧ Q r_4 S_3))
def LX5_vote_56 (x1 : Int32) (x2 : Int32) (K : MS → Prop) (Q : Int32 → MS → Prop) : Nat → MS → Int32 → Prop
  | 0, _, _ => False
  | n + 1, S, x7 =>
    ((x2 ≤ x7 →
      K S ) ∧
    (¬ x2 ≤ x7 →
      vp_in x7 4 ∧
      wX5_isInput S (S.1 16 x7.toNatClampNeg) fun r_2 S_1 =>
      ((r_2 = 0 →
        Q (-1) S_1) ∧
      (¬ r_2 = 0 →
        LX5_vote_56 x1 x2 K Q n S_1 (x7 + 1)))))
def wX5_vote (S : MS) (x1 : Int32) (x2 : Int32) (x3 : Int32) (x4 : Int32) (x5 : Int32) (x6 : Int32) (Q : Int32 → MS → Prop) : Prop :=
  ((x2 < 1 →
    Q (-1) S) ∧
  (¬ x2 < 1 →
    (((4 : Int32) < x2 →
      Q (-1) S) ∧
    (¬ (4 : Int32) < x2 →
      ((x1 < 1 →
        Q (-1) S) ∧
      (¬ x1 < 1 →
        ((x1 ≤ x2 →
          vp_in 0 4 ∧
          ∀ S_1 : MS, S_1 = uI S 16 (0 : Int32).toNatClampNeg x3 →
          vp_in 1 4 ∧
          ∀ S_2 : MS, S_2 = uI S_1 16 (1 : Int32).toNatClampNeg x4 →
          vp_in 2 4 ∧
          ∀ S_3 : MS, S_3 = uI S_2 16 (2 : Int32).toNatClampNeg x5 →
          vp_in 3 4 ∧
          ∀ S_4 : MS, S_4 = uI S_3 16 (3 : Int32).toNatClampNeg x6 →
          ∃ n0 : Nat, LX5_vote_56 x1 x2 (fun S_5 =>
            wX4_add S_5 x1 x2 fun r_7 S_6 =>
            Q r_7 S_6) Q n0 S_4 0) ∧
        (¬ x1 ≤ x2 →
          Q (-1) S))))))))
def wX5_share (S : MS) (x1 : Int32) (x2 : Int32) (Q : Int32 → MS → Prop) : Prop :=
  wX2_has S x1 fun r_2 S_1 =>
  ((r_2 = 0 →
    Q (-1) S_1) ∧
  (¬ r_2 = 0 →
    wX5_isDay S_1 x2 fun r_4 S_3 =>
    ((r_4 = 0 →
      Q (-1) S_3) ∧
    (¬ r_4 = 0 →
      wX2_shareOn S_3 x1 x2 fun r_6 S_5 =>
      Q r_6 S_5))))
def wX5_below (S : MS) (x1 : Int32) (x2 : Int32) (Q : Int32 → MS → Prop) : Prop :=
  wX4_has S x1 fun r_2 S_1 =>
  ((r_2 = 0 →
    Q (-1) S_1) ∧
  (¬ r_2 = 0 →
    ((x2 = 0 →
      wX4_partsBelow S_1 x1 fun r_4 S_3 =>
      Q r_4 S_3) ∧
    (x2 = 1 →
      wX1_groupsOf S_1 x1 fun r_6 S_5 =>
      Q r_6 S_5) ∧
    (x2 = 2 →
      wX1_eventsOf S_1 x1 fun r_8 S_7 =>
      Q r_8 S_7) ∧
    (¬ x2 = 0 → ¬ x2 = 1 → ¬ x2 = 2 → 
    Q (-1) S_1))))
def wX5_shared (S : MS) (x1 : Int32) (x2 : Int32) (Q : Int32 → MS → Prop) : Prop :=
  wX4_has S x1 fun r_2 S_1 =>
  ((r_2 = 0 →
    Q (-1) S_1) ∧
  (¬ r_2 = 0 →
    wX4_has S_1 x2 fun r_4 S_3 =>
    ((r_4 = 0 →
      Q (-1) S_3) ∧
    (¬ r_4 = 0 →
      wX1_groupsOf S_3 x1 fun r_6 S_5 =>
      wX1_groupsOf S_5 x2 fun r_8 S_7 =>
      wX4_partsBelow S_7 x1 fun r_10 S_9 =>
      wX4_partsBelow S_9 x2 fun r_12 S_11 =>
      Q ((r_10 &&& r_12) ||| ((r_6 &&& r_8) <<< ((12 : Int32) &&& 31))) S_11))))
def wX5_chance (S : MS) (x1 : Int32) (x2 : Int32) (Q : Int64 → MS → Prop) : Prop :=
  wX4_has S x1 fun r_2 S_1 =>
  ((r_2 = 0 →
    Q (-1) S_1) ∧
  (¬ r_2 = 0 →
    wX5_isDay S_1 x2 fun r_4 S_3 =>
    ((r_4 = 0 →
      Q (-1) S_3) ∧
    (¬ r_4 = 0 →
      wX1_hasTooManyEvents S_3 x1 fun r_6 S_5 =>
      ((r_6 = 0 →
        wX1_startFailing S_5 x1 fun S_7 =>
        wX1_onDay S_7 x2 fun r_10 S_9 =>
        Q r_10 S_9) ∧
      (¬ r_6 = 0 →
        Q (-2) S_5))))))
def wX5_areSummedDays (S : MS) (x0 : Int32) (x1 : Int32) (Q : Int32 → MS → Prop) : Prop :=
  wX5_areDays S x0 x1 fun r_2 S_1 =>
  ((r_2 = 0 →
    Q 0 S_1) ∧
  (¬ r_2 = 0 →
    (((200 : Int32) ≤ (x1 - x0) →
      Q 0 S_1) ∧
    (¬ (200 : Int32) ≤ (x1 - x0) →
      Q 1 S_1))))
def LX5_over_52 (x3 : Int32) (K : MS → Int64 → Prop) (Q : Int64 → MS → Prop) : Nat → MS → Int64 → Int32 → Prop
  | 0, _, _, _ => False
  | n + 1, S, x4, x6 =>
    ((x3 < x6 →
      K S x4) ∧
    (¬ x3 < x6 →
      wX1_onDay S x6 fun r_2 S_1 =>
      LX5_over_52 x3 K Q n S_1 (x4 + r_2) (x6 + 1)))
def wX5_over (S : MS) (x1 : Int32) (x2 : Int32) (x3 : Int32) (Q : Int64 → MS → Prop) : Prop :=
  wX4_has S x1 fun r_2 S_1 =>
  ((r_2 = 0 →
    Q (-1) S_1) ∧
  (¬ r_2 = 0 →
    wX5_areSummedDays S_1 x2 x3 fun r_4 S_3 =>
    ((r_4 = 0 →
      Q (-1) S_3) ∧
    (¬ r_4 = 0 →
      wX1_hasTooManyEvents S_3 x1 fun r_6 S_5 =>
      ((r_6 = 0 →
        wX1_startFailing S_5 x1 fun S_7 =>
        ∃ n0 : Nat, LX5_over_52 x3 (fun S_9 y_10 =>
          Q y_10 S_9) Q n0 S_7 0 x2) ∧
      (¬ r_6 = 0 →
        Q (-2) S_5))))))
def LX5_broken_62 (x3 : Int32) (x4 : Int64) (K : MS → Prop) (Q : Int32 → MS → Prop) : Nat → MS → Int32 → Prop
  | 0, _, _ => False
  | n + 1, S, x6 =>
    ((x3 < x6 →
      K S ) ∧
    (¬ x3 < x6 →
      wX1_onDay S x6 fun r_2 S_1 =>
      (((lg_cmp r_2 x4) ≤ 0 →
        LX5_broken_62 x3 x4 K Q n S_1 (x6 + 1)) ∧
      (¬ (lg_cmp r_2 x4) ≤ 0 →
        Q x6 S_1))))
def wX5_broken (S : MS) (x1 : Int32) (x2 : Int32) (x3 : Int32) (x4 : Int64) (Q : Int32 → MS → Prop) : Prop :=
  wX4_has S x1 fun r_2 S_1 =>
  ((r_2 = 0 →
    Q (-1) S_1) ∧
  (¬ r_2 = 0 →
    wX5_areSummedDays S_1 x2 x3 fun r_4 S_3 =>
    ((r_4 = 0 →
      Q (-1) S_3) ∧
    (¬ r_4 = 0 →
      (((lg_cmp x4 0) < 0 →
        Q (-1) S_3) ∧
      (¬ (lg_cmp x4 0) < 0 →
        (((lg_cmp x4 281474976710656) ≤ 0 →
          wX1_hasTooManyEvents S_3 x1 fun r_6 S_5 =>
          ((r_6 = 0 →
            wX1_startFailing S_5 x1 fun S_7 =>
            ∃ n0 : Nat, LX5_broken_62 x3 x4 (fun S_9 =>
              Q (-4) S_9) Q n0 S_7 x2) ∧
          (¬ r_6 = 0 →
            Q (-2) S_5))) ∧
        (¬ (lg_cmp x4 281474976710656) ≤ 0 →
          Q (-1) S_3))))))))
def wX5_nothing (S : MS) (x1 : Int32) (Q : Int64 → MS → Prop) : Prop :=
  wX4_has S x1 fun r_2 S_1 =>
  ((r_2 = 0 →
    Q (-1) S_1) ∧
  (¬ r_2 = 0 →
    wX4_sizeBelow S_1 x1 fun r_4 S_3 =>
    ((r_4 ≤ 8 →
      wX1_forNothing S_3 x1 fun r_6 S_5 =>
      Q r_6 S_5) ∧
    (¬ r_4 ≤ 8 →
      Q (-2) S_3))))
def wX5_matters (S : MS) (x1 : Int32) (x2 : Int32) (x3 : Int32) (Q : Int64 → MS → Prop) : Prop :=
  wX4_has S x1 fun r_2 S_1 =>
  ((r_2 = 0 →
    Q (-1) S_1) ∧
  (¬ r_2 = 0 →
    wX2_has S_1 x2 fun r_4 S_3 =>
    ((r_4 = 0 →
      Q (-1) S_3) ∧
    (¬ r_4 = 0 →
      wX5_isDay S_3 x3 fun r_6 S_5 =>
      ((r_6 = 0 →
        Q (-1) S_5) ∧
      (¬ r_6 = 0 →
        wX1_hasTooManyEvents S_5 x1 fun r_8 S_7 =>
        ((r_8 = 0 →
          wX1_startFailing S_7 x1 fun S_9 =>
          wX1_weightOf S_9 x2 x3 fun r_12 S_11 =>
          Q r_12 S_11) ∧
        (¬ r_8 = 0 →
          Q (-2) S_7))))))))
def wX5_most (S : MS) (x1 : Int32) (x2 : Int32) (Q : Int32 → MS → Prop) : Prop :=
  wX4_has S x1 fun r_2 S_1 =>
  ((r_2 = 0 →
    Q (-1) S_1) ∧
  (¬ r_2 = 0 →
    wX5_isDay S_1 x2 fun r_4 S_3 =>
    ((r_4 = 0 →
      Q (-1) S_3) ∧
    (¬ r_4 = 0 →
      wX1_hasTooManyEvents S_3 x1 fun r_6 S_5 =>
      ((r_6 = 0 →
        wX1_startFailing S_5 x1 fun S_7 =>
        wX1_weightiestPart S_7 x2 fun r_10 S_9 =>
        Q r_10 S_9) ∧
      (¬ r_6 = 0 →
        Q (-2) S_5))))))
def wX5_cost (S : MS) (x1 : Int32) (x2 : Int32) (Q : Int32 → MS → Prop) : Prop :=
  wX2_has S x1 fun r_2 S_1 =>
  ((r_2 = 0 →
    Q (-1) S_1) ∧
  (¬ r_2 = 0 →
    ((x2 < 0 →
      Q (-1) S_1) ∧
    (¬ x2 < 0 →
      ((x2 ≤ 1000 →
        wX2_changeCost S_1 x1 x2 fun r_4 S_3 =>
        Q r_4 S_3) ∧
      (¬ x2 ≤ 1000 →
        Q (-1) S_1))))))
def wX5_isInterval (S : MS) (x0 : Int32) (Q : Int32 → MS → Prop) : Prop :=
  ((x0 < 1 →
    Q 0 S) ∧
  (¬ x0 < 1 →
    (((100 : Int32) < x0 →
      Q 0 S) ∧
    (¬ (100 : Int32) < x0 →
      Q 1 S))))
def wX5_plan (S : MS) (x1 : Int32) (x2 : Int32) (x3 : Int32) (x4 : Int32) (x5 : Int64) (x7 : Int32) (Q : Int32 → MS → Prop) : Prop :=
  wX4_has S x1 fun r_2 S_1 =>
  ((r_2 = 0 →
    Q (-1) S_1) ∧
  (¬ r_2 = 0 →
    wX5_isInterval S_1 x2 fun r_4 S_3 =>
    ((r_4 = 0 →
      Q (-1) S_3) ∧
    (¬ r_4 = 0 →
      wX5_isInterval S_3 x3 fun r_6 S_5 =>
      ((r_6 = 0 →
        Q (-1) S_5) ∧
      (¬ r_6 = 0 →
        wX5_isInterval S_5 x4 fun r_8 S_7 =>
        ((r_8 = 0 →
          Q (-1) S_7) ∧
        (¬ r_8 = 0 →
          (((lg_cmp x5 0) < 0 →
            Q (-1) S_7) ∧
          (¬ (lg_cmp x5 0) < 0 →
            (((0 : Int32) < (lg_cmp x5 28147497671065600) →
              Q (-1) S_7) ∧
            (¬ (0 : Int32) < (lg_cmp x5 28147497671065600) →
              ((x7 < 0 →
                Q (-1) S_7) ∧
              (¬ x7 < 0 →
                ((x7 ≤ 1 →
                  wX4_sizeBelow S_7 x1 fun r_10 S_9 =>
                  (((3 : Int32) < r_10 →
                    Q (-2) S_9) ∧
                  (¬ (3 : Int32) < r_10 →
                    wX1_hasTooManyEvents S_9 x1 fun r_12 S_11 =>
                    ((r_12 = 0 →
                      wX3_setIntervals S_11 x2 x3 x4 fun S_13 =>
                      wX3_findCheapest S_13 x1 x5 fun r_16 S_15 =>
                      ((r_16 = 0 →
                        Q (-4) S_15) ∧
                      (¬ r_16 = 0 →
                        ((x7 = 0 →
                          wX3_cheapestCost S_15 fun r_20 S_19 =>
                          Q r_20 S_19) ∧
                        (¬ x7 = 0 →
                          wX3_cheapestChoices S_15 fun r_18 S_17 =>
                          Q r_18 S_17))))) ∧
                    (¬ r_12 = 0 →
                      Q (-2) S_11))))) ∧
                (¬ x7 ≤ 1 →
                  Q (-1) S_7))))))))))))))))
def wX5_count (S : MS) (x1 : Int32) (Q : Int32 → MS → Prop) : Prop :=
  ((x1 = 0 →
    wX2_size S fun r_2 S_1 =>
    Q r_2 S_1) ∧
  (x1 = 1 →
    wX2_allTests S fun r_4 S_3 =>
    Q r_4 S_3) ∧
  (x1 = 2 →
    wX2_allBypasses S fun r_6 S_5 =>
    Q r_6 S_5) ∧
  (x1 = 3 →
    wX0_size S fun r_8 S_7 =>
    Q r_8 S_7) ∧
  (x1 = 4 →
    wX4_size S fun r_10 S_9 =>
    Q r_10 S_9) ∧
  (¬ x1 = 0 → ¬ x1 = 1 → ¬ x1 = 2 → ¬ x1 = 3 → ¬ x1 = 4 → 
  Q (-1) S))
