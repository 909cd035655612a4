/-! PURE SIDE, B: the abstract state, what both systems hold of it -/
/-- scalars: 0 parts, 1 bypasses, 2 groups, 3 votes; rows numbered as the reference's -/
abbrev AS : Type := (Nat → Nat) × (Nat → Nat → Nat)
def inB (a : AS) (f : Nat → Nat) (v : Nat) : Nat → Nat
  | 0 => 0
  | j + 1 => inB a f v j ||| (if a.2 15 (4 * v + j) < 12 then 2 ^ (a.2 15 (4 * v + j)) else f (a.2 15 (4 * v + j) - 12))
def belT (a : AS) : Nat → Nat → Nat
  | 0, _ => 0
  | m + 1, v => if v = m then inB a (belT a m) m (a.2 14 m) else belT a m v
/-- the parts below a vote, as bits -/
def bel (a : AS) (v : Nat) : Nat := belT a (v + 1) v
def inA (a : AS) (f : Nat → Bool) (A : Nat → Bool) (v : Nat) : Nat → Nat
  | 0 => 0
  | j + 1 => inA a f A v j + (if (if a.2 15 (4 * v + j) < 12 then A (a.2 15 (4 * v + j)) else f (a.2 15 (4 * v + j) - 12)) = true then 1 else 0)
def actT (a : AS) (A : Nat → Bool) : Nat → Nat → Bool
  | 0, _ => false
  | m + 1, v => if v = m then decide (a.2 13 m ≤ inA a (actT a A m) A m (a.2 14 m)) else actT a A m v
/-- does a vote act, when just the parts of A act -/
def act (a : AS) (v : Nat) (A : Nat → Bool) : Bool := actT a A (v + 1) v
def bypN (a : AS) (p day : Nat) : Nat → Bool
  | 0 => false
  | k + 1 => bypN a p day k || (a.2 8 k == p && decide (a.2 9 k ≤ day ∧ day ≤ a.2 10 k))
def byp (a : AS) (p day : Nat) : Bool := bypN a p day (a.1 1)
/-- the parts of a mask, in order -/
def mems (b : Nat) : List Nat := (List.range 12).filter (fun p => b.testBit p)
/-- the parts that a set of places stands for -/
def sprd (b s p : Nat) : Bool := b.testBit p && s.testBit (fb_ct b.testBit p)
def bitL (w : Int64) (k : Nat) : Bool := w.toBitVec.getLsbD k
def OKa (a : AS) : Prop :=
  (a.1 0 ≤ 12) ∧
  (a.1 1 ≤ 20) ∧
  (a.1 2 ≤ 4) ∧
  (a.1 3 ≤ 12) ∧
  (∀ p, p < a.1 0 → a.2 0 p ≤ 64 ∧ a.2 1 p ≤ 64 ∧ a.2 2 p ≤ 64) ∧
  (∀ p, a.2 3 p ≤ 1000) ∧
  (∀ p, a.1 0 ≤ p → p < 12 → a.2 3 p = 1) ∧
  (∀ p, a.2 4 p ≤ 12) ∧
  (∀ p, a.1 0 ≤ p → a.2 4 p = 0) ∧
  (∀ p i, p < 12 → i < a.2 4 p → a.2 5 (12 * p + i) ≤ 999) ∧
  (∀ p i, p < 12 → i + 1 < a.2 4 p → a.2 5 (12 * p + i) < a.2 5 (12 * p + i + 1)) ∧
  (∀ k, k < a.1 1 → a.2 8 k < a.1 0 ∧ a.2 9 k ≤ a.2 10 k ∧ a.2 10 k ≤ 999) ∧
  (∀ g, g < a.1 2 → a.2 11 g ≤ 64 ∧ a.2 12 g < 2 ^ a.1 0) ∧
  (∀ v, v < a.1 3 → 1 ≤ a.2 13 v ∧ a.2 13 v ≤ a.2 14 v ∧ a.2 14 v ≤ 4) ∧
  (∀ v j, v < a.1 3 → j < a.2 14 v → a.2 15 (4 * v + j) < a.1 0 ∨ (12 ≤ a.2 15 (4 * v + j) ∧ a.2 15 (4 * v + j) < 12 + v))
theorem OKa.hnp {a : AS} (h : OKa a) : a.1 0 ≤ 12 := h.1
theorem OKa.hnb {a : AS} (h : OKa a) : a.1 1 ≤ 20 := h.2.1
theorem OKa.hng {a : AS} (h : OKa a) : a.1 2 ≤ 4 := h.2.2.1
theorem OKa.hnv {a : AS} (h : OKa a) : a.1 3 ≤ 12 := h.2.2.2.1
theorem OKa.hsh {a : AS} (h : OKa a) : ∀ p, p < a.1 0 → a.2 0 p ≤ 64 ∧ a.2 1 p ≤ 64 ∧ a.2 2 p ≤ 64 := h.2.2.2.2.1
theorem OKa.hcost {a : AS} (h : OKa a) : ∀ p, a.2 3 p ≤ 1000 := h.2.2.2.2.2.1
theorem OKa.hcost1 {a : AS} (h : OKa a) : ∀ p, a.1 0 ≤ p → p < 12 → a.2 3 p = 1 := h.2.2.2.2.2.2.1
theorem OKa.htn {a : AS} (h : OKa a) : ∀ p, a.2 4 p ≤ 12 := h.2.2.2.2.2.2.2.1
theorem OKa.htn0 {a : AS} (h : OKa a) : ∀ p, a.1 0 ≤ p → a.2 4 p = 0 := h.2.2.2.2.2.2.2.2.1
theorem OKa.hday {a : AS} (h : OKa a) : ∀ p i, p < 12 → i < a.2 4 p → a.2 5 (12 * p + i) ≤ 999 := h.2.2.2.2.2.2.2.2.2.1
theorem OKa.hsrt {a : AS} (h : OKa a) : ∀ p i, p < 12 → i + 1 < a.2 4 p → a.2 5 (12 * p + i) < a.2 5 (12 * p + i + 1) := h.2.2.2.2.2.2.2.2.2.2.1
theorem OKa.hbyp {a : AS} (h : OKa a) : ∀ k, k < a.1 1 → a.2 8 k < a.1 0 ∧ a.2 9 k ≤ a.2 10 k ∧ a.2 10 k ≤ 999 := h.2.2.2.2.2.2.2.2.2.2.2.1
theorem OKa.hgrp {a : AS} (h : OKa a) : ∀ g, g < a.1 2 → a.2 11 g ≤ 64 ∧ a.2 12 g < 2 ^ a.1 0 := h.2.2.2.2.2.2.2.2.2.2.2.2.1
theorem OKa.hvot {a : AS} (h : OKa a) : ∀ v, v < a.1 3 → 1 ≤ a.2 13 v ∧ a.2 13 v ≤ a.2 14 v ∧ a.2 14 v ≤ 4 := h.2.2.2.2.2.2.2.2.2.2.2.2.2.1
theorem OKa.hinp {a : AS} (h : OKa a) : ∀ v j, v < a.1 3 → j < a.2 14 v → a.2 15 (4 * v + j) < a.1 0 ∨ (12 ≤ a.2 15 (4 * v + j) ∧ a.2 15 (4 * v + j) < 12 + v) := h.2.2.2.2.2.2.2.2.2.2.2.2.2.2
def aC (S : MS) (a : AS) : Prop :=
  (S.2.2 1 = nI (a.1 0)) ∧
  (S.2.2 0 = nI (a.1 1)) ∧
  (S.2.2 2 = nI (a.1 2)) ∧
  (S.2.2 3 = nI (a.1 3)) ∧
  (∀ p, p < a.1 0 → S.1 0 p = nI (a.2 0 p) ∧ S.1 1 p = nI (a.2 1 p) ∧ S.1 2 p = nI (a.2 2 p) ∧ S.1 3 p = nI (a.2 3 p)) ∧
  (∀ i, S.1 4 i = nI (a.2 4 i)) ∧
  (∀ i, S.1 5 i = nI (a.2 5 i)) ∧
  (∀ i, S.1 6 i = nI (a.2 11 i)) ∧
  (∀ i, S.1 7 i = nI (a.2 12 i)) ∧
  (∀ i, S.1 8 i = nI (a.2 13 i)) ∧
  (∀ i, S.1 9 i = nI (a.2 14 i)) ∧
  (∀ v j, v < a.1 3 → j < a.2 14 v → S.1 10 (4 * v + j) = nI (a.2 15 (4 * v + j))) ∧
  (∀ v, v < a.1 3 → S.1 11 v = nI (bel a v)) ∧
  (∀ v, a.1 3 ≤ v → S.1 11 v = 0) ∧
  (∀ p d, p < 12 → d < 1000 → bitL (S.2.1 0 (16 * p + d / 64)) (d % 64) = byp a p d) ∧
  (∀ v, v < a.1 3 → (mems (bel a v)).length ≤ 8 → ∀ s, s < 2 ^ (mems (bel a v)).length → bitL (S.2.1 1 (4 * v + s / 64)) (s % 64) = act a v (sprd (bel a v) s)) ∧
  (∀ i, 4 * a.1 3 ≤ i → S.2.1 1 i = 0)
theorem aC.hnp {S : MS} {a : AS} (h : aC S a) : S.2.2 1 = nI (a.1 0) := h.1
theorem aC.hnb {S : MS} {a : AS} (h : aC S a) : S.2.2 0 = nI (a.1 1) := h.2.1
theorem aC.hng {S : MS} {a : AS} (h : aC S a) : S.2.2 2 = nI (a.1 2) := h.2.2.1
theorem aC.hnv {S : MS} {a : AS} (h : aC S a) : S.2.2 3 = nI (a.1 3) := h.2.2.2.1
theorem aC.hsh {S : MS} {a : AS} (h : aC S a) : ∀ p, p < a.1 0 → S.1 0 p = nI (a.2 0 p) ∧ S.1 1 p = nI (a.2 1 p) ∧ S.1 2 p = nI (a.2 2 p) ∧ S.1 3 p = nI (a.2 3 p) := h.2.2.2.2.1
theorem aC.htn {S : MS} {a : AS} (h : aC S a) : ∀ i, S.1 4 i = nI (a.2 4 i) := h.2.2.2.2.2.1
theorem aC.hday {S : MS} {a : AS} (h : aC S a) : ∀ i, S.1 5 i = nI (a.2 5 i) := h.2.2.2.2.2.2.1
theorem aC.hgc {S : MS} {a : AS} (h : aC S a) : ∀ i, S.1 6 i = nI (a.2 11 i) := h.2.2.2.2.2.2.2.1
theorem aC.hgp {S : MS} {a : AS} (h : aC S a) : ∀ i, S.1 7 i = nI (a.2 12 i) := h.2.2.2.2.2.2.2.2.1
theorem aC.hvk {S : MS} {a : AS} (h : aC S a) : ∀ i, S.1 8 i = nI (a.2 13 i) := h.2.2.2.2.2.2.2.2.2.1
theorem aC.hvn {S : MS} {a : AS} (h : aC S a) : ∀ i, S.1 9 i = nI (a.2 14 i) := h.2.2.2.2.2.2.2.2.2.2.1
theorem aC.hvi {S : MS} {a : AS} (h : aC S a) : ∀ v j, v < a.1 3 → j < a.2 14 v → S.1 10 (4 * v + j) = nI (a.2 15 (4 * v + j)) := h.2.2.2.2.2.2.2.2.2.2.2.1
theorem aC.hbel {S : MS} {a : AS} (h : aC S a) : ∀ v, v < a.1 3 → S.1 11 v = nI (bel a v) := h.2.2.2.2.2.2.2.2.2.2.2.2.1
theorem aC.hbel0 {S : MS} {a : AS} (h : aC S a) : ∀ v, a.1 3 ≤ v → S.1 11 v = 0 := h.2.2.2.2.2.2.2.2.2.2.2.2.2.1
theorem aC.hbyp {S : MS} {a : AS} (h : aC S a) : ∀ p d, p < 12 → d < 1000 → bitL (S.2.1 0 (16 * p + d / 64)) (d % 64) = byp a p d := h.2.2.2.2.2.2.2.2.2.2.2.2.2.2.1
theorem aC.hact {S : MS} {a : AS} (h : aC S a) : ∀ v, v < a.1 3 → (mems (bel a v)).length ≤ 8 → ∀ s, s < 2 ^ (mems (bel a v)).length → bitL (S.2.1 1 (4 * v + s / 64)) (s % 64) = act a v (sprd (bel a v) s) := h.2.2.2.2.2.2.2.2.2.2.2.2.2.2.2.1
theorem aC.hact0 {S : MS} {a : AS} (h : aC S a) : ∀ i, 4 * a.1 3 ≤ i → S.2.1 1 i = 0 := h.2.2.2.2.2.2.2.2.2.2.2.2.2.2.2.2
def aM (M : MS) (a : AS) (ev : Nat → Nat) (fo : Nat → Int32) : Prop :=
  (M.2.2 0 = nI (a.1 0)) ∧
  (M.2.2 1 = nI (a.1 1)) ∧
  (M.2.2 2 = nI (a.1 2)) ∧
  (M.2.2 3 = nI (a.1 3)) ∧
  (∀ i, M.1 0 i = nI (a.2 0 i)) ∧
  (∀ i, M.1 1 i = nI (a.2 1 i)) ∧
  (∀ i, M.1 2 i = nI (a.2 2 i)) ∧
  (∀ i, M.1 3 i = nI (a.2 3 i)) ∧
  (∀ i, M.1 4 i = nI (a.2 4 i)) ∧
  (∀ i, M.1 5 i = nI (a.2 5 i)) ∧
  (∀ i, i < 12 → M.1 6 i = nI (ev i)) ∧
  (∀ i, i < 12 → M.1 7 i = fo i) ∧
  (∀ i, M.1 8 i = nI (a.2 8 i)) ∧
  (∀ i, M.1 9 i = nI (a.2 9 i)) ∧
  (∀ i, M.1 10 i = nI (a.2 10 i)) ∧
  (∀ i, M.1 11 i = nI (a.2 11 i)) ∧
  (∀ i, M.1 12 i = nI (a.2 12 i)) ∧
  (∀ i, M.1 13 i = nI (a.2 13 i)) ∧
  (∀ i, M.1 14 i = nI (a.2 14 i)) ∧
  (∀ v j, v < a.1 3 → j < a.2 14 v → M.1 15 (4 * v + j) = nI (a.2 15 (4 * v + j)))
theorem aM.hnp {M : MS} {a : AS} {ev : Nat → Nat} {fo : Nat → Int32} (h : aM M a ev fo) : M.2.2 0 = nI (a.1 0) := h.1
theorem aM.hnb {M : MS} {a : AS} {ev : Nat → Nat} {fo : Nat → Int32} (h : aM M a ev fo) : M.2.2 1 = nI (a.1 1) := h.2.1
theorem aM.hng {M : MS} {a : AS} {ev : Nat → Nat} {fo : Nat → Int32} (h : aM M a ev fo) : M.2.2 2 = nI (a.1 2) := h.2.2.1
theorem aM.hnv {M : MS} {a : AS} {ev : Nat → Nat} {fo : Nat → Int32} (h : aM M a ev fo) : M.2.2 3 = nI (a.1 3) := h.2.2.2.1
theorem aM.hb {M : MS} {a : AS} {ev : Nat → Nat} {fo : Nat → Int32} (h : aM M a ev fo) : ∀ i, M.1 0 i = nI (a.2 0 i) := h.2.2.2.2.1
theorem aM.ha {M : MS} {a : AS} {ev : Nat → Nat} {fo : Nat → Int32} (h : aM M a ev fo) : ∀ i, M.1 1 i = nI (a.2 1 i) := h.2.2.2.2.2.1
theorem aM.hz {M : MS} {a : AS} {ev : Nat → Nat} {fo : Nat → Int32} (h : aM M a ev fo) : ∀ i, M.1 2 i = nI (a.2 2 i) := h.2.2.2.2.2.2.1
theorem aM.hc {M : MS} {a : AS} {ev : Nat → Nat} {fo : Nat → Int32} (h : aM M a ev fo) : ∀ i, M.1 3 i = nI (a.2 3 i) := h.2.2.2.2.2.2.2.1
theorem aM.htn {M : MS} {a : AS} {ev : Nat → Nat} {fo : Nat → Int32} (h : aM M a ev fo) : ∀ i, M.1 4 i = nI (a.2 4 i) := h.2.2.2.2.2.2.2.2.1
theorem aM.hday {M : MS} {a : AS} {ev : Nat → Nat} {fo : Nat → Int32} (h : aM M a ev fo) : ∀ i, M.1 5 i = nI (a.2 5 i) := h.2.2.2.2.2.2.2.2.2.1
theorem aM.hev {M : MS} {a : AS} {ev : Nat → Nat} {fo : Nat → Int32} (h : aM M a ev fo) : ∀ i, i < 12 → M.1 6 i = nI (ev i) := h.2.2.2.2.2.2.2.2.2.2.1
theorem aM.hfo {M : MS} {a : AS} {ev : Nat → Nat} {fo : Nat → Int32} (h : aM M a ev fo) : ∀ i, i < 12 → M.1 7 i = fo i := h.2.2.2.2.2.2.2.2.2.2.2.1
theorem aM.hbp {M : MS} {a : AS} {ev : Nat → Nat} {fo : Nat → Int32} (h : aM M a ev fo) : ∀ i, M.1 8 i = nI (a.2 8 i) := h.2.2.2.2.2.2.2.2.2.2.2.2.1
theorem aM.hbx {M : MS} {a : AS} {ev : Nat → Nat} {fo : Nat → Int32} (h : aM M a ev fo) : ∀ i, M.1 9 i = nI (a.2 9 i) := h.2.2.2.2.2.2.2.2.2.2.2.2.2.1
theorem aM.hby {M : MS} {a : AS} {ev : Nat → Nat} {fo : Nat → Int32} (h : aM M a ev fo) : ∀ i, M.1 10 i = nI (a.2 10 i) := h.2.2.2.2.2.2.2.2.2.2.2.2.2.2.1
theorem aM.hgc {M : MS} {a : AS} {ev : Nat → Nat} {fo : Nat → Int32} (h : aM M a ev fo) : ∀ i, M.1 11 i = nI (a.2 11 i) := h.2.2.2.2.2.2.2.2.2.2.2.2.2.2.2.1
theorem aM.hgp {M : MS} {a : AS} {ev : Nat → Nat} {fo : Nat → Int32} (h : aM M a ev fo) : ∀ i, M.1 12 i = nI (a.2 12 i) := h.2.2.2.2.2.2.2.2.2.2.2.2.2.2.2.2.1
theorem aM.hvk {M : MS} {a : AS} {ev : Nat → Nat} {fo : Nat → Int32} (h : aM M a ev fo) : ∀ i, M.1 13 i = nI (a.2 13 i) := h.2.2.2.2.2.2.2.2.2.2.2.2.2.2.2.2.2.1
theorem aM.hvn {M : MS} {a : AS} {ev : Nat → Nat} {fo : Nat → Int32} (h : aM M a ev fo) : ∀ i, M.1 14 i = nI (a.2 14 i) := h.2.2.2.2.2.2.2.2.2.2.2.2.2.2.2.2.2.2.1
theorem aM.hvi {M : MS} {a : AS} {ev : Nat → Nat} {fo : Nat → Int32} (h : aM M a ev fo) : ∀ v j, v < a.1 3 → j < a.2 14 v → M.1 15 (4 * v + j) = nI (a.2 15 (4 * v + j)) := h.2.2.2.2.2.2.2.2.2.2.2.2.2.2.2.2.2.2.2
abbrev ev0 : Nat → Nat := fun _ => 0
abbrev fo0 : Nat → Int32 := fun _ => -1
/-- what holds between calls -/
def Inv (S M : MS) : Prop := ∃ a : AS, OKa a ∧ aC S a ∧ aM M a ev0 fo0
def ini : AS := (fun _ => 0, fun k i => if k = 3 ∧ i < 12 then 1 else 0)
theorem bitL_0 (k : Nat) : bitL 0 k = false := by simp [bitL]
theorem ini_ok : Inv ini0 iniM := by
  refine ⟨ini, ?_, ?_, ?_⟩
  · refine ⟨by simp [ini], by simp [ini], by simp [ini], by simp [ini], ?_, ?_, ?_, ?_, ?_, ?_, ?_, ?_, ?_, ?_, ?_⟩
    · intro p hp; simp [ini] at hp
    · intro p; simp only [ini]; split <;> omega
    · intro p _ h; simp [ini, h]
    · intro p; simp [ini]
    · intro p _; simp [ini]
    · intro p i _ h; simp [ini] at h
    · intro p i _ h; simp [ini] at h
    · intro k h; simp [ini] at h
    · intro k h; simp [ini] at h
    · intro k h; simp [ini] at h
    · intro k j h; simp [ini] at h
  · refine ⟨rfl, rfl, rfl, rfl, ?_, fun i => rfl, fun i => rfl, fun i => rfl, fun i => rfl, fun i => rfl, fun i => rfl, ?_, ?_, fun v _ => rfl, ?_, ?_, fun i _ => rfl⟩
    · intro p hp; simp [ini] at hp
    · intro v j h; simp [ini] at h
    · intro v h; simp [ini] at h
    · intro p d _ _; show bitL 0 _ = _; rw [bitL_0]; rfl
    · intro v h; simp [ini] at h
  · refine ⟨rfl, rfl, rfl, rfl, fun i => rfl, fun i => rfl, fun i => rfl, ?_, fun i => rfl, fun i => rfl, fun i _ => rfl, ?_, fun i => rfl, fun i => rfl, fun i => rfl, fun i => rfl, fun i => rfl, fun i => rfl, fun i => rfl, ?_⟩
    · intro i
      by_cases h : i < 12
      · simp [iniM, ini, h]; rfl
      · simp [iniM, ini, h]; rfl
    · intro i h; simp [iniM, h]
    · intro v j h; simp [ini] at h
