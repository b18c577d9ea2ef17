/-! ===== layer 3: acts and days, over rows ===== -/
/-- the first of i, i + 1, .. (k of them); -1: none -/
def ff (p : Nat → Bool) : Nat → Nat → Int
  | _, 0 => -1
  | i, k + 1 => if p i then (i : Int) else ff p (i + 1) k
theorem ff_congr {p q : Nat → Bool} : ∀ (k i : Nat), (∀ j, i ≤ j → j < i + k → p j = q j) → ff p i k = ff q i k
  | 0, _, _ => rfl
  | k + 1, i, h => by
    have h1 := h i (by omega) (by omega)
    have h2 := ff_congr k (i + 1) (fun j a b => h j (by omega) (by omega))
    unfold ff; rw [h1, h2]
theorem ff_some {p : Nat → Bool} : ∀ (k i : Nat), ff p i k ≠ -1 → ∃ j : Nat, ff p i k = (j : Int) ∧ i ≤ j ∧ j < i + k ∧ p j = true ∧ ∀ l, i ≤ l → l < j → p l = false
  | 0, _, h => absurd rfl h
  | k + 1, i, h => by
    unfold ff at h ⊢
    by_cases hp : p i = true
    · rw [if_pos hp]; exact ⟨i, rfl, by omega, by omega, hp, fun l a b => by omega⟩
    · rw [if_neg hp] at h ⊢
      obtain ⟨j, h1, h2, h3, h4, h5⟩ := ff_some k (i + 1) h
      refine ⟨j, h1, by omega, by omega, h4, fun l a b => ?_⟩
      by_cases hl : l = i
      · subst hl; simpa using hp
      · exact h5 l (by omega) b
theorem ff_none {p : Nat → Bool} : ∀ (k i : Nat), ff p i k = -1 → ∀ j, i ≤ j → j < i + k → p j = false
  | 0, _, _, j, a, b => by omega
  | k + 1, i, h, j, a, b => by
    unfold ff at h
    by_cases hp : p i = true
    · rw [if_pos hp] at h; omega
    · rw [if_neg hp] at h
      by_cases hl : j = i
      · subst hl; simpa using hp
      · exact ff_none k (i + 1) h j (by omega) (by omega)
def frostB (A : Row) (day : Int) (f : Nat) : Bool := decide (A (77 + f) ≤ day ∧ day < A (77 + f) + A (81 + f))
def frostA (A : Row) (day : Int) : Int := ff (frostB A day) 0 (A 4).toNat
def byKin (A : Row) (d p : Nat) : Bool := decide (A (154 + p) ≠ -1) && (A (53 + d)).toNat.testBit (A (154 + p)).toNat
def freeA (A : Row) (b : Nat) : Bool := decide (A (95 + b) = -1) && decide (A (104 + b) = 0)
def whyLend (A : Row) (d b : Nat) : Int := if A (164 + d) = 1 then (if freeA A b = true then (if A (6 + b) < A (29 + d) then 3 else if A (86 + b) = A (15 + b) then 4 else 0) else 2) else 1
def whyLay (A : Row) (d p : Nat) : Int := if A (164 + d) = 2 then (if frostA A (A 85) = -1 then (if 0 < A (149 + p) then 3 else if byKin A d p = true then 4 else 0) else 2) else 1
def whySwap (A : Row) (d e : Nat) : Int := if A (164 + d) = 2 then (if A (164 + e) = 2 then (if A (6 + (A (176 + e)).toNat) < A (29 + d) then 2 else if A (6 + (A (176 + d)).toNat) < A (29 + e) then 2 else 0) else 1) else 1
def whyMend (A : Row) (b : Nat) : Int := if A (86 + b) = 0 then 1 else if A (95 + b) = -1 then 0 else 2
def lends (A : Row) (d b : Nat) : Row := fun k => if k = 164 + d then 2 else if k = 86 + b then A (86 + b) + 1 else if k = 176 + d then (b : Int) else if k = 95 + b then (d : Int) else if k = 113 + 4 * b then (d : Int) else if k = 114 + 4 * b then A (113 + 4 * b) else if k = 115 + 4 * b then A (114 + 4 * b) else if k = 116 + 4 * b then A (115 + 4 * b) else A k
def lays (A : Row) (d p : Nat) : Row := fun k => if k = 164 + d then 3 else if k = 176 + d then -1 else if k = 95 + (A (176 + d)).toNat then -1 else if k = 104 + (A (176 + d)).toNat then A 5 else if k = 188 + d then (p : Int) else if k = 154 + p then (d : Int) else if k = 149 + p then A (24 + p) else if k = 159 + p then w32 (A (159 + p) + 1) else A k
def swaps (A : Row) (d e : Nat) : Row := fun k => if k = 176 + d then A (176 + e) else if k = 176 + e then A (176 + d) else if k = 95 + (A (176 + e)).toNat then (d : Int) else if k = 95 + (A (176 + d)).toNat then (e : Int) else A k
def mends (A : Row) (b : Nat) : Row := fun k => if k = 86 + b then 0 else A k
def comes (A : Row) : Row := fun k => if 164 ≤ k ∧ k < 164 + (A 2).toNat ∧ A k = 0 ∧ A (k - 123) = A 85 then 1 else A k
def dayA (A : Row) : Row := comes (fun k => if k = 85 then A 85 + 1 else if 200 ≤ k ∧ k < 200 + (A 2).toNat ∧ A (k - 36) = 1 then A k + 1 else if 212 ≤ k ∧ k < 212 + (A 2).toNat ∧ A (k - 48) = 2 then A k + 1 else if 104 ≤ k ∧ k < 113 ∧ 0 < A k then A k - 1 else if 149 ≤ k ∧ k < 154 ∧ 0 < A k then A k - 1 else A k)
def daysA : Nat → Row → Row
  | 0, A => A
  | n + 1, A => daysA n (dayA A)
