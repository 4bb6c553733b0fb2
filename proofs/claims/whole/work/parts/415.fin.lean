/-! finite facts of rows -/
def orS (k r : Nat) : Nat → Nat
  | 0 => 0
  | i + 1 => orS k r i ||| 2 ^ fg k i r
def isS (n k r : Nat) : Nat → Bool
  | 0 => true
  | i + 1 => isS n k r i && (decide (fg k i r < n) && (decide (i = 0) || decide (fg k (i - 1) r ≤ fg k i r)))
theorem or_all : ∀ k, k < 3 → ∀ r, r < 8 ^ (k + 1) → orS k r (k + 1) = plc (dgs (k + 1) r) := by decide +kernel
theorem is_all : ∀ n, n ≤ 8 → ∀ k, k < 3 → ∀ r, r < 8 ^ (k + 1) → isS n k r (k + 1) = (vrB n (k + 1) r && decide (srt (k + 1) r = r)) := by decide +kernel
theorem s2_all : ∀ a, a < 8 → ∀ b, b < 8 → 8 * (8 * 0 + min a b) + (a + b - min a b) = srt 2 (8 * a + b) := by decide +kernel
def s3 (a b c : Nat) : Nat :=
  let x := min a b
  let y := a + b - x
  let x' := min x c
  let z := x + c - x'
  let y' := min y z
  8 * (8 * (8 * 0 + x') + y') + (y + z - y')
theorem s3_all : ∀ a, a < 8 → ∀ b, b < 8 → ∀ c, c < 8 → s3 a b c = srt 3 (64 * a + 8 * b + c) := by decide +kernel
