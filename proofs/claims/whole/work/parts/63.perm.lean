/-! the orders of a row -/
def pm (k j x : Nat) : Nat :=
  if k = 1 then (if j = 1 then x % 8 * 8 + x / 8 else x)
  else if k = 2 then
    let a := x / 64 % 8
    let b := x / 8 % 8
    let c := x % 8
    if j = 1 then a * 64 + c * 8 + b else if j = 2 then b * 64 + a * 8 + c else if j = 3 then b * 64 + c * 8 + a else if j = 4 then c * 64 + a * 8 + b else if j = 5 then c * 64 + b * 8 + a else x
  else x
theorem pm_all : ∀ k, k < 3 → ∀ x, x < 8 ^ (k + 1) → ∀ j, j < 6 → pm k j x < 8 ^ (k + 1) ∧ srt (k + 1) (pm k j x) = srt (k + 1) x := by decide +kernel
theorem pm_srt : ∀ k, k < 3 → ∀ x, x < 8 ^ (k + 1) → ∃ j, j < 6 ∧ srt (k + 1) x = pm k j x := by decide +kernel
theorem pm_inv : ∀ k, k < 3 → ∀ j, j < 6 → ∃ j', j' < 6 ∧ ∀ x, x < 8 ^ (k + 1) → pm k j (pm k j' x) = x := by decide +kernel
theorem pm_st {O : Nat → Nat} {k j r x : Nat} (hk : k < 3) (hj : j < 6) (hr : r < 8 ^ (k + 1)) (hx : x < 8 ^ (k + 1)) : stB O k (pm k j r) (pm k j x) (k + 1) = stB O k r x (k + 1) := by
  rcases (show k = 0 ∨ k = 1 ∨ k = 2 by omega) with rfl | rfl | rfl
  · rfl
  · by_cases q : j = 1
    · subst q
      have e0 : ∀ y, y < 8 ^ (1 + 1) → fg 1 0 (pm 1 1 y) = fg 1 1 y := by decide +kernel
      have e1 : ∀ y, y < 8 ^ (1 + 1) → fg 1 1 (pm 1 1 y) = fg 1 0 y := by decide +kernel
      simp only [stB, e0 r hr, e1 r hr, e0 x hx, e1 x hx, Bool.true_and]
      exact Bool.and_comm _ _
    · have e : ∀ y, pm 1 j y = y := fun y => by unfold pm; simp [q]
      rw [e, e]
  · rcases (show j = 0 ∨ j = 1 ∨ j = 2 ∨ j = 3 ∨ j = 4 ∨ j = 5 by omega) with rfl | rfl | rfl | rfl | rfl | rfl
    · rfl
    · have e : ∀ y, y < 8 ^ (2 + 1) → fg 2 0 (pm 2 1 y) = fg 2 0 y ∧ fg 2 1 (pm 2 1 y) = fg 2 2 y ∧ fg 2 2 (pm 2 1 y) = fg 2 1 y := by decide +kernel
      simp only [stB, e r hr, e x hx, Bool.true_and]
      cases (O (fg 2 0 r)).testBit (fg 2 0 x) <;> cases (O (fg 2 1 r)).testBit (fg 2 1 x) <;> cases (O (fg 2 2 r)).testBit (fg 2 2 x) <;> rfl
    · have e : ∀ y, y < 8 ^ (2 + 1) → fg 2 0 (pm 2 2 y) = fg 2 1 y ∧ fg 2 1 (pm 2 2 y) = fg 2 0 y ∧ fg 2 2 (pm 2 2 y) = fg 2 2 y := by decide +kernel
      simp only [stB, e r hr, e x hx, Bool.true_and]
      cases (O (fg 2 0 r)).testBit (fg 2 0 x) <;> cases (O (fg 2 1 r)).testBit (fg 2 1 x) <;> cases (O (fg 2 2 r)).testBit (fg 2 2 x) <;> rfl
    · have e : ∀ y, y < 8 ^ (2 + 1) → fg 2 0 (pm 2 3 y) = fg 2 1 y ∧ fg 2 1 (pm 2 3 y) = fg 2 2 y ∧ fg 2 2 (pm 2 3 y) = fg 2 0 y := by decide +kernel
      simp only [stB, e r hr, e x hx, Bool.true_and]
      cases (O (fg 2 0 r)).testBit (fg 2 0 x) <;> cases (O (fg 2 1 r)).testBit (fg 2 1 x) <;> cases (O (fg 2 2 r)).testBit (fg 2 2 x) <;> rfl
    · have e : ∀ y, y < 8 ^ (2 + 1) → fg 2 0 (pm 2 4 y) = fg 2 2 y ∧ fg 2 1 (pm 2 4 y) = fg 2 0 y ∧ fg 2 2 (pm 2 4 y) = fg 2 1 y := by decide +kernel
      simp only [stB, e r hr, e x hx, Bool.true_and]
      cases (O (fg 2 0 r)).testBit (fg 2 0 x) <;> cases (O (fg 2 1 r)).testBit (fg 2 1 x) <;> cases (O (fg 2 2 r)).testBit (fg 2 2 x) <;> rfl
    · have e : ∀ y, y < 8 ^ (2 + 1) → fg 2 0 (pm 2 5 y) = fg 2 2 y ∧ fg 2 1 (pm 2 5 y) = fg 2 1 y ∧ fg 2 2 (pm 2 5 y) = fg 2 0 y := by decide +kernel
      simp only [stB, e r hr, e x hx, Bool.true_and]
      cases (O (fg 2 0 r)).testBit (fg 2 0 x) <;> cases (O (fg 2 1 r)).testBit (fg 2 1 x) <;> cases (O (fg 2 2 r)).testBit (fg 2 2 x) <;> rfl
