section READM
variable {σ : St} {tx : Nat → Nat} {l : Nat}
theorem wv_lt {s : Nat} : ∀ m, (∀ j, s ≤ j → j < s + m → kdB (tx j) = 1) → wv tx s m < 27 ^ m := by
  intro m
  induction m with
  | zero => intro _; exact Nat.one_pos
  | succ m ih =>
    intro h
    have h1 := ih (fun j a b => h j a (by omega))
    have h2 := kd1.mp (h (s + m) (by omega) (by omega))
    rw [wv, Nat.pow_succ]
    omega
theorem wv_pos {s : Nat} {m : Nat} (hm : 0 < m) (h : ∀ j, s ≤ j → j < s + m → kdB (tx j) = 1) : 0 < wv tx s m := by
  cases m with
  | zero => omega
  | succ m =>
    have h2 := kd1.mp (h (s + m) (by omega) (by omega))
    rw [wv]; omega
/-- the last letter, and what is ahead of it -/
theorem wv_last {s m V : Nat} (hV : 0 < V) (h : ∀ j, s ≤ j → j < s + m → kdB (tx j) = 1) (e : wv tx s m = V) : ∃ m1, m = m1 + 1 ∧ tx (s + m1) = V % 27 + 96 ∧ wv tx s m1 = V / 27 ∧ (∀ j, s ≤ j → j < s + m1 → kdB (tx j) = 1) := by
  cases m with
  | zero => rw [wv] at e; omega
  | succ m =>
    have h2 := kd1.mp (h (s + m) (by omega) (by omega))
    rw [wv] at e
    exact ⟨m, rfl, by omega, by omega, fun j a b => h j a (by omega)⟩
theorem wv_nil {s m : Nat} (h : ∀ j, s ≤ j → j < s + m → kdB (tx j) = 1) (e : wv tx s m = 0) : m = 0 := by
  cases m with
  | zero => rfl
  | succ m =>
    have : 0 < wv tx s (m + 1) := wv_pos (Nat.succ_pos m) h
    omega
def wV (w : Nat) : Nat := [365260, 16819, 10361].getD w 0
theorem wB_iff {s t w : Nat} : wB tx s t w = true ↔ t - s = jl w ∧ wm tx s w (jl w) = true := by
  unfold wB
  rw [Bool.and_eq_true, decide_eq_true_iff]
theorem wm4 {s : Nat} : wm tx s 0 (jl 0) = true ↔ tx s = 114 ∧ tx (s + 1) = 111 ∧ tx (s + 2) = 97 ∧ tx (s + 3) = 100 := by
  show ((((true && decide (tx (s + 0) = 114)) && decide (tx (s + 1) = 111)) && decide (tx (s + 2) = 97)) && decide (tx (s + 3) = 100)) = true ↔ _
  simp [and_assoc]
theorem wm3 {s : Nat} : wm tx s 1 (jl 1) = true ↔ tx s = 119 ∧ tx (s + 1) = 97 ∧ tx (s + 2) = 121 := by
  show (((true && decide (tx (s + 0) = 119)) && decide (tx (s + 1) = 97)) && decide (tx (s + 2) = 121)) = true ↔ _
  simp [and_assoc]
theorem wm2 {s : Nat} : wm tx s 2 (jl 2) = true ↔ tx s = 110 ∧ tx (s + 1) = 101 ∧ tx (s + 2) = 116 := by
  show (((true && decide (tx (s + 0) = 110)) && decide (tx (s + 1) = 101)) && decide (tx (s + 2) = 116)) = true ↔ _
  simp [and_assoc]
theorem val_0 {s m : Nat} (h : ∀ j, s ≤ j → j < s + m → kdB (tx j) = 1) : wv tx s m = 365260 ↔ m = 4 ∧ tx s = 114 ∧ tx (s + 1) = 111 ∧ tx (s + 2) = 97 ∧ tx (s + 3) = 100 := by
  constructor
  · intro e
    obtain ⟨a, rfl, a1, a2, a3⟩ := wv_last (by decide) h e
    obtain ⟨b, rfl, b1, b2, b3⟩ := wv_last (by decide) a3 a2
    obtain ⟨c, rfl, c1, c2, c3⟩ := wv_last (by decide) b3 b2
    obtain ⟨d, rfl, d1, d2, d3⟩ := wv_last (by decide) c3 c2
    have := wv_nil d3 d2
    subst this
    exact ⟨rfl, d1, c1, b1, a1⟩
  · rintro ⟨rfl, h0, h1, h2, h3⟩
    show 27 * (27 * (27 * (27 * 0 + (tx (s + 0) - 96)) + (tx (s + 1) - 96)) + (tx (s + 2) - 96)) + (tx (s + 3) - 96) = 365260
    rw [Nat.add_zero, h0, h1, h2, h3]
theorem val_1 {s m : Nat} (h : ∀ j, s ≤ j → j < s + m → kdB (tx j) = 1) : wv tx s m = 16819 ↔ m = 3 ∧ tx s = 119 ∧ tx (s + 1) = 97 ∧ tx (s + 2) = 121 := by
  constructor
  · intro e
    obtain ⟨a, rfl, a1, a2, a3⟩ := wv_last (by decide) h e
    obtain ⟨b, rfl, b1, b2, b3⟩ := wv_last (by decide) a3 a2
    obtain ⟨c, rfl, c1, c2, c3⟩ := wv_last (by decide) b3 b2
    have := wv_nil c3 c2
    subst this
    exact ⟨rfl, c1, b1, a1⟩
  · rintro ⟨rfl, h0, h1, h2⟩
    show 27 * (27 * (27 * 0 + (tx (s + 0) - 96)) + (tx (s + 1) - 96)) + (tx (s + 2) - 96) = 16819
    rw [Nat.add_zero, h0, h1, h2]
theorem val_2 {s m : Nat} (h : ∀ j, s ≤ j → j < s + m → kdB (tx j) = 1) : wv tx s m = 10361 ↔ m = 3 ∧ tx s = 110 ∧ tx (s + 1) = 101 ∧ tx (s + 2) = 116 := by
  constructor
  · intro e
    obtain ⟨a, rfl, a1, a2, a3⟩ := wv_last (by decide) h e
    obtain ⟨b, rfl, b1, b2, b3⟩ := wv_last (by decide) a3 a2
    obtain ⟨c, rfl, c1, c2, c3⟩ := wv_last (by decide) b3 b2
    have := wv_nil c3 c2
    subst this
    exact ⟨rfl, c1, b1, a1⟩
  · rintro ⟨rfl, h0, h1, h2⟩
    show 27 * (27 * (27 * 0 + (tx (s + 0) - 96)) + (tx (s + 1) - 96)) + (tx (s + 2) - 96) = 10361
    rw [Nat.add_zero, h0, h1, h2]
theorem wB_val {s m w : Nat} (hw : w < 3) (h : ∀ j, s ≤ j → j < s + m → kdB (tx j) = 1) : wv tx s m = wV w ↔ m = jl w ∧ wm tx s w (jl w) = true := by
  rcases (show w = 0 ∨ w = 1 ∨ w = 2 by omega) with rfl | rfl | rfl
  · rw [wm4]; exact val_0 h
  · rw [wm3]; exact val_1 h
  · rw [wm2]; exact val_2 h
theorem wm_kd {s w : Nat} (hw : w < 3) (h : wm tx s w (jl w) = true) : kdB (tx s) = 1 := by
  refine kd1.mpr ?_
  rcases (show w = 0 ∨ w = 1 ∨ w = 2 by omega) with rfl | rfl | rfl
  · have := wm4.mp h; omega
  · have := wm3.mp h; omega
  · have := wm2.mp h; omega
theorem tk_word {e w : Nat} (he : e ≤ l) (hl : l ≤ 160) (hw : w < 3) : lg_cmp (tkV tx l e) (nL (wV w)) = nI 0 ↔ wB tx (tS tx l e) (rE tx l e) w = true := by
  rw [cmpE, wB_iff]
  have hs := tS_sp (tx := tx) he hl
  have ht := tE_le (tx := tx) hs.2.1 hl
  have hV : wV w < 2 ^ 63 := by
    rcases (show w = 0 ∨ w = 1 ∨ w = 2 by omega) with rfl | rfl | rfl <;> decide
  have hjl := jl_le w hw
  have neg : ∀ x : Int64, 2 ^ 63 ≤ x.toBitVec.toNat → ¬ x = nL (wV w) := fun x hx e => nL_ne hV hx e.symm
  unfold tkV
  by_cases gl : tS tx l e = l
  · rw [if_pos gl]
    constructor
    · intro q; exact absurd q (neg _ (by decide))
    · rintro ⟨q, -⟩
      have : rE tx l e = l := by unfold rE; rw [gl, tE_l]
      omega
  · rw [if_neg gl]
    by_cases k1 : kdB (tx (tS tx l e)) = 1
    · have hlet : ∀ j, tS tx l e ≤ j → j < tS tx l e + (rE tx l e - tS tx l e) → kdB (tx j) = 1 := fun j a b => by
        rw [ht.2.2.2 j a (by have := ht.2.1; unfold rE at b; omega), k1]
      rw [if_pos k1]
      by_cases g9 : rE tx l e - tS tx l e ≤ 9
      · have hwv : wv tx (tS tx l e) (rE tx l e - tS tx l e) < 2 ^ 63 := by
          have h1 := wv_lt (rE tx l e - tS tx l e) hlet
          have h2 : 27 ^ (rE tx l e - tS tx l e) ≤ 27 ^ 9 := Nat.pow_le_pow_right (by decide) g9
          have h3 : 27 ^ 9 < 2 ^ 63 := by decide
          omega
        rw [if_pos g9, nL_eq hwv hV, wB_val hw hlet]
      · rw [if_neg g9]
        constructor
        · intro q; exact absurd q (neg _ (by decide))
        · rintro ⟨q, -⟩; omega
    · rw [if_neg k1]
      constructor
      · intro q
        split at q
        · split at q
          · exact absurd q (neg _ (by decide))
          · exact absurd q (neg _ (by decide))
        · split at q
          · exact absurd q (neg _ (by decide))
          · exact absurd q (neg _ (by decide))
      · rintro ⟨-, q⟩; exact absurd (wm_kd hw q) k1
theorem tk_num {e : Nat} (he : e ≤ l) (hl : l ≤ 160) : lg_cmp (tkV tx l e) (-1) = nI 0 ↔ nud tx l e ≠ 99 := by
  rw [cmpE]
  have hs := tS_sp (tx := tx) he hl
  have ht := tE_le (tx := tx) hs.2.1 hl
  unfold tkV nud nmb
  by_cases gl : tS tx l e = l
  · rw [if_pos gl]
    have : rE tx l e = l := by unfold rE; rw [gl, tE_l]
    rw [if_neg (fun w => by have := w.1; omega)]
    exact ⟨fun q => absurd q (by decide), fun q => absurd rfl q⟩
  · rw [if_neg gl]
    by_cases k1 : kdB (tx (tS tx l e)) = 1
    · have hlet : ∀ j, tS tx l e ≤ j → j < tS tx l e + (rE tx l e - tS tx l e) → kdB (tx j) = 1 := fun j a b => by
        rw [ht.2.2.2 j a (by have := ht.2.1; unfold rE at b; omega), k1]
      rw [if_pos k1, if_neg (show ¬ (rE tx l e - tS tx l e = 1 ∧ kdB (tx (tS tx l e)) = 2) from fun w => by omega)]
      refine ⟨fun q => ?_, fun q => absurd rfl q⟩
      split at q
      · rename_i g9
        have hwv : wv tx (tS tx l e) (rE tx l e - tS tx l e) < 2 ^ 63 := by
          have h1 := wv_lt (rE tx l e - tS tx l e) hlet
          have h2 : 27 ^ (rE tx l e - tS tx l e) ≤ 27 ^ 9 := Nat.pow_le_pow_right (by decide) g9
          have h3 : 27 ^ 9 < 2 ^ 63 := by decide
          omega
        exact absurd q (nL_ne hwv (by decide))
      · exact absurd q (by decide)
    · rw [if_neg k1]
      by_cases k2 : kdB (tx (tS tx l e)) = 2
      · have := kd2 k2
        rw [if_pos k2]
        by_cases g1 : rE tx l e - tS tx l e = 1
        · rw [if_pos g1, if_pos ⟨g1, k2⟩]
          exact ⟨fun _ => by omega, fun _ => rfl⟩
        · rw [if_neg g1, if_neg (fun w => g1 w.1)]
          exact ⟨fun q => absurd q (by decide), fun q => absurd rfl q⟩
      · rw [if_neg k2, if_neg (show ¬ (rE tx l e - tS tx l e = 1 ∧ kdB (tx (tS tx l e)) = 2) from fun w => k2 w.2)]
        refine ⟨fun q => ?_, fun q => absurd rfl q⟩
        split at q
        · exact absurd q (by decide)
        · exact absurd q (by decide)
theorem tk_neg {e : Nat} (he : e ≤ l) (hl : l ≤ 160) {x : Int64} (hx : 2 ^ 63 ≤ x.toBitVec.toNat) (h : tkV tx l e = x) : ¬ kdB (tx (tS tx l e)) = 1 ∨ tS tx l e = l ∨ x = -4 := by
  have hs := tS_sp (tx := tx) he hl
  have ht := tE_le (tx := tx) hs.2.1 hl
  by_cases gl : tS tx l e = l
  · exact Or.inr (Or.inl gl)
  · by_cases k1 : kdB (tx (tS tx l e)) = 1
    · have hlet : ∀ j, tS tx l e ≤ j → j < tS tx l e + (rE tx l e - tS tx l e) → kdB (tx j) = 1 := fun j a b => by
        rw [ht.2.2.2 j a (by have := ht.2.1; unfold rE at b; omega), k1]
      unfold tkV at h
      rw [if_neg gl, if_pos k1] at h
      split at h
      · rename_i g9
        have hwv : wv tx (tS tx l e) (rE tx l e - tS tx l e) < 2 ^ 63 := by
          have h1 := wv_lt (rE tx l e - tS tx l e) hlet
          have h2 : 27 ^ (rE tx l e - tS tx l e) ≤ 27 ^ 9 := Nat.pow_le_pow_right (by decide) g9
          have h3 : 27 ^ 9 < 2 ^ 63 := by decide
          omega
        exact absurd h (nL_ne hwv hx)
      · exact Or.inr (Or.inr h.symm)
    · exact Or.inl k1
theorem tk_semi {e : Nat} (he : e ≤ l) (hl : l ≤ 160) : lg_cmp (tkV tx l e) (-3) = nI 0 ↔ tS tx l e ≠ l ∧ tx (tS tx l e) = 59 := by
  rw [cmpE]
  constructor
  · intro q
    rcases tk_neg he hl (by decide) q with w | w | w
    · unfold tkV at q
      by_cases gl : tS tx l e = l
      · rw [if_pos gl] at q; exact absurd q (by decide)
      · rw [if_neg gl, if_neg w] at q
        split at q
        · split at q
          · exact absurd q (by decide)
          · exact absurd q (by decide)
        · split at q
          · rename_i g; exact ⟨gl, g⟩
          · exact absurd q (by decide)
    · unfold tkV at q; rw [if_pos w] at q; exact absurd q (by decide)
    · exact absurd w (by decide)
  · rintro ⟨gl, g⟩
    unfold tkV
    rw [if_neg gl, if_neg (by rw [g]; decide), if_neg (by rw [g]; decide), if_pos g]
theorem tk_end {e : Nat} (he : e ≤ l) (hl : l ≤ 160) : lg_cmp (tkV tx l e) (-2) = nI 0 ↔ tS tx l e = l := by
  rw [cmpE]
  constructor
  · intro q
    rcases tk_neg he hl (by decide) q with w | w | w
    · unfold tkV at q
      by_cases gl : tS tx l e = l
      · exact gl
      · rw [if_neg gl, if_neg w] at q
        split at q
        · split at q
          · exact absurd q (by decide)
          · exact absurd q (by decide)
        · split at q
          · exact absurd q (by decide)
          · exact absurd q (by decide)
    · exact w
    · exact absurd w (by decide)
  · intro g; unfold tkV; rw [if_pos g]
end READM
