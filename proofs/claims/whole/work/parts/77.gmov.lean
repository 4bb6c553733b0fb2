/-! to where guards can go -/
theorem cmpN (x : Int64) : lg_cmp x 0 = nI 0 ↔ x = 0 := cmp0 x
theorem tlo : ∀ p, p < 6 → ∀ T, T < 256 → (2 ^ p ≤ T % 64 → (T - 2 ^ p) / 64 = T / 64 ∧ (T - 2 ^ p) % 64 = T % 64 - 2 ^ p ∧ T.testBit p = !(T - 2 ^ p).testBit p) ∧ (¬ 2 ^ p ≤ T % 64 → T.testBit p = false) := by decide +kernel
theorem thi : ∀ p, p < 8 → 6 ≤ p → ∀ T, T < 256 → T.testBit p = true → (T - 2 ^ p) / 64 + 2 ^ (p - 6) = T / 64 ∧ (T - 2 ^ p) % 64 = T % 64 ∧ (T - 2 ^ p).testBit p = false := by decide +kernel
theorem thw1 : ∀ p, p < 8 → 6 ≤ p → ∀ w, w < 5 → ∀ i, i < 64 → (64 * w + i).testBit p = (64 * w).testBit p := by decide +kernel
theorem thw2 : ∀ p, p < 8 → 6 ≤ p → ∀ w, w < 4 → (64 * w).testBit p = false → (w + 2 ^ (p - 6)) &&& 3 = w + 2 ^ (p - 6) ∧ w + 2 ^ (p - 6) < 4 ∧ (64 * (w + 2 ^ (p - 6))).testBit p = true := by decide +kernel
theorem thw {p w i : Nat} (hp : p < 8) (h6 : 6 ≤ p) (hw : w < 4) (hi : i < 64) (h : (64 * w + i).testBit p = false) : (w + 2 ^ (p - 6)) &&& 3 = w + 2 ^ (p - 6) ∧ w + 2 ^ (p - 6) < 4 ∧ ∀ j, j < 64 → (64 * (w + 2 ^ (p - 6)) + j).testBit p = true := by
  rw [thw1 p hp h6 w (by omega) i hi] at h
  obtain ⟨a, b, c⟩ := thw2 p hp h6 w hw h
  exact ⟨a, b, fun j hj => by rw [thw1 p hp h6 _ (by omega) j hj]; exact c⟩
theorem ln_g : ∀ g, g < 2 → ln (27 + 3 * g) = 1024 ∧ ln (28 + 3 * g) = 4 := by decide +kernel
theorem rb_eq {f h : Nat → Int64} {b T : Nat} (e : f (b + T / 64) = h (b + T / 64)) : rb f b T = rb h b T := by unfold rb; rw [e]
section GMOV
variable {σ : St} {n c g : Nat} {O : Nat → Nat}
theorem e_addPlace {A B p : Nat} (hAB : A < B) (hB : B < 256) (hp : p < 8) : Ok (f_X2_addPlace σ g (nI (A * 4)) (nI (B * 4)) (nI p)) (fun q => (∀ T, T < 256 → rb (q.2.2 (27 + 3 * g)) (B * 4) T = (rb (σ.2 (27 + 3 * g)) (B * 4) T || (T.testBit p && rb (σ.2 (27 + 3 * g)) (A * 4) (T - 2 ^ p)))) ∧ (∀ y, (y < B * 4 ∨ B * 4 + 4 ≤ y) → q.2.2 (27 + 3 * g) y = σ.2 (27 + 3 * g) y) ∧ Fr (fun c => c = 27 + 3 * g) σ q.2 ∧ q.2.1 = σ.1) := by
  unfold f_X2_addPlace
  rw [q_0, q_1, q_4, q_6, q_1024, q_3, if_neg (nI_nlt (Nat.zero_le _) (by omega)), if_neg (nI_nlt (Nat.zero_le _) (by omega)), nI_add, nI_add, if_neg (nI_nlt (by omega) (by omega)), if_neg (nI_nlt (by omega) (by omega))]
  refine lo2_for (fun w s => (∀ T, T < 256 → rb (s.2 (27 + 3 * g)) (B * 4) T = (rb (σ.2 (27 + 3 * g)) (B * 4) T || (T.testBit p && decide ((T - 2 ^ p) / 64 < w) && rb (σ.2 (27 + 3 * g)) (A * 4) (T - 2 ^ p)))) ∧ (∀ y, (y < B * 4 ∨ B * 4 + 4 ≤ y) → s.2 (27 + 3 * g) y = σ.2 (27 + 3 * g) y) ∧ Fr (fun c => c = 27 + 3 * g) σ s ∧ s.1 = σ.1) 4 ?_ ?_ FU 0 _ (by omega) (fu_lt (by omega)) ⟨fun T hT => by simp, fun y _ => rfl, fr_refl, rfl⟩
  · rintro rec w s hw ⟨i1, i2, i3, i4⟩ kk
    have hfrom : s.2 (27 + 3 * g) (A * 4 + w) = σ.2 (27 + 3 * g) (A * 4 + w) := i2 _ (by omega)
    rw [if_pos (nI_lt hw (by omega)), nI_add, y_ck _ (by omega) (by omega), nI_clamp (by omega), e_having hp hw, calP_s, bd_s, hfrom, nI_add]
    have hy6 : ∀ i, i < 64 → lb (σ.2 (27 + 3 * g) (A * 4 + w) &&& (hv p w ^^^ (-1))) i = (lb (σ.2 (27 + 3 * g) (A * 4 + w)) i && !(64 * w + i).testBit p) := fun i hi => by
      rw [lb_and, lb_not _ hi, hv_tb hp hw hi]
    by_cases h6 : p < 6
    · rw [if_pos (nI_lt h6 (by omega)), nI_add, y_ck _ (by omega) (by omega), y_ck _ (by omega) (by omega), nI_clamp (by omega), y_pw hp, bd_s]
      have h2p : 2 ^ p < 64 := show 2 ^ p < 2 ^ 6 from Nat.pow_lt_pow_right (by decide) h6
      refine kk _ ⟨fun T hT => ?_, fun y hy => ?_, fr_setL i3 rfl, i4⟩
      · obtain ⟨t1, t2⟩ := tlo p h6 T hT
        have hi : T % 64 < 64 := Nat.mod_lt _ (by decide)
        have old := i1 T hT
        unfold rb at old ⊢
        rw [gsL_s]
        by_cases e : T / 64 = w
        · rw [if_pos (by omega), lb_or, ← e, old, lb_shl _ h2p hi]
          by_cases q : 2 ^ p ≤ T % 64
          · obtain ⟨a1, a2, a3⟩ := t1 q
            have hT2 : 64 * w + (T % 64 - 2 ^ p) = T - 2 ^ p := by omega
            rw [e, hy6 _ (by omega), hT2, decide_eq_true q, a1, a2, e, decide_eq_false (Nat.lt_irrefl w), decide_eq_true (Nat.lt_succ_self w), a3]
            cases lb (σ.2 (27 + 3 * g) (B * 4 + w)) (T % 64) <;> cases (T - 2 ^ p).testBit p <;> cases lb (σ.2 (27 + 3 * g) (A * 4 + w)) (T % 64 - 2 ^ p) <;> rfl
          · rw [decide_eq_false q, t2 q]
            simp
        · rw [if_neg (by omega), old]
          by_cases q : 2 ^ p ≤ T % 64
          · obtain ⟨a1, a2, a3⟩ := t1 q
            have : decide ((T - 2 ^ p) / 64 < w + 1) = decide ((T - 2 ^ p) / 64 < w) := by rw [decide_eq_decide]; omega
            rw [this]
          · rw [t2 q]; simp
      · rw [gsL_s, if_neg (by omega)]; exact i2 y hy
    · rw [if_neg (nI_nlt (by omega) (by omega))]
      have same : ∀ T, T < 256 → T.testBit p = true → ¬ (T - 2 ^ p) / 64 = w → decide ((T - 2 ^ p) / 64 < w + 1) = decide ((T - 2 ^ p) / 64 < w) := fun T _ _ h => by rw [decide_eq_decide]; omega
      by_cases hz : σ.2 (27 + 3 * g) (A * 4 + w) &&& (hv p w ^^^ (-1)) = 0
      · rw [if_pos ((cmpN _).mpr hz), nI_add]
        refine kk _ ⟨fun T hT => ?_, i2, i3, i4⟩
        rw [i1 T hT]
        cases hb : T.testBit p with
        | false => rfl
        | true =>
          obtain ⟨a1, a2, a3⟩ := thi p hp (by omega) T hT hb
          by_cases e : (T - 2 ^ p) / 64 = w
          · have hi : T % 64 < 64 := Nat.mod_lt _ (by decide)
            have h0 := hy6 (T % 64) hi
            rw [hz, lb_0, show 64 * w + T % 64 = T - 2 ^ p by omega, a3] at h0
            have : rb (σ.2 (27 + 3 * g)) (A * 4) (T - 2 ^ p) = false := by
              unfold rb; rw [e, a2]; simpa using h0.symm
            rw [this]; simp
          · rw [same T hT hb e]
      · rw [if_neg (fun e => hz ((cmpN _).mp e)), pk_sub (by omega), y_pw (show p - 6 < 8 by omega), nI_add, z_and, bd_s]
        have hlack : ∃ i, i < 64 ∧ (64 * w + i).testBit p = false := by
          obtain ⟨h1, h2, h3⟩ := fs_sp (fun i => lb (σ.2 (27 + 3 * g) (A * 4 + w) &&& (hv p w ^^^ (-1))) i) 64
          rcases Nat.lt_or_ge (fsN (fun i => lb (σ.2 (27 + 3 * g) (A * 4 + w) &&& (hv p w ^^^ (-1))) i) 64) 64 with q | q
          · have h4 := h2 q
            rw [hy6 _ q, Bool.and_eq_true] at h4
            exact ⟨_, q, by simpa using h4.2⟩
          · exact absurd (lb_zero.mpr (fun i hi => h3 i (by omega))) hz
        obtain ⟨i0, hi0, hl0⟩ := hlack
        obtain ⟨f1, f2, f3⟩ := thw hp (by omega) hw hi0 hl0
        rw [f1, nI_add, y_ck _ (by omega) (by omega), y_ck _ (by omega) (by omega), nI_clamp (by omega), bd_s, nI_add]
        refine kk _ ⟨fun T hT => ?_, fun y hy => ?_, fr_setL i3 rfl, i4⟩
        · have hi : T % 64 < 64 := Nat.mod_lt _ (by decide)
          have old := i1 T hT
          unfold rb at old
          show lb ((setL s (27 + 3 * g) (B * 4 + (w + 2 ^ (p - 6))) _).2 (27 + 3 * g) (B * 4 + T / 64)) (T % 64) = _
          rw [gsL_s]
          by_cases e : T / 64 = w + 2 ^ (p - 6)
          · have hb : T.testBit p = true := by
              have := f3 (T % 64) hi
              rwa [show 64 * (w + 2 ^ (p - 6)) + T % 64 = T by omega] at this
            obtain ⟨a1, a2, a3⟩ := thi p hp (by omega) T hT hb
            have ew : (T - 2 ^ p) / 64 = w := by omega
            rw [if_pos (by omega), lb_or, ← e, old, hy6 _ hi, show 64 * w + T % 64 = T - 2 ^ p by omega, a3, hb]
            unfold rb
            rw [ew, a2, decide_eq_false (Nat.lt_irrefl w), decide_eq_true (Nat.lt_succ_self w)]
            simp
          · rw [if_neg (by omega), old]
            cases hb : T.testBit p with
            | false => rfl
            | true =>
              obtain ⟨a1, a2, a3⟩ := thi p hp (by omega) T hT hb
              rw [same T hT hb (by omega)]
              rfl
        · rw [gsL_s, if_neg (by omega)]; exact i2 y hy
  · rintro rec s ⟨i1, i2, i3, i4⟩
    rw [if_neg (nI_nlt (Nat.le_refl _) (by omega))]
    refine ok_some ⟨fun T hT => ?_, i2, i3, i4⟩
    have := Nat.two_pow_pos p
    rw [i1 T hT, decide_eq_true (show (T - 2 ^ p) / 64 < 4 by omega), Bool.and_true]
end GMOV
