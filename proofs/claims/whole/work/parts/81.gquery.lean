section GQ
variable {σ : St} {n c g : Nat} {O : Nat → Nat}
def GP (σ s : St) (g n : Nat) (O : Nat → Nat) (c : Nat) : Prop := GT s g n O ∧ s.1 (26 + 3 * g) 4 = nI c ∧ s.1 (26 + 3 * g) 1 = nI g ∧ Fr (fun x => 26 + 3 * g ≤ x ∧ x ≤ 28 + 3 * g) σ s
theorem FF_0 : FF g n O 0 = false := by
  cases e : FF g n O 0 with
  | false => rfl
  | true => have := FF_lt e; omega
theorem ls_1 (F : Nat → Bool) (h : F 0 = false) : lsS n F 1 = 2 ^ n - 1 := by
  show (if F 0 = true ∧ _ then 0 else 2 ^ n - 1) = 2 ^ n - 1
  rw [if_neg (fun e => by rw [h] at e; cases e.1)]
theorem ls_le (F : Nat → Bool) : ∀ m, m ≤ 2 ^ n → lsS n F m < 2 ^ n := by
  intro m
  have := Nat.two_pow_pos n
  induction m with
  | zero => intro _; show 2 ^ n - 1 < 2 ^ n; omega
  | succ m ih =>
    intro hm
    rw [lsS]
    split
    · omega
    · exact ih (by omega)
theorem ls_last (h8 : n ≤ 8) (F : Nat → Bool) : lsS n F (2 ^ n) = lsS n F (2 ^ n - 1) := by
  have h2 := Nat.two_pow_pos n
  have e : 2 ^ n = (2 ^ n - 1) + 1 := by omega
  have h1 := ls_le (n := n) F (2 ^ n - 1) (by omega)
  have h3 : pc (lsS n F (2 ^ n - 1)) 8 ≤ n := by rw [pc_ext h1 8 h8]; exact pc_le _ _
  calc lsS n F (2 ^ n) = lsS n F ((2 ^ n - 1) + 1) := by rw [← e]
    _ = lsS n F (2 ^ n - 1) := by rw [lsS, if_neg (fun w => by have := w.2; rw [pc_all n h8] at this; omega)]
theorem e_gleast (hN : NC σ n O c) (hg : g < 2) (hm : σ.1 (26 + 3 * g) 1 = nI g) (hv : σ.1 (26 + 3 * g) 4 = nI c → GT σ g n O) : Ok (f_X2_leastSet σ g) (fun q => q.1 = nI (lsS n (FF g n O) (2 ^ n - 1)) ∧ GP σ q.2 g n O c) := by
  have h8 := hN.np.h8
  have h1 := hN.np.h1
  have h256 := p256 h8
  have h2 : 2 ≤ 2 ^ n := by
    have := Nat.pow_le_pow_right (n := 2) (by decide) h1
    simpa using this
  unfold f_X2_leastSet
  refine ok_cal (e_gsolve hN hg hm hv) ?_
  rintro u s hs
  have hNs : NC s n O c := nc_fr hN hs.2.2.2 (fun x hx => by omega)
  rw [e_all hNs.z, calP_s, q_0, q_1]
  refine lo2_for (fun j x => 1 ≤ j ∧ x = nI (lsS n (FF g n O) j)) (2 ^ n - 1) ?_ ?_ FU 1 _ (by omega) (fu_lt (by omega)) ⟨Nat.le_refl _, by rw [ls_1 _ FF_0]⟩
  · rintro rec S x hS ⟨i0, rfl⟩ kk
    have hl := ls_le (n := n) (FF g n O) S (by omega)
    have p1 := pc_le S 8
    have p2 := pc_le (lsS n (FF g n O) S) 8
    rw [calP_s, if_pos (nI_lt hS (by omega)), e_bc (by omega), calP_s, e_bc (by omega), calP_s, nI_add]
    rw [lsS] at kk
    by_cases q : pc S 8 < pc (lsS n (FF g n O) S) 8
    · rw [if_pos (nI_lt q (by omega)), e_isSafe hs.1.1 (by omega), calP_s]
      cases hb : FF g n O S with
      | false => rw [if_pos b_f0]; exact kk _ ⟨by omega, by rw [if_neg (fun e => by rw [hb] at e; cases e.1)]⟩
      | true => rw [if_neg b_t0]; exact kk _ ⟨by omega, by rw [if_pos ⟨hb, q⟩]⟩
    · rw [if_neg (nI_nlt (by omega) (by omega))]
      exact kk _ ⟨by omega, by rw [if_neg (fun e => q e.2)]⟩
  · rintro rec x ⟨i0, rfl⟩
    rw [calP_s, if_neg (nI_nlt (Nat.le_refl _) (by omega))]
    exact ok_some ⟨rfl, hs⟩
noncomputable def cnS (F : Nat → Bool) (k m : Nat) : Nat := sm (fun T => if F T = true ∧ pc T 8 = k then 1 else 0) m
theorem cnS_le (F : Nat → Bool) (k m : Nat) : cnS F k m ≤ m := by
  have := sm_bd (f := fun T => if F T = true ∧ pc T 8 = k then 1 else 0) (b := 1) (fun r => by split <;> omega) m
  unfold cnS; omega
theorem cnS_1 {F : Nat → Bool} (h : F 0 = false) (k : Nat) : cnS F k 1 = 0 := by
  unfold cnS
  show 0 + (if F 0 = true ∧ _ then 1 else 0) = 0
  rw [if_neg (fun e => by rw [h] at e; cases e.1)]
theorem e_gcount (hN : NC σ n O c) (hg : g < 2) (hm : σ.1 (26 + 3 * g) 1 = nI g) (hv : σ.1 (26 + 3 * g) 4 = nI c → GT σ g n O) {k : Nat} (hk : k ≤ 8) : Ok (f_X2_countSets σ g (nI k)) (fun q => q.1 = nI (cnS (FF g n O) k (2 ^ n)) ∧ GP σ q.2 g n O c) := by
  have h8 := hN.np.h8
  have h256 := p256 h8
  have h2 := Nat.two_pow_pos n
  unfold f_X2_countSets
  refine ok_cal (e_gsolve hN hg hm hv) ?_
  rintro u s hs
  have hNs : NC s n O c := nc_fr hN hs.2.2.2 (fun x hx => by omega)
  rw [q_0, q_1]
  refine lo2_for (fun j x => 1 ≤ j ∧ x = nI (cnS (FF g n O) k j)) (2 ^ n) ?_ ?_ FU 1 _ (by omega) (fu_lt (by omega)) ⟨Nat.le_refl _, by rw [cnS_1 FF_0]⟩
  · rintro rec S x hS ⟨i0, rfl⟩ kk
    have p1 := pc_le S 8
    rw [cnS, sm, ← cnS] at kk
    rw [e_all hNs.z, calP_s, if_neg (nI_nlt (by omega) (by omega)), e_bc (by omega), calP_s, nI_add, nI_add]
    by_cases q : pc S 8 = k
    · rw [if_pos (by rw [q]), e_isSafe hs.1.1 (by omega), calP_s]
      cases hb : FF g n O S with
      | false => rw [if_pos b_f0]; exact kk _ ⟨by omega, by rw [if_neg (fun e => by rw [hb] at e; cases e.1), Nat.add_zero]⟩
      | true => rw [if_neg b_t0]; exact kk _ ⟨by omega, by rw [if_pos ⟨hb, q⟩]⟩
    · rw [if_neg (nI_ne (by omega) (by omega) q)]
      exact kk _ ⟨by omega, by rw [if_neg (fun e => q e.2), Nat.add_zero]⟩
  · rintro rec x ⟨i0, rfl⟩
    rw [e_all hNs.z, calP_s, if_pos (nI_lt (by omega) (by omega))]
    exact ok_some ⟨rfl, hs⟩
theorem e_ganswer (hN : NC σ n O c) (hg : g < 2) (hm : σ.1 (26 + 3 * g) 1 = nI g) (hv : σ.1 (26 + 3 * g) 4 = nI c → GT σ g n O) {S p : Nat} (h0 : 0 < S) (h1 : S < 2 ^ n) (hp : p < n) : Ok (f_X2_leastAnswer σ g (nI S) (nI p)) (fun q => q.1 = fi (anB g O (FF g n O) S p) 256 ∧ GP σ q.2 g n O c) := by
  have h8 := hN.np.h8
  unfold f_X2_leastAnswer
  refine ok_cal (e_gsolve hN hg hm hv) ?_
  rintro u s hs
  rw [q_mm, q_0, q_1, q_4, q_64]
  refine lo1_for (fun w => ∀ q, q < 64 * w → anB g O (FF g n O) S p q = false) 4 ?_ ?_ FU 0 (by omega) (fu_lt (by omega)) fs_nil
  · rintro rec w hw hI kk
    rw [if_pos (nI_lt hw (by omega))]
    refine ok_calP (e_answersIn hs.1.1 hs.1.2 h8 h0 h1 (by omega) hw) ?_
    intro x hx
    rw [nI_add]
    by_cases hz : x = 0
    · rw [if_pos ((cmpN _).mpr hz)]
      refine kk (fun q hq => ?_)
      rcases Nat.lt_or_ge q (64 * w) with e | e
      · exact hI q e
      · have := hx (q - 64 * w) (by omega)
        rw [hz, lb_0, show 64 * w + (q - 64 * w) = q by omega] at this
        exact this.symm
    · rw [if_neg (fun e => hz ((cmpN _).mp e))]
      obtain ⟨k1, k2, k3⟩ := fs_sp (lb x) 64
      have hk : fsN (lb x) 64 < 64 := by
        rcases Nat.lt_or_ge (fsN (lb x) 64) 64 with q | q
        · exact q
        · exact absurd (lb_zero.mpr (fun i hi => k3 i (by omega))) hz
      rw [e_low hk (k2 hk) k3, calP_s, pk_mul, nI_add]
      refine ok_some ⟨?_, hs⟩
      have hh := k2 hk
      rw [hx _ hk] at hh
      rw [Nat.mul_comm w 64]
      refine (fi_hit (by omega) (fun q hq => ?_) hh).symm
      rcases Nat.lt_or_ge q (64 * w) with e | e
      · exact hI q e
      · have h3 := k3 (q - 64 * w) (by omega)
        rw [hx _ (by omega), show 64 * w + (q - 64 * w) = q by omega] at h3
        exact h3
  · intro rec hI
    rw [if_neg (nI_nlt (Nat.le_refl _) (by omega))]
    exact ok_some ⟨(fi_miss hI).symm, hs⟩
theorem e_gholds (hN : NC σ n O c) (hg : g < 2) (hm : σ.1 (26 + 3 * g) 1 = nI g) (hv : σ.1 (26 + 3 * g) 4 = nI c → GT σ g n O) {S : Nat} (hS : S < 256) : Ok (f_X2_holdsOut σ g (nI S)) (fun q => q.1 = nI (FF g n O S).toNat ∧ GP σ q.2 g n O c) := by
  unfold f_X2_holdsOut
  refine ok_cal (e_gsolve hN hg hm hv) ?_
  rintro u s hs
  rw [e_isSafe hs.1.1 hS, calP_s, y_ckZ]
  exact ok_some ⟨rfl, hs⟩
end GQ
