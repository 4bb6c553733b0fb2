/-! worth, best, escapes -/
def sgB (n K h : Nat) : Bool := vrB n K h && decide (srt K h = h)
def wt (n : Nat) (lv : Nat → Nat → Nat) (r : Nat) : Nat := bmx (2 ^ n - 1) (lv r) n
def bl (n K : Nat) (lv : Nat → Nat → Nat) : Nat → Nat
  | 0 => 1048576
  | r + 1 => if sgB n K r = true ∧ wt n lv r < bl n K lv r then wt n lv r else bl n K lv r
def bb (n K : Nat) (lv : Nat → Nat → Nat) : Nat → Int32
  | 0 => M1
  | r + 1 => if sgB n K r = true ∧ wt n lv r < bl n K lv r then nI r else bb n K lv r
section BEST
variable {σ : St} {n c k s i sp : Nat} {O : Nat → Nat} {lv : Nat → Nat → Nat}
theorem sgB_iff {K h : Nat} : sgB n K h = true ↔ Sg n K h := sg_iff
theorem bl_le (K : Nat) : ∀ m, bl n K lv m ≤ 1048576 := by
  intro m
  induction m with
  | zero => exact Nat.le_refl _
  | succ m ih =>
    rw [bl]
    split
    · rename_i q; omega
    · exact ih
theorem bb_inv (K : Nat) : ∀ m, (bb n K lv m = M1 ∧ bl n K lv m = 1048576) ∨ ∃ r, r < m ∧ Sg n K r ∧ bb n K lv m = nI r ∧ bl n K lv m = wt n lv r ∧ wt n lv r < 1048576 := by
  intro m
  induction m with
  | zero => exact Or.inl ⟨rfl, rfl⟩
  | succ m ih =>
    have hl := bl_le (n := n) (lv := lv) K m
    rw [bb, bl]
    by_cases q : sgB n K m = true ∧ wt n lv m < bl n K lv m
    · rw [if_pos q, if_pos q]
      exact Or.inr ⟨m, by omega, sgB_iff.mp q.1, rfl, rfl, by omega⟩
    · rw [if_neg q, if_neg q]
      rcases ih with h | ⟨r, h1, h2⟩
      · exact Or.inl h
      · exact Or.inr ⟨r, by omega, h2⟩
theorem wt_le (h : HL n O k s lv) {r : Nat} (hr : Vr n (k + 1) r) : wt n lv r ≤ 1048576 := bmx_le.mpr (fun q hq _ => hl_le h hr hq)
theorem m_worthOf (hN : NM σ n O) (hk : k < 3) (h1 : 1 ≤ s) (h3 : s ≤ 3) (hl : HL n O k s lv) (hm : MT σ n O k s) {h : Nat} (hh : Sg n (k + 1) h) : f_X10_worthOf σ (nI (k + 1)) (nI s) (nI h) = some (mv (wt n lv h)) := by
  have h8 := hN.np.h8
  have h512 := p8_le k hk
  have hh1 := hh.1.1
  have hb : ∀ m, m ≤ n → bmx (2 ^ n - 1) (lv h) m ≤ 1048576 := fun m hm => bmx_le.mpr (fun q hq _ => hl_le hl hh.1 (by omega))
  unfold f_X10_worthOf wt
  rw [q_0, q_mm]
  refine ok_eq (lo2_for (fun i x => x = mv (bmx (2 ^ n - 1) (lv h) i)) n ?_ ?_ FU 0 _ (by omega) (fu_lt (by omega)) rfl)
  · rintro rec i x hi rfl kk
    have hbi := hb i (by omega)
    have hv1 := hl_le hl hh.1 hi
    have hv2 := mt_lv hl hm hh hi
    have hbit : (2 ^ n - 1).testBit i = true := by rw [Nat.testBit_two_pow_sub_one]; simp [hi]
    rw [hN.pl, if_pos (nI_lt hi (by omega)), q_1, nI_add]
    by_cases e : bmx (2 ^ n - 1) (lv h) i = 1048576
    · rw [e, mv_e, if_pos rfl]
      refine ok_some ?_
      have := bmx_mono (F := 2 ^ n - 1) (v := lv h) (show i ≤ n by omega)
      have := hb n (Nat.le_refl _)
      rw [show bmx (2 ^ n - 1) (lv h) n = 1048576 by omega, mv_e]
    · rw [if_neg (fun q => e ((mv_m1 hbi).mp q)), e_at hk h1 h3 (by omega) (by omega), calP_s, y_ck _ (by omega) (by omega), nI_clamp (by omega), bd_s, hv2, mv_n (v := bmx (2 ^ n - 1) (lv h) i) (by omega)]
      by_cases e2 : lv h i = 1048576
      · rw [e2, mv_e, if_pos rfl]
        refine kk _ ?_
        rw [bmx, if_pos hbit, e2, Nat.max_eq_right (by omega), mv_e]
      · rw [if_neg (fun q => e2 ((mv_m1 hv1).mp q)), mv_n (by omega)]
        by_cases e3 : bmx (2 ^ n - 1) (lv h) i < lv h i
        · rw [if_pos (nI_lt e3 (by omega))]
          refine kk _ ?_
          rw [bmx, if_pos hbit, Nat.max_eq_right (by omega), mv_n (by omega)]
        · rw [if_neg (nI_nlt (by omega) (by omega))]
          refine kk _ ?_
          rw [bmx, if_pos hbit, Nat.max_eq_left (by omega), mv_n (by omega)]
  · rintro rec x rfl
    rw [hN.pl, if_neg (nI_nlt (Nat.le_refl _) (by omega))]
    exact ok_some rfl
theorem e_bestSetting (hx : CX σ n O c i sp) (h : HL n O (i / 3) sp lv) (hc : CT σ n O i sp) : f_X0_bestSetting σ i = some (bb n (i / 3 + 1) lv (8 ^ (i / 3 + 1))) := by
  have hk : i / 3 < 3 := by have := hx.hi; omega
  have h512 := p8_le (i / 3) hk
  have h2 := Nat.two_pow_pos n
  have hsz := (hx.st (i / 3) hk).2.1
  unfold f_X0_bestSetting f_X6_size
  rw [q_0, q_mm, q_1048576]
  refine ok_eq (lo3_for (fun j x y => x = bb n (i / 3 + 1) lv j ∧ y = nI (bl n (i / 3 + 1) lv j)) (8 ^ (i / 3 + 1)) ?_ ?_ FU 0 _ _ (Nat.zero_le _) (fu_lt (by omega)) ⟨rfl, rfl⟩)
  · rintro rec r x y hr ⟨rfl, rfl⟩ kk
    have hbl := bl_le (n := n) (lv := lv) (i / 3 + 1) r
    rw [hsz, calP_s, if_pos (nI_lt hr (by omega)), e_isSetting hx.st hx.nc.z hk hr, calP_s, jn1, q_1, nI_add]
    rw [bb, bl] at kk
    cases hb : sgB n (i / 3 + 1) r with
    | false =>
      have hb' : (vrB n (i / 3 + 1) r && decide (srt (i / 3 + 1) r = r)) = false := hb
      rw [hb', if_pos (show nI false.toNat = nI 0 from rfl)]
      dsimp only
      rw [if_neg (nI_nlt (by omega) (by omega))]
      refine kk _ _ ⟨?_, ?_⟩
      · rw [if_neg (fun q => by rw [hb] at q; exact Bool.noConfusion q.1)]
      · rw [if_neg (fun q => by rw [hb] at q; exact Bool.noConfusion q.1)]
    | true =>
      have hb' : (vrB n (i / 3 + 1) r && decide (srt (i / 3 + 1) r = r)) = true := hb
      have hsg := sgB_iff.mp hb
      have hw : wt n lv r ≤ 1048576 := wt_le h hsg.1
      rw [hb', if_neg (show ¬ nI true.toNat = nI 0 by decide), e_all hx.nc.z, calP_s, e_mostAmong hx h hc hsg.1 (by omega), calP_s, show bmx (2 ^ n - 1) (lv r) n = wt n lv r from rfl]
      dsimp only
      by_cases q : wt n lv r < bl n (i / 3 + 1) lv r
      · rw [if_pos (nI_lt q (by omega))]
        refine kk _ _ ⟨?_, ?_⟩
        · rw [if_pos ⟨hb, q⟩]
        · rw [if_pos ⟨hb, q⟩]
      · rw [if_neg (show ¬ nI (wt n lv r) < nI (bl n (i / 3 + 1) lv r) from nI_nlt (by omega) (by omega))]
        refine kk _ _ ⟨?_, ?_⟩
        · rw [if_neg (fun e => q e.2)]
        · rw [if_neg (fun e => q e.2)]
  · rintro rec x y ⟨rfl, rfl⟩
    rw [hsz, calP_s, if_neg (nI_nlt (Nat.le_refl _) (by omega))]
    exact ok_some rfl
end BEST
