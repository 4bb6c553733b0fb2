/-! what is told, and the steps of rows, reference -/
section MOVED
variable {σ : St} {n : Nat} {O : Nat → Nat} {k : Nat}
theorem fg_num2 (r : Nat) (h : r < 64) : 8 * fg 1 0 r + fg 1 1 r = r := by unfold fg; simp; omega
theorem fg_num3 (r : Nat) (h : r < 512) : 64 * fg 2 0 r + 8 * fg 2 1 r + fg 2 2 r = r := by unfold fg; simp; omega
theorem m_settled (hk : k < 3) {r : Nat} (hr : r < 8 ^ (k + 1)) (h : ∀ i, i ≤ k → σ.1 109 i = nI (fg k i r)) : Ok (f_X10_settled σ (nI (k + 1))) (fun q => q.1 = nI (srt (k + 1) r) ∧ Fr (fun c => c = 109) σ q.2) := by
  rcases (show k = 0 ∨ k = 1 ∨ k = 2 by omega) with rfl | rfl | rfl
  · have e : fg 0 0 r = r := by unfold fg; simp; omega
    have h0 := h 0 (by omega)
    rw [e] at h0
    exact m_settled1 (by omega) h0
  · have := m_settled2 (fg_lt 1 0 r) (fg_lt 1 1 r) (h 0 (by omega)) (h 1 (by omega))
    rw [fg_num2 r hr] at this
    exact this
  · have := m_settled3 (fg_lt 2 0 r) (fg_lt 2 1 r) (fg_lt 2 2 r) (h 0 (by omega)) (h 1 (by omega)) (h 2 (by omega))
    rw [fg_num3 r hr] at this
    exact this
def scr (c : Nat) : Prop := c = 108 ∨ c = 109
theorem nm_fr {P : Nat → Prop} {s : St} (h : NM σ n O) (f : Fr P σ s) (h0 : ¬ P 100) (h1 : ¬ P 101) : NM s n O := ⟨h.np, by rw [f.1 100 h0]; exact h.pl, fun p hp => by rw [f.1 101 h1]; exact h.r p hp⟩
theorem stB_false {k r r' i : Nat} (hb : (O (fg k i r)).testBit (fg k i r') = false) : ∀ m, i < m → stB O k r r' m = false := by
  intro m
  induction m with
  | zero => intro q; omega
  | succ m ih =>
    intro q
    rcases Nat.lt_succ_iff_lt_or_eq.mp q with q | rfl
    · rw [stB, ih q]; rfl
    · rw [stB, hb]; exact Bool.and_false _
theorem stB_true {k r r' : Nat} : ∀ m, (∀ i, i < m → (O (fg k i r)).testBit (fg k i r') = true) → stB O k r r' m = true := by
  intro m
  induction m with
  | zero => intro _; rfl
  | succ m ih => intro h; rw [stB, ih (fun i hi => h i (by omega)), h m (by omega)]; rfl
theorem fg_mem (hk : k < 3) {i r : Nat} (hi : i ≤ k) : fg k i r ∈ dgs (k + 1) r := by
  rw [dgs_fg k hk]
  exact List.mem_map.mpr ⟨i, List.mem_range.mpr (by omega), rfl⟩
theorem m_moved (hN : NM σ n O) (hk : k < 3) {r r' : Nat} (hr : Vr n (k + 1) r) (hr' : r' < 8 ^ (k + 1)) : Ok (f_X10_moved σ (nI (k + 1)) (nI r) (nI r')) (fun q => q.1 = (if stB O k r r' (k + 1) = true then nI (srt (k + 1) r') else M1) ∧ Fr scr σ q.2) := by
  have h2 := p8_le k hk
  have h8 := hN.np.h8
  have hr1 := hr.1
  unfold f_X10_moved
  refine ok_cal (m_spell hk (by omega)) (fun _ s ⟨h1, h3⟩ => ?_)
  dsimp only at h1 h3
  have h3 : Fr scr σ s := fr_mono h3 (fun c hc => Or.inl hc)
  have hm := nm_fr hN h3 (by unfold scr; omega) (by unfold scr; omega)
  simp (disch := omega) only [q_0, q_1, q_2, q_3, q_4, q_5, q_6, q_7, q_8, q_9, q_15, q_16, q_31, q_32, q_48, q_57, q_59, q_63, q_64, q_97, q_100, q_122, q_127, q_160, q_255, q_256, q_512, q_1024, q_2816, q_4096, q_16384, q_1048576, q_m1, q_m2, q_m3, q_m4, q_m5, bd_s, calP_s, cal_s, nI_add, pk_mul, pk_sub, z_and, z_or, z_xor, y_nd, y_shl, y_shr, y_tb, y_ck, nI_ltI, nI_eq, nI_clamp, y_m1a, y_m1b, y_m1c, y_m1d, y_m1e, y_b0, y_b1, y_and255, gsI_o, gsI_s, gsI_2, gsR_o, gsR_s, gsR_2, gsL_1, gsL_o, gsL_s, jn0, jn1, jn2, jn3, jn4, jn5, ↓reduceIte, if_true, if_false, ite_self, ne_eq, not_true_eq_false, not_false_eq_true, and_true, true_and, and_false, false_and, Nat.reduceAdd, Nat.reduceMul, Nat.reduceSub, Nat.reducePow, Nat.reduceLT, Nat.reduceEqDiff, Nat.reduceLeDiff, Nat.not_lt_zero, Nat.add_sub_cancel, Nat.add_zero, Nat.zero_add, pk_div, y_dn, Nat.one_mul, Nat.mul_one, reduceCtorEq]
  rw [← dI_s k]
  refine lo4_dn (fun j s' x y => (y = nI 1 ∧ x = nI (r' / 2 ^ (3 * (k + 1 - j))) ∧ (∀ i, i ≤ k → j ≤ i → s'.1 109 i = nI (fg k i r') ∧ (O (fg k i r)).testBit (fg k i r') = true) ∨ y = nI 0 ∧ stB O k r r' (k + 1) = false) ∧ Fr (fun c => c = 109) s s') (k + 1) ?_ ?_ FU (k + 1) _ _ _ (by omega) (fu_lt (by omega)) ⟨Or.inl ⟨rfl, ?_, ?_⟩, fr_refl⟩
  · rintro rec j s' x y hj ⟨⟨rfl, rfl, e1⟩ | ⟨rfl, e1⟩, e2⟩ kk
    · have hx : r' / 2 ^ (3 * (k + 1 - (j + 1))) ≤ r' := Nat.div_le_self _ _
      have hd : r' / 2 ^ (3 * (k + 1 - (j + 1))) - r' / 2 ^ (3 * (k + 1 - (j + 1))) / 8 * 8 = fg k j r' := by
        unfold fg
        rw [show k + 1 - (j + 1) = k - j by omega]
        omega
      have a1 := fg_lt k j r
      have a2 := fg_lt k j r'
      have a3 : fg k j r < n := hr.2 _ (fg_mem hk (by omega))
      have a4 := hN.np.lt8 (fg k j r)
      have a5 : s'.1 108 j = nI (fg k j r) := by rw [e2.1 108 (by omega)]; exact h1 j (by omega)
      have e3 : Fr (fun c => c = 109) s (setI s' 109 j (nI (fg k j r'))) := fr_setI e2 rfl
      have hm' := nm_fr hm e3 (by omega) (by omega)
      simp (disch := omega) only [q_0, q_1, q_2, q_3, q_4, q_5, q_6, q_7, q_8, q_9, q_15, q_16, q_31, q_32, q_48, q_57, q_59, q_63, q_64, q_97, q_100, q_122, q_127, q_160, q_255, q_256, q_512, q_1024, q_2816, q_4096, q_16384, q_1048576, q_m1, q_m2, q_m3, q_m4, q_m5, bd_s, calP_s, cal_s, nI_add, pk_mul, pk_sub, z_and, z_or, z_xor, y_nd, y_shl, y_shr, y_tb, y_ck, nI_ltI, nI_eq, nI_clamp, y_m1a, y_m1b, y_m1c, y_m1d, y_m1e, y_b0, y_b1, y_and255, gsI_o, gsI_s, gsI_2, gsR_o, gsR_s, gsR_2, gsL_1, gsL_o, gsL_s, jn0, jn1, jn2, jn3, jn4, jn5, ↓reduceIte, if_true, if_false, ite_self, ne_eq, not_true_eq_false, not_false_eq_true, and_true, true_and, and_false, false_and, Nat.reduceAdd, Nat.reduceMul, Nat.reduceSub, Nat.reducePow, Nat.reduceLT, Nat.reduceEqDiff, Nat.reduceLeDiff, Nat.not_lt_zero, Nat.add_sub_cancel, Nat.add_zero, Nat.zero_add, pk_div, y_dn, Nat.one_mul, Nat.mul_one, reduceCtorEq, hd, a5, e_stepsOf hm' a3]
      cases hb : (O (fg k j r)).testBit (fg k j r') with
      | true =>
        simp only [↓reduceIte]
        refine kk _ _ _ ⟨Or.inl ⟨rfl, ?_, ?_⟩, e3⟩
        · rw [fg_div k j r' (by omega)]
        · intro i hi hij
          by_cases e : i = j
          · subst e; simp (disch := omega) only [q_0, q_1, q_2, q_3, q_4, q_5, q_6, q_7, q_8, q_9, q_15, q_16, q_31, q_32, q_48, q_57, q_59, q_63, q_64, q_97, q_100, q_122, q_127, q_160, q_255, q_256, q_512, q_1024, q_2816, q_4096, q_16384, q_1048576, q_m1, q_m2, q_m3, q_m4, q_m5, bd_s, calP_s, cal_s, nI_add, pk_mul, pk_sub, z_and, z_or, z_xor, y_nd, y_shl, y_shr, y_tb, y_ck, nI_ltI, nI_eq, nI_clamp, y_m1a, y_m1b, y_m1c, y_m1d, y_m1e, y_b0, y_b1, y_and255, gsI_o, gsI_s, gsI_2, gsR_o, gsR_s, gsR_2, gsL_1, gsL_o, gsL_s, jn0, jn1, jn2, jn3, jn4, jn5, ↓reduceIte, if_true, if_false, ite_self, ne_eq, not_true_eq_false, not_false_eq_true, and_true, true_and, and_false, false_and, Nat.reduceAdd, Nat.reduceMul, Nat.reduceSub, Nat.reducePow, Nat.reduceLT, Nat.reduceEqDiff, Nat.reduceLeDiff, Nat.not_lt_zero, Nat.add_sub_cancel, Nat.add_zero, Nat.zero_add, pk_div, y_dn, Nat.one_mul, Nat.mul_one, reduceCtorEq]; exact hb
          · simp (disch := omega) only [q_0, q_1, q_2, q_3, q_4, q_5, q_6, q_7, q_8, q_9, q_15, q_16, q_31, q_32, q_48, q_57, q_59, q_63, q_64, q_97, q_100, q_122, q_127, q_160, q_255, q_256, q_512, q_1024, q_2816, q_4096, q_16384, q_1048576, q_m1, q_m2, q_m3, q_m4, q_m5, bd_s, calP_s, cal_s, nI_add, pk_mul, pk_sub, z_and, z_or, z_xor, y_nd, y_shl, y_shr, y_tb, y_ck, nI_ltI, nI_eq, nI_clamp, y_m1a, y_m1b, y_m1c, y_m1d, y_m1e, y_b0, y_b1, y_and255, gsI_o, gsI_s, gsI_2, gsR_o, gsR_s, gsR_2, gsL_1, gsL_o, gsL_s, jn0, jn1, jn2, jn3, jn4, jn5, ↓reduceIte, if_true, if_false, ite_self, ne_eq, not_true_eq_false, not_false_eq_true, and_true, true_and, and_false, false_and, Nat.reduceAdd, Nat.reduceMul, Nat.reduceSub, Nat.reducePow, Nat.reduceLT, Nat.reduceEqDiff, Nat.reduceLeDiff, Nat.not_lt_zero, Nat.add_sub_cancel, Nat.add_zero, Nat.zero_add, pk_div, y_dn, Nat.one_mul, Nat.mul_one, reduceCtorEq, e]; exact e1 i hi (by omega)
      | false =>
        simp only [↓reduceIte, Bool.false_eq_true]
        exact kk _ _ _ ⟨Or.inr ⟨rfl, stB_false hb _ (by omega)⟩, e3⟩
    · simp (disch := omega) only [q_0, q_1, q_2, q_3, q_4, q_5, q_6, q_7, q_8, q_9, q_15, q_16, q_31, q_32, q_48, q_57, q_59, q_63, q_64, q_97, q_100, q_122, q_127, q_160, q_255, q_256, q_512, q_1024, q_2816, q_4096, q_16384, q_1048576, q_m1, q_m2, q_m3, q_m4, q_m5, bd_s, calP_s, cal_s, nI_add, pk_mul, pk_sub, z_and, z_or, z_xor, y_nd, y_shl, y_shr, y_tb, y_ck, nI_ltI, nI_eq, nI_clamp, y_m1a, y_m1b, y_m1c, y_m1d, y_m1e, y_b0, y_b1, y_and255, gsI_o, gsI_s, gsI_2, gsR_o, gsR_s, gsR_2, gsL_1, gsL_o, gsL_s, jn0, jn1, jn2, jn3, jn4, jn5, ↓reduceIte, if_true, if_false, ite_self, ne_eq, not_true_eq_false, not_false_eq_true, and_true, true_and, and_false, false_and, Nat.reduceAdd, Nat.reduceMul, Nat.reduceSub, Nat.reducePow, Nat.reduceLT, Nat.reduceEqDiff, Nat.reduceLeDiff, Nat.not_lt_zero, Nat.add_sub_cancel, Nat.add_zero, Nat.zero_add, pk_div, y_dn, Nat.one_mul, Nat.mul_one, reduceCtorEq]
      exact ok_some ⟨by rw [e1]; rfl, fr_trans h3 (fr_mono e2 (fun c hc => Or.inr hc))⟩
  · rintro rec s' x y ⟨⟨rfl, rfl, e1⟩ | ⟨rfl, e1⟩, e2⟩
    · simp (disch := omega) only [q_0, q_1, q_2, q_3, q_4, q_5, q_6, q_7, q_8, q_9, q_15, q_16, q_31, q_32, q_48, q_57, q_59, q_63, q_64, q_97, q_100, q_122, q_127, q_160, q_255, q_256, q_512, q_1024, q_2816, q_4096, q_16384, q_1048576, q_m1, q_m2, q_m3, q_m4, q_m5, bd_s, calP_s, cal_s, nI_add, pk_mul, pk_sub, z_and, z_or, z_xor, y_nd, y_shl, y_shr, y_tb, y_ck, nI_ltI, nI_eq, nI_clamp, y_m1a, y_m1b, y_m1c, y_m1d, y_m1e, y_b0, y_b1, y_and255, gsI_o, gsI_s, gsI_2, gsR_o, gsR_s, gsR_2, gsL_1, gsL_o, gsL_s, jn0, jn1, jn2, jn3, jn4, jn5, ↓reduceIte, if_true, if_false, ite_self, ne_eq, not_true_eq_false, not_false_eq_true, and_true, true_and, and_false, false_and, Nat.reduceAdd, Nat.reduceMul, Nat.reduceSub, Nat.reducePow, Nat.reduceLT, Nat.reduceEqDiff, Nat.reduceLeDiff, Nat.not_lt_zero, Nat.add_sub_cancel, Nat.add_zero, Nat.zero_add, pk_div, y_dn, Nat.one_mul, Nat.mul_one, reduceCtorEq]
      refine ok_cal (m_settled hk hr' (fun i hi => (e1 i hi (by omega)).1)) (fun v s2 ⟨g1, g2⟩ => ?_)
      dsimp only at g1 g2
      refine ok_some ⟨?_, fr_trans h3 (fr_trans (fr_mono e2 (fun c hc => Or.inr hc)) (fr_mono g2 (fun c hc => Or.inr hc)))⟩
      rw [stB_true (k + 1) (fun i hi => (e1 i (by omega) (by omega)).2)]
      exact g1
    · simp (disch := omega) only [q_0, q_1, q_2, q_3, q_4, q_5, q_6, q_7, q_8, q_9, q_15, q_16, q_31, q_32, q_48, q_57, q_59, q_63, q_64, q_97, q_100, q_122, q_127, q_160, q_255, q_256, q_512, q_1024, q_2816, q_4096, q_16384, q_1048576, q_m1, q_m2, q_m3, q_m4, q_m5, bd_s, calP_s, cal_s, nI_add, pk_mul, pk_sub, z_and, z_or, z_xor, y_nd, y_shl, y_shr, y_tb, y_ck, nI_ltI, nI_eq, nI_clamp, y_m1a, y_m1b, y_m1c, y_m1d, y_m1e, y_b0, y_b1, y_and255, gsI_o, gsI_s, gsI_2, gsR_o, gsR_s, gsR_2, gsL_1, gsL_o, gsL_s, jn0, jn1, jn2, jn3, jn4, jn5, ↓reduceIte, if_true, if_false, ite_self, ne_eq, not_true_eq_false, not_false_eq_true, and_true, true_and, and_false, false_and, Nat.reduceAdd, Nat.reduceMul, Nat.reduceSub, Nat.reducePow, Nat.reduceLT, Nat.reduceEqDiff, Nat.reduceLeDiff, Nat.not_lt_zero, Nat.add_sub_cancel, Nat.add_zero, Nat.zero_add, pk_div, y_dn, Nat.one_mul, Nat.mul_one, reduceCtorEq]
      exact ok_some ⟨by rw [e1]; rfl, fr_trans h3 (fr_mono e2 (fun c hc => Or.inr hc))⟩
  · simp
  · intro i hi hij; omega
theorem m_told (hN : NM σ n O) (hk : k < 3) (v : Int32) : Ok (f_X10_told σ (nI (k + 1)) v) (fun q => q.1 = (if tlB n v (k + 1) = true then nI (srt (k + 1) (tlR v (k + 1))) else M1) ∧ Fr scr σ q.2) := by
  have h8 := hN.np.h8
  unfold f_X10_told
  rw [q_0, q_1]
  refine lo3_for (fun i s x => x = nI (tlB n v i).toNat ∧ (∀ j, j < i → s.1 109 j = nI (gv v j)) ∧ Fr (fun c => c = 109) σ s) (k + 1) ?_ ?_ FU 0 _ _ (by omega) (fu_lt (by omega)) ⟨rfl, ?_, fr_refl⟩
  · rintro rec i s x hi ⟨rfl, e1, e2⟩ kk
    have a1 := gv_lt v i
    have hn : s.1 100 0 = nI n := by rw [e2.1 100 (by omega)]; exact hN.pl
    have e3 : Fr (fun c => c = 109) σ (setI s 109 i (nI (gv v i))) := fr_setI e2 rfl
    have e4 : ∀ j, j < i + 1 → (setI s 109 i (nI (gv v i))).1 109 j = nI (gv v j) := by
      intro j hj
      rw [gsI_s]
      by_cases e : j = i
      · subst e; rw [if_pos rfl]
      · rw [if_neg e]; exact e1 j (by omega)
    rw [tlB] at kk
    cases hb : tlB n v i with
    | false =>
      rw [hb] at kk
      simp (disch := omega) only [q_0, q_1, q_2, q_3, q_4, q_5, q_6, q_7, q_8, q_9, q_15, q_16, q_31, q_32, q_48, q_57, q_59, q_63, q_64, q_97, q_100, q_122, q_127, q_160, q_255, q_256, q_512, q_1024, q_2816, q_4096, q_16384, q_1048576, q_m1, q_m2, q_m3, q_m4, q_m5, bd_s, calP_s, cal_s, nI_add, pk_mul, pk_sub, z_and, z_or, z_xor, y_nd, y_shl, y_shr, y_tb, y_ck, nI_ltI, nI_eq, nI_clamp, y_m1a, y_m1b, y_m1c, y_m1d, y_m1e, y_b0, y_b1, y_and255, gsI_o, gsI_s, gsI_2, gsR_o, gsR_s, gsR_2, gsL_1, gsL_o, gsL_s, jn0, jn1, jn2, jn3, jn4, jn5, ↓reduceIte, if_true, if_false, ite_self, ne_eq, not_true_eq_false, not_false_eq_true, and_true, true_and, and_false, false_and, Nat.reduceAdd, Nat.reduceMul, Nat.reduceSub, Nat.reducePow, Nat.reduceLT, Nat.reduceEqDiff, Nat.reduceLeDiff, Nat.not_lt_zero, Nat.add_sub_cancel, Nat.add_zero, Nat.zero_add, pk_div, y_dn, Nat.one_mul, Nat.mul_one, reduceCtorEq, hi, gv_eq, Bool.toNat_false]
      exact kk _ (nI 0) ⟨rfl, e4, e3⟩
    | true =>
      rw [hb] at kk
      by_cases q : gv v i < n
      · simp (disch := omega) only [q_0, q_1, q_2, q_3, q_4, q_5, q_6, q_7, q_8, q_9, q_15, q_16, q_31, q_32, q_48, q_57, q_59, q_63, q_64, q_97, q_100, q_122, q_127, q_160, q_255, q_256, q_512, q_1024, q_2816, q_4096, q_16384, q_1048576, q_m1, q_m2, q_m3, q_m4, q_m5, bd_s, calP_s, cal_s, nI_add, pk_mul, pk_sub, z_and, z_or, z_xor, y_nd, y_shl, y_shr, y_tb, y_ck, nI_ltI, nI_eq, nI_clamp, y_m1a, y_m1b, y_m1c, y_m1d, y_m1e, y_b0, y_b1, y_and255, gsI_o, gsI_s, gsI_2, gsR_o, gsR_s, gsR_2, gsL_1, gsL_o, gsL_s, jn0, jn1, jn2, jn3, jn4, jn5, ↓reduceIte, if_true, if_false, ite_self, ne_eq, not_true_eq_false, not_false_eq_true, and_true, true_and, and_false, false_and, Nat.reduceAdd, Nat.reduceMul, Nat.reduceSub, Nat.reducePow, Nat.reduceLT, Nat.reduceEqDiff, Nat.reduceLeDiff, Nat.not_lt_zero, Nat.add_sub_cancel, Nat.add_zero, Nat.zero_add, pk_div, y_dn, Nat.one_mul, Nat.mul_one, reduceCtorEq, hi, gv_eq, Bool.toNat_true, hn, q]
        exact kk _ (nI 1) ⟨by simp [q], e4, e3⟩
      · simp (disch := omega) only [q_0, q_1, q_2, q_3, q_4, q_5, q_6, q_7, q_8, q_9, q_15, q_16, q_31, q_32, q_48, q_57, q_59, q_63, q_64, q_97, q_100, q_122, q_127, q_160, q_255, q_256, q_512, q_1024, q_2816, q_4096, q_16384, q_1048576, q_m1, q_m2, q_m3, q_m4, q_m5, bd_s, calP_s, cal_s, nI_add, pk_mul, pk_sub, z_and, z_or, z_xor, y_nd, y_shl, y_shr, y_tb, y_ck, nI_ltI, nI_eq, nI_clamp, y_m1a, y_m1b, y_m1c, y_m1d, y_m1e, y_b0, y_b1, y_and255, gsI_o, gsI_s, gsI_2, gsR_o, gsR_s, gsR_2, gsL_1, gsL_o, gsL_s, jn0, jn1, jn2, jn3, jn4, jn5, ↓reduceIte, if_true, if_false, ite_self, ne_eq, not_true_eq_false, not_false_eq_true, and_true, true_and, and_false, false_and, Nat.reduceAdd, Nat.reduceMul, Nat.reduceSub, Nat.reducePow, Nat.reduceLT, Nat.reduceEqDiff, Nat.reduceLeDiff, Nat.not_lt_zero, Nat.add_sub_cancel, Nat.add_zero, Nat.zero_add, pk_div, y_dn, Nat.one_mul, Nat.mul_one, reduceCtorEq, hi, gv_eq, Bool.toNat_true, hn, q]
        exact kk _ (nI 0) ⟨by simp [q], e4, e3⟩
  · rintro rec s x ⟨rfl, e1, e2⟩
    cases hb : tlB n v (k + 1) with
    | false =>
      simp (disch := omega) only [q_0, q_1, q_2, q_3, q_4, q_5, q_6, q_7, q_8, q_9, q_15, q_16, q_31, q_32, q_48, q_57, q_59, q_63, q_64, q_97, q_100, q_122, q_127, q_160, q_255, q_256, q_512, q_1024, q_2816, q_4096, q_16384, q_1048576, q_m1, q_m2, q_m3, q_m4, q_m5, bd_s, calP_s, cal_s, nI_add, pk_mul, pk_sub, z_and, z_or, z_xor, y_nd, y_shl, y_shr, y_tb, y_ck, nI_ltI, nI_eq, nI_clamp, y_m1a, y_m1b, y_m1c, y_m1d, y_m1e, y_b0, y_b1, y_and255, gsI_o, gsI_s, gsI_2, gsR_o, gsR_s, gsR_2, gsL_1, gsL_o, gsL_s, jn0, jn1, jn2, jn3, jn4, jn5, ↓reduceIte, if_true, if_false, ite_self, ne_eq, not_true_eq_false, not_false_eq_true, and_true, true_and, and_false, false_and, Nat.reduceAdd, Nat.reduceMul, Nat.reduceSub, Nat.reducePow, Nat.reduceLT, Nat.reduceEqDiff, Nat.reduceLeDiff, Nat.not_lt_zero, Nat.add_sub_cancel, Nat.add_zero, Nat.zero_add, pk_div, y_dn, Nat.one_mul, Nat.mul_one, reduceCtorEq, Nat.lt_irrefl, Bool.toNat_false]
      exact ok_some ⟨rfl, fr_mono e2 (fun c hc => Or.inr hc)⟩
    | true =>
      have hr := tlR_lt h8 hb
      have hf : ∀ i, i ≤ k → s.1 109 i = nI (fg k i (tlR v (k + 1))) := by
        intro i hi
        rw [e1 i (by omega)]
        have g0 := tlB_le hb (i := 0) (by omega)
        rcases (show k = 0 ∨ k = 1 ∨ k = 2 by omega) with rfl | rfl | rfl
        · obtain rfl : i = 0 := by omega
          unfold fg; simp [tlR]; congr 1; omega
        · have g1 := tlB_le hb (i := 1) (by omega)
          rcases (show i = 0 ∨ i = 1 by omega) with rfl | rfl
          · unfold fg; simp [tlR]; congr 1; omega
          · unfold fg; simp [tlR]; congr 1; omega
        · have g1 := tlB_le hb (i := 1) (by omega)
          have g2 := tlB_le hb (i := 2) (by omega)
          rcases (show i = 0 ∨ i = 1 ∨ i = 2 by omega) with rfl | rfl | rfl
          · unfold fg; simp [tlR]; congr 1; omega
          · unfold fg; simp [tlR]; congr 1; omega
          · unfold fg; simp [tlR]; congr 1; omega
      simp (disch := omega) only [q_0, q_1, q_2, q_3, q_4, q_5, q_6, q_7, q_8, q_9, q_15, q_16, q_31, q_32, q_48, q_57, q_59, q_63, q_64, q_97, q_100, q_122, q_127, q_160, q_255, q_256, q_512, q_1024, q_2816, q_4096, q_16384, q_1048576, q_m1, q_m2, q_m3, q_m4, q_m5, bd_s, calP_s, cal_s, nI_add, pk_mul, pk_sub, z_and, z_or, z_xor, y_nd, y_shl, y_shr, y_tb, y_ck, nI_ltI, nI_eq, nI_clamp, y_m1a, y_m1b, y_m1c, y_m1d, y_m1e, y_b0, y_b1, y_and255, gsI_o, gsI_s, gsI_2, gsR_o, gsR_s, gsR_2, gsL_1, gsL_o, gsL_s, jn0, jn1, jn2, jn3, jn4, jn5, ↓reduceIte, if_true, if_false, ite_self, ne_eq, not_true_eq_false, not_false_eq_true, and_true, true_and, and_false, false_and, Nat.reduceAdd, Nat.reduceMul, Nat.reduceSub, Nat.reducePow, Nat.reduceLT, Nat.reduceEqDiff, Nat.reduceLeDiff, Nat.not_lt_zero, Nat.add_sub_cancel, Nat.add_zero, Nat.zero_add, pk_div, y_dn, Nat.one_mul, Nat.mul_one, reduceCtorEq, Nat.lt_irrefl, Bool.toNat_true]
      refine ok_cal (m_settled hk hr hf) (fun w s2 ⟨g1, g2⟩ => ?_)
      dsimp only at g1 g2
      exact ok_some ⟨g1, fr_trans (fr_mono e2 (fun c hc => Or.inr hc)) (fr_mono g2 (fun c hc => Or.inr hc))⟩
  · intro j hj; omega
end MOVED
