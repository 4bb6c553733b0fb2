/-! the class's chase: widening, noting -/
theorem e_fill {σ : St} {a : Nat} (v : Int32) (hl : ln a < 100000) : Ok (f_J7_fill_53178 σ a v) (fun q => (∀ x, x < ln a → q.2.1 a x = v) ∧ Fr (fun c => c = a) σ q.2) := by
  unfold f_J7_fill_53178
  rw [bd_s, q_0]
  refine lo2_for (fun j s => (∀ x, x < j → s.1 a x = v) ∧ Fr (fun c => c = a) σ s) (ln a) ?_ ?_ FU 0 _ (by omega) (fu_lt (by omega)) ⟨fun x hx => by omega, fr_refl⟩
  · rintro rec j s hj ⟨e1, e2⟩ kk
    simp (disch := omega) only [q_0, q_1, q_2, q_3, q_4, q_5, q_6, q_7, q_8, q_9, q_15, q_16, q_31, q_32, q_48, q_57, q_59, q_63, q_64, q_97, q_100, q_122, q_127, q_160, q_255, q_256, q_512, q_1024, q_2816, q_4096, q_16384, q_1048576, q_m1, q_m2, q_m3, q_m4, q_m5, bd_s, calP_s, cal_s, nI_add, pk_mul, pk_sub, z_and, z_or, z_xor, y_nd, y_shl, y_shr, y_tb, y_ck, nI_ltI, nI_eq, nI_clamp, y_m1a, y_m1b, y_m1c, y_m1d, y_m1e, y_b0, y_b1, y_and255, gsI_o, gsI_s, gsI_2, gsR_o, gsR_s, gsR_2, gsL_1, gsL_o, gsL_s, jn0, jn1, jn2, jn3, jn4, jn5, ↓reduceIte, if_true, if_false, ite_self, ne_eq, not_true_eq_false, not_false_eq_true, and_true, true_and, and_false, false_and, Nat.reduceAdd, Nat.reduceMul, Nat.reduceSub, Nat.reducePow, Nat.reduceLT, Nat.reduceEqDiff, Nat.reduceLeDiff, Nat.not_lt_zero, Nat.add_sub_cancel, Nat.add_zero, Nat.zero_add, pk_div, y_dn, Nat.one_mul, Nat.mul_one, reduceCtorEq, hj]
    refine kk _ ⟨fun x hx => ?_, fr_setI e2 rfl⟩
    rw [gsI_s]
    by_cases e : x = j
    · rw [if_pos e]
    · rw [if_neg e]; exact e1 x (by omega)
  · rintro rec s ⟨e1, e2⟩
    simp (disch := omega) only [q_0, q_1, q_2, q_3, q_4, q_5, q_6, q_7, q_8, q_9, q_15, q_16, q_31, q_32, q_48, q_57, q_59, q_63, q_64, q_97, q_100, q_122, q_127, q_160, q_255, q_256, q_512, q_1024, q_2816, q_4096, q_16384, q_1048576, q_m1, q_m2, q_m3, q_m4, q_m5, bd_s, calP_s, cal_s, nI_add, pk_mul, pk_sub, z_and, z_or, z_xor, y_nd, y_shl, y_shr, y_tb, y_ck, nI_ltI, nI_eq, nI_clamp, y_m1a, y_m1b, y_m1c, y_m1d, y_m1e, y_b0, y_b1, y_and255, gsI_o, gsI_s, gsI_2, gsR_o, gsR_s, gsR_2, gsL_1, gsL_o, gsL_s, jn0, jn1, jn2, jn3, jn4, jn5, ↓reduceIte, if_true, if_false, ite_self, ne_eq, not_true_eq_false, not_false_eq_true, and_true, true_and, and_false, false_and, Nat.reduceAdd, Nat.reduceMul, Nat.reduceSub, Nat.reducePow, Nat.reduceLT, Nat.reduceEqDiff, Nat.reduceLeDiff, Nat.not_lt_zero, Nat.add_sub_cancel, Nat.add_zero, Nat.zero_add, pk_div, y_dn, Nat.one_mul, Nat.mul_one, reduceCtorEq, Nat.lt_irrefl]
    exact ok_some ⟨e1, e2⟩
theorem ln_ch : ∀ i, i < 9 → ln (44 + 5 * i) = 8 ^ (i / 3 + 1) ∧ ln (41 + 5 * i) = 8 * 8 ^ (i / 3 + 1) := by decide +kernel
/-- the row with another place of the hunter of a unit -/
def sub (U r t : Nat) : Nat := r - r / U % 8 * U + t * U
section WIDEN
variable {σ : St} {n c i sp : Nat} {O : Nat → Nat}
theorem units : ∀ k, k < 3 → ∀ j, j ≤ k → (8 ^ (k - j) = 1 ∨ 8 ^ (k - j) = 8 ∨ 8 ^ (k - j) = 64) ∧ 8 ^ (k + 1) = 8 * 8 ^ (k - j) * 8 ^ j ∧ 1 ≤ 8 ^ j := by decide
theorem fg_U (k j r : Nat) : fg k j r = r / 8 ^ (k - j) % 8 := by unfold fg; rw [Nat.pow_mul]
theorem sub_fg : ∀ {k j : Nat}, k < 3 → j ≤ k → ∀ {r t : Nat}, r < 8 ^ (k + 1) → t < 8 → sub (8 ^ (k - j)) r t < 8 ^ (k + 1) ∧ ∀ m, m ≤ k → fg k m (sub (8 ^ (k - j)) r t) = if m = j then t else fg k m r := by
  intro k j hk hj r t hr ht
  rcases (show k = 0 ∨ k = 1 ∨ k = 2 by omega) with rfl | rfl | rfl
  · obtain rfl : j = 0 := by omega
    unfold sub fg
    refine ⟨by simp; omega, fun m hm => ?_⟩
    obtain rfl : m = 0 := by omega
    simp; omega
  · rcases (show j = 0 ∨ j = 1 by omega) with rfl | rfl
    · unfold sub fg
      refine ⟨by simp; omega, fun m hm => ?_⟩
      rcases (show m = 0 ∨ m = 1 by omega) with rfl | rfl
      · simp; omega
      · simp; omega
    · unfold sub fg
      refine ⟨by simp; omega, fun m hm => ?_⟩
      rcases (show m = 0 ∨ m = 1 by omega) with rfl | rfl
      · simp; omega
      · simp; omega
  · rcases (show j = 0 ∨ j = 1 ∨ j = 2 by omega) with rfl | rfl | rfl
    all_goals
      unfold sub fg
      refine ⟨by simp; omega, fun m hm => ?_⟩
      rcases (show m = 0 ∨ m = 1 ∨ m = 2 by omega) with rfl | rfl | rfl
      · simp; omega
      · simp; omega
      · simp; omega
theorem vr_fg {k r : Nat} (hk : k < 3) : Vr n (k + 1) r ↔ r < 8 ^ (k + 1) ∧ ∀ m, m ≤ k → fg k m r < n := by
  unfold Vr
  rw [dgs_fg k hk]
  constructor
  · rintro ⟨h1, h2⟩
    exact ⟨h1, fun m hm => h2 _ (List.mem_map.mpr ⟨m, List.mem_range.mpr (by omega), rfl⟩)⟩
  · rintro ⟨h1, h2⟩
    refine ⟨h1, fun d hd => ?_⟩
    obtain ⟨m, hm, rfl⟩ := List.mem_map.mp hd
    exact h2 m (by have := List.mem_range.mp hm; omega)
theorem sub_vr {k j r t : Nat} (hk : k < 3) (hj : j ≤ k) (h8 : n ≤ 8) (hr : Vr n (k + 1) r) (ht : t < n) : Vr n (k + 1) (sub (8 ^ (k - j)) r t) := by
  obtain ⟨h1, h2⟩ := (vr_fg hk).mp hr
  obtain ⟨h3, h4⟩ := sub_fg hk hj h1 (show t < 8 by omega)
  refine (vr_fg hk).mpr ⟨h3, fun m hm => ?_⟩
  rw [h4 m hm]
  split
  · exact ht
  · exact h2 m hm
theorem e_widen (h : CX σ n O c i sp) {j : Nat} (hj : j ≤ i / 3) {T : Nat → Nat} (hT : ∀ r, Vr n (i / 3 + 1) r → σ.1 (43 + 5 * i) r = nI (T r)) : Ok (f_X0_widen σ i (nI j)) (fun q => (∀ r, Vr n (i / 3 + 1) r → q.2.1 (43 + 5 * i) r = nI (uS (fun t => T (sub (8 ^ (i / 3 - j)) r t)) (O (fg (i / 3) j r)) n)) ∧ Fr (fun c => c = 43 + 5 * i ∨ c = 44 + 5 * i) σ q.2) := by
  have hi := h.hi
  have hk : i / 3 < 3 := by omega
  have hz := sz_eq (i / 3) hk
  have h512 := p8_le (i / 3) hk
  have h8 := h.nc.np.h8
  obtain ⟨u1, u2, u3⟩ := units (i / 3) hk j hj
  obtain ⟨l1, -⟩ := ln_ch i hi
  have hh := (h.st (i / 3) hk).1
  have hU : nI 1 <<< nI (3 * (i / 3 - j) &&& 31) = nI (8 ^ (i / 3 - j)) := by
    rw [y_pow (by omega), Nat.pow_mul]
  unfold f_X0_widen f_X6_hunters
  simp (disch := omega) only [q_0, q_1, q_2, q_3, q_4, q_5, q_6, q_7, q_8, q_9, q_15, q_16, q_31, q_32, q_48, q_57, q_59, q_63, q_64, q_97, q_100, q_122, q_127, q_160, q_255, q_256, q_512, q_1024, q_2816, q_4096, q_16384, q_1048576, q_m1, q_m2, q_m3, q_m4, q_m5, bd_s, calP_s, cal_s, nI_add, pk_mul, pk_sub, z_and, z_or, z_xor, y_nd, y_shl, y_shr, y_tb, y_ck, nI_ltI, nI_eq, nI_clamp, y_m1a, y_m1b, y_m1c, y_m1d, y_m1e, y_b0, y_b1, y_and255, gsI_o, gsI_s, gsI_2, gsR_o, gsR_s, gsR_2, gsL_1, gsL_o, gsL_s, jn0, jn1, jn2, jn3, jn4, jn5, ↓reduceIte, if_true, if_false, ite_self, ne_eq, not_true_eq_false, not_false_eq_true, and_true, true_and, and_false, false_and, Nat.reduceAdd, Nat.reduceMul, Nat.reduceSub, Nat.reducePow, Nat.reduceLT, Nat.reduceEqDiff, Nat.reduceLeDiff, Nat.not_lt_zero, Nat.add_sub_cancel, Nat.add_zero, Nat.zero_add, pk_div, y_dn, Nat.one_mul, Nat.mul_one, reduceCtorEq, hh]
  rw [hU]
  refine ok_cal (e_fill (nI 0) (by rw [l1]; omega)) (fun _ s ⟨f1, f2⟩ => ?_)
  dsimp only at f1 f2
  rw [l1] at f1
  refine lo2_for (fun f s' => (∀ r, Vr n (i / 3 + 1) r → s'.1 (44 + 5 * i) r = nI (if fg (i / 3) j r < f then uS (fun t => T (sub (8 ^ (i / 3 - j)) r t)) (O (fg (i / 3) j r)) n else 0)) ∧ Fr (fun c => c = 44 + 5 * i) σ s') n ?_ ?_ FU 0 _ (by omega) (fu_lt (by omega)) ⟨?_, f2⟩
  · rintro rec f s' hf ⟨e1, e2⟩ kk
    have hx : CX s' n O c i sp := cx_fr h (fr_mono e2 (fun c hc => by unfold inC; omega))
    unfold f_X3_places
    simp (disch := omega) only [q_0, q_1, q_2, q_3, q_4, q_5, q_6, q_7, q_8, q_9, q_15, q_16, q_31, q_32, q_48, q_57, q_59, q_63, q_64, q_97, q_100, q_122, q_127, q_160, q_255, q_256, q_512, q_1024, q_2816, q_4096, q_16384, q_1048576, q_m1, q_m2, q_m3, q_m4, q_m5, bd_s, calP_s, cal_s, nI_add, pk_mul, pk_sub, z_and, z_or, z_xor, y_nd, y_shl, y_shr, y_tb, y_ck, nI_ltI, nI_eq, nI_clamp, y_m1a, y_m1b, y_m1c, y_m1d, y_m1e, y_b0, y_b1, y_and255, gsI_o, gsI_s, gsI_2, gsR_o, gsR_s, gsR_2, gsL_1, gsL_o, gsL_s, jn0, jn1, jn2, jn3, jn4, jn5, ↓reduceIte, if_true, if_false, ite_self, ne_eq, not_true_eq_false, not_false_eq_true, and_true, true_and, and_false, false_and, Nat.reduceAdd, Nat.reduceMul, Nat.reduceSub, Nat.reducePow, Nat.reduceLT, Nat.reduceEqDiff, Nat.reduceLeDiff, Nat.not_lt_zero, Nat.add_sub_cancel, Nat.add_zero, Nat.zero_add, pk_div, y_dn, Nat.one_mul, Nat.mul_one, reduceCtorEq, hx.nc.pl, hf, e_outOf hx.nc.z]
    refine lo2_for (fun t s' => (∀ r, Vr n (i / 3 + 1) r → s'.1 (44 + 5 * i) r = nI (if fg (i / 3) j r < f then uS (fun t => T (sub (8 ^ (i / 3 - j)) r t)) (O (fg (i / 3) j r)) n else if fg (i / 3) j r = f then uS (fun t => T (sub (8 ^ (i / 3 - j)) r t)) (O (fg (i / 3) j r)) t else 0)) ∧ Fr (fun c => c = 44 + 5 * i) σ s') n ?_ ?_ FU 0 _ (by omega) (fu_lt (by omega)) ⟨?_, e2⟩
    · rintro rec2 t s2 ht ⟨g1, g2⟩ k2
      have hx2 : CX s2 n O c i sp := cx_fr h (fr_mono g2 (fun c hc => by unfold inC; omega))
      have hl := h.nc.np.lt8 f
      simp (disch := omega) only [q_0, q_1, q_2, q_3, q_4, q_5, q_6, q_7, q_8, q_9, q_15, q_16, q_31, q_32, q_48, q_57, q_59, q_63, q_64, q_97, q_100, q_122, q_127, q_160, q_255, q_256, q_512, q_1024, q_2816, q_4096, q_16384, q_1048576, q_m1, q_m2, q_m3, q_m4, q_m5, bd_s, calP_s, cal_s, nI_add, pk_mul, pk_sub, z_and, z_or, z_xor, y_nd, y_shl, y_shr, y_tb, y_ck, nI_ltI, nI_eq, nI_clamp, y_m1a, y_m1b, y_m1c, y_m1d, y_m1e, y_b0, y_b1, y_and255, gsI_o, gsI_s, gsI_2, gsR_o, gsR_s, gsR_2, gsL_1, gsL_o, gsL_s, jn0, jn1, jn2, jn3, jn4, jn5, ↓reduceIte, if_true, if_false, ite_self, ne_eq, not_true_eq_false, not_false_eq_true, and_true, true_and, and_false, false_and, Nat.reduceAdd, Nat.reduceMul, Nat.reduceSub, Nat.reducePow, Nat.reduceLT, Nat.reduceEqDiff, Nat.reduceLeDiff, Nat.not_lt_zero, Nat.add_sub_cancel, Nat.add_zero, Nat.zero_add, pk_div, y_dn, Nat.one_mul, Nat.mul_one, reduceCtorEq, hx2.nc.pl, ht, e_has]
      cases hb : (O f).testBit t with
      | false =>
        simp only [↓reduceIte]
        refine k2 _ ⟨fun r hr => ?_, g2⟩
        rw [g1 r hr]
        by_cases e : fg (i / 3) j r = f
        · rw [e, if_neg (Nat.lt_irrefl _), if_pos rfl, if_neg (Nat.lt_irrefl _), if_pos rfl, uS, if_neg (by rw [hb]; decide), Nat.or_zero]
        · simp only [e, if_false]
      | true =>
        simp only [↓reduceIte, Bool.true_eq_false]
        refine ok_cal (e_join u1 (hz.trans u2) (by omega) u3 (by omega) (by omega)) (fun _ s3 ⟨j1, j2⟩ => ?_)
        dsimp only at j1 j2
        refine k2 _ ⟨fun r hr => ?_, fr_trans g2 j2⟩
        rw [j1 r (by rw [← u2]; exact hr.1), g1 r hr, ← fg_U]
        by_cases e : fg (i / 3) j r = f
        · have hsv := sub_vr hk hj h8 hr ht
          have hv : s2.1 (43 + 5 * i) (r - f * 8 ^ (i / 3 - j) + t * 8 ^ (i / 3 - j)) = nI (T (sub (8 ^ (i / 3 - j)) r t)) := by
            rw [g2.1 _ (by omega), ← hT _ hsv]
            unfold sub
            rw [← fg_U, e]
          rw [if_pos e, hv, z_or, e, if_neg (Nat.lt_irrefl _), if_pos rfl, if_neg (Nat.lt_irrefl _), if_pos rfl, uS, if_pos hb]
        · rw [if_neg e]
          simp only [e, if_false]
    · rintro rec2 s2 ⟨g1, g2⟩
      have hx2 : CX s2 n O c i sp := cx_fr h (fr_mono g2 (fun c hc => by unfold inC; omega))
      simp (disch := omega) only [q_0, q_1, q_2, q_3, q_4, q_5, q_6, q_7, q_8, q_9, q_15, q_16, q_31, q_32, q_48, q_57, q_59, q_63, q_64, q_97, q_100, q_122, q_127, q_160, q_255, q_256, q_512, q_1024, q_2816, q_4096, q_16384, q_1048576, q_m1, q_m2, q_m3, q_m4, q_m5, bd_s, calP_s, cal_s, nI_add, pk_mul, pk_sub, z_and, z_or, z_xor, y_nd, y_shl, y_shr, y_tb, y_ck, nI_ltI, nI_eq, nI_clamp, y_m1a, y_m1b, y_m1c, y_m1d, y_m1e, y_b0, y_b1, y_and255, gsI_o, gsI_s, gsI_2, gsR_o, gsR_s, gsR_2, gsL_1, gsL_o, gsL_s, jn0, jn1, jn2, jn3, jn4, jn5, ↓reduceIte, if_true, if_false, ite_self, ne_eq, not_true_eq_false, not_false_eq_true, and_true, true_and, and_false, false_and, Nat.reduceAdd, Nat.reduceMul, Nat.reduceSub, Nat.reducePow, Nat.reduceLT, Nat.reduceEqDiff, Nat.reduceLeDiff, Nat.not_lt_zero, Nat.add_sub_cancel, Nat.add_zero, Nat.zero_add, pk_div, y_dn, Nat.one_mul, Nat.mul_one, reduceCtorEq, hx2.nc.pl, Nat.lt_irrefl]
      refine kk _ ⟨fun r hr => ?_, g2⟩
      rw [g1 r hr]
      by_cases e : fg (i / 3) j r < f
      · rw [if_pos e, if_pos (by omega)]
      · rw [if_neg e]
        by_cases e' : fg (i / 3) j r = f
        · rw [if_pos e', if_pos (by omega)]
        · rw [if_neg e', if_neg (by omega)]
    · intro r hr
      rw [e1 r hr]
      by_cases e : fg (i / 3) j r < f
      · rw [if_pos e, if_pos e]
      · rw [if_neg e, if_neg e]
        split <;> rfl
  · rintro rec s' ⟨e1, e2⟩
    have hx : CX s' n O c i sp := cx_fr h (fr_mono e2 (fun c hc => by unfold inC; omega))
    unfold f_X3_places cpy
    rw [hz]
    simp (disch := omega) only [q_0, q_1, q_2, q_3, q_4, q_5, q_6, q_7, q_8, q_9, q_15, q_16, q_31, q_32, q_48, q_57, q_59, q_63, q_64, q_97, q_100, q_122, q_127, q_160, q_255, q_256, q_512, q_1024, q_2816, q_4096, q_16384, q_1048576, q_m1, q_m2, q_m3, q_m4, q_m5, bd_s, calP_s, cal_s, nI_add, pk_mul, pk_sub, z_and, z_or, z_xor, y_nd, y_shl, y_shr, y_tb, y_ck, nI_ltI, nI_eq, nI_clamp, y_m1a, y_m1b, y_m1c, y_m1d, y_m1e, y_b0, y_b1, y_and255, gsI_o, gsI_s, gsI_2, gsR_o, gsR_s, gsR_2, gsL_1, gsL_o, gsL_s, jn0, jn1, jn2, jn3, jn4, jn5, ↓reduceIte, if_true, if_false, ite_self, ne_eq, not_true_eq_false, not_false_eq_true, and_true, true_and, and_false, false_and, Nat.reduceAdd, Nat.reduceMul, Nat.reduceSub, Nat.reducePow, Nat.reduceLT, Nat.reduceEqDiff, Nat.reduceLeDiff, Nat.not_lt_zero, Nat.add_sub_cancel, Nat.add_zero, Nat.zero_add, pk_div, y_dn, Nat.one_mul, Nat.mul_one, reduceCtorEq, hx.nc.pl, Nat.lt_irrefl]
    rw [if_pos (by omega)]
    refine ok_some ⟨fun r hr => ?_, fr_setR (fr_mono e2 (fun c hc => Or.inr hc)) (Or.inl rfl)⟩
    rw [gsR_s, pk_cpy_in (by omega) (by have := hr.1; omega)]
    rw [show 0 + (r - 0) = r by omega, e1 r hr, if_pos (((vr_fg hk).mp hr).2 j hj)]
  · intro r hr
    rw [f1 r hr.1, if_neg (by omega)]
end WIDEN
