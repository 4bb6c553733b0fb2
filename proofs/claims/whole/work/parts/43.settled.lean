/-! rows in order, reference -/
section SETTD
variable {σ : St} {n : Nat} {O : Nat → Nat} {k : Nat}
theorem m_settled1 {a : Nat} (ha : a < 8) (h0 : σ.1 109 0 = nI a) : Ok (f_X10_settled σ (nI 1)) (fun q => q.1 = nI (srt 1 a) ∧ Fr (fun c => c = 109) σ q.2) := by
  unfold f_X10_settled
  obtain ⟨N, hN⟩ : ∃ N, FU = N + 11 := ⟨999989, rfl⟩
  rw [hN]
  iterate 6 (try (rw [lo2_S]; simp (disch := omega) only [q_0, q_1, q_2, q_3, q_4, q_5, q_6, q_7, q_8, q_9, q_15, q_16, q_31, q_32, q_48, q_57, q_59, q_63, q_64, q_97, q_100, q_122, q_127, q_160, q_255, q_256, q_512, q_1024, q_2816, q_4096, q_16384, q_1048576, q_m1, q_m2, q_m3, q_m4, q_m5, bd_s, calP_s, cal_s, nI_add, pk_mul, pk_sub, z_and, z_or, z_xor, y_nd, y_shl, y_shr, y_tb, y_ck, nI_ltI, nI_eq, nI_clamp, y_m1a, y_m1b, y_m1c, y_m1d, y_m1e, y_b0, y_b1, y_and255, gsI_o, gsI_s, gsI_2, gsR_o, gsR_s, gsR_2, gsL_1, gsL_o, gsL_s, jn0, jn1, jn2, jn3, jn4, jn5, ↓reduceIte, if_true, if_false, ite_self, ne_eq, not_true_eq_false, not_false_eq_true, and_true, true_and, and_false, false_and, Nat.reduceAdd, Nat.reduceMul, Nat.reduceSub, Nat.reducePow, Nat.reduceLT, Nat.reduceEqDiff, Nat.reduceLeDiff, Nat.not_lt_zero, Nat.add_sub_cancel, Nat.add_zero, Nat.zero_add, pk_div, y_dn, Nat.one_mul, Nat.mul_one, reduceCtorEq, h0]))
  exact ok_some ⟨by simp [srt], fr_refl⟩
theorem m_settled2 {a b : Nat} (ha : a < 8) (hb : b < 8) (h0 : σ.1 109 0 = nI a) (h1 : σ.1 109 1 = nI b) : Ok (f_X10_settled σ (nI 2)) (fun q => q.1 = nI (srt 2 (8 * a + b)) ∧ Fr (fun c => c = 109) σ q.2) := by
  have hs := s2_all a ha b hb
  unfold f_X10_settled
  obtain ⟨N, hN⟩ : ∃ N, FU = N + 11 := ⟨999989, rfl⟩
  rw [hN]
  rcases Nat.lt_or_ge a b with h | h
  all_goals
    iterate 10 (try (rw [lo2_S]; simp (disch := omega) only [q_0, q_1, q_2, q_3, q_4, q_5, q_6, q_7, q_8, q_9, q_15, q_16, q_31, q_32, q_48, q_57, q_59, q_63, q_64, q_97, q_100, q_122, q_127, q_160, q_255, q_256, q_512, q_1024, q_2816, q_4096, q_16384, q_1048576, q_m1, q_m2, q_m3, q_m4, q_m5, bd_s, calP_s, cal_s, nI_add, pk_mul, pk_sub, z_and, z_or, z_xor, y_nd, y_shl, y_shr, y_tb, y_ck, nI_ltI, nI_eq, nI_clamp, y_m1a, y_m1b, y_m1c, y_m1d, y_m1e, y_b0, y_b1, y_and255, gsI_o, gsI_s, gsI_2, gsR_o, gsR_s, gsR_2, gsL_1, gsL_o, gsL_s, jn0, jn1, jn2, jn3, jn4, jn5, ↓reduceIte, if_true, if_false, ite_self, ne_eq, not_true_eq_false, not_false_eq_true, and_true, true_and, and_false, false_and, Nat.reduceAdd, Nat.reduceMul, Nat.reduceSub, Nat.reducePow, Nat.reduceLT, Nat.reduceEqDiff, Nat.reduceLeDiff, Nat.not_lt_zero, Nat.add_sub_cancel, Nat.add_zero, Nat.zero_add, pk_div, y_dn, Nat.one_mul, Nat.mul_one, reduceCtorEq, h0, h1]; try (first | rw [if_pos (by omega)] | rw [if_neg (by omega)])))
    exact ok_some ⟨by rw [← hs]; exact congrArg nI (by omega), fr_setI (fr_setI fr_refl rfl) rfl⟩
theorem m_settled3 {a b c : Nat} (ha : a < 8) (hb : b < 8) (hc : c < 8) (h0 : σ.1 109 0 = nI a) (h1 : σ.1 109 1 = nI b) (h2 : σ.1 109 2 = nI c) : Ok (f_X10_settled σ (nI 3)) (fun q => q.1 = nI (srt 3 (64 * a + 8 * b + c)) ∧ Fr (fun c => c = 109) σ q.2) := by
  have hs := s3_all a ha b hb c hc
  dsimp only [s3] at hs
  unfold f_X10_settled
  obtain ⟨N, hN⟩ : ∃ N, FU = N + 11 := ⟨999989, rfl⟩
  rw [hN]
  rcases Nat.lt_or_ge a b with h | h <;> rcases Nat.lt_or_ge a c with h' | h' <;> rcases Nat.lt_or_ge b c with h'' | h''
  all_goals
    iterate 14 (try (rw [lo2_S]; simp (disch := omega) only [q_0, q_1, q_2, q_3, q_4, q_5, q_6, q_7, q_8, q_9, q_15, q_16, q_31, q_32, q_48, q_57, q_59, q_63, q_64, q_97, q_100, q_122, q_127, q_160, q_255, q_256, q_512, q_1024, q_2816, q_4096, q_16384, q_1048576, q_m1, q_m2, q_m3, q_m4, q_m5, bd_s, calP_s, cal_s, nI_add, pk_mul, pk_sub, z_and, z_or, z_xor, y_nd, y_shl, y_shr, y_tb, y_ck, nI_ltI, nI_eq, nI_clamp, y_m1a, y_m1b, y_m1c, y_m1d, y_m1e, y_b0, y_b1, y_and255, gsI_o, gsI_s, gsI_2, gsR_o, gsR_s, gsR_2, gsL_1, gsL_o, gsL_s, jn0, jn1, jn2, jn3, jn4, jn5, ↓reduceIte, if_true, if_false, ite_self, ne_eq, not_true_eq_false, not_false_eq_true, and_true, true_and, and_false, false_and, Nat.reduceAdd, Nat.reduceMul, Nat.reduceSub, Nat.reducePow, Nat.reduceLT, Nat.reduceEqDiff, Nat.reduceLeDiff, Nat.not_lt_zero, Nat.add_sub_cancel, Nat.add_zero, Nat.zero_add, pk_div, y_dn, Nat.one_mul, Nat.mul_one, reduceCtorEq, h0, h1, h2]; try (first | rw [if_pos (by omega)] | rw [if_neg (by omega)])))
    exact ok_some ⟨by rw [← hs]; exact congrArg nI (by omega), fr_setI (fr_setI (fr_setI (fr_setI (fr_setI (fr_setI fr_refl rfl) rfl) rfl) rfl) rfl) rfl⟩
end SETTD
