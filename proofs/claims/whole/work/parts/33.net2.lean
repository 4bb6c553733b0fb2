/-! how nets change; the reference's net -/
def sO (O : Nat → Nat) (a b : Nat) (is : Bool) : Nat → Nat := fun p => if p = a then (if is = true then O a ||| 2 ^ b else nd (O a) (2 ^ b)) else O p
def rO (m : Nat) : Nat → Nat := fun p => if p < m then 2 ^ p else 0
theorem sO_tb (O : Nat → Nat) (a b : Nat) (is : Bool) (q p : Nat) : (sO O a b is q).testBit p = if q = a ∧ p = b then is else (O q).testBit p := by
  unfold sO
  by_cases hq : q = a
  · subst hq
    rw [if_pos rfl]
    cases is with
    | true =>
      rw [if_pos rfl, Nat.testBit_or, tb_pow]
      by_cases hp : p = b
      · subst hp; simp
      · have : ¬ b = p := fun e => hp e.symm
        simp [hp, this]
    | false =>
      rw [if_neg (by decide), nd_tb, tb_pow]
      by_cases hp : p = b
      · subst hp; simp
      · have : ¬ b = p := fun e => hp e.symm
        simp [hp, this]
  · simp [hq]
theorem sO_np {n a b : Nat} {O : Nat → Nat} (h : NP n O) (ha : a < n) (hb : b < n) (hab : a ≠ b) (is : Bool) : NP n (sO O a b is) := by
  refine ⟨h.h1, h.h8, fun p hp => ?_, fun p => ?_, fun p hp => ?_⟩
  · rw [sO_tb]
    by_cases e : p = a ∧ p = b
    · omega
    · rw [if_neg e]; exact h.self p hp
  · refine lt_tb (fun i hi => ?_)
    rw [sO_tb, if_neg (by omega)]
    exact tb_ge (h.lt p) hi
  · unfold sO
    rw [if_neg (by omega)]
    exact h.out p hp
theorem sO_inv (O : Nat → Nat) {a : Nat} (ha : a < 8) (b : Nat) (is : Bool) (p : Nat) : inv (sO O a b is) p = if p = b then (if is = true then inv O b ||| 2 ^ a else nd (inv O b) (2 ^ a)) else inv O p := by
  refine tb_ext (fun i => ?_)
  rw [inv, mkS_tb, sO_tb]
  by_cases hp : p = b
  · subst hp
    rw [if_pos rfl]
    by_cases hi : i = a
    · subst hi
      cases is <;> simp [nd_tb, tb_pow, ha]
    · have : ¬ a = i := fun e => hi e.symm
      cases is <;> simp [nd_tb, tb_pow, hi, this, inv, mkS_tb]
  · simp [hp, inv, mkS_tb]
theorem rO_np {m : Nat} (h1 : 1 ≤ m) (h8 : m ≤ 8) : NP m (rO m) := by
  refine ⟨h1, h8, fun p hp => ?_, fun p => ?_, fun p hp => ?_⟩
  · unfold rO; rw [if_pos hp, tb_pow]; simp
  · unfold rO
    split
    · exact Nat.pow_lt_pow_right (by decide) (by assumption)
    · exact Nat.two_pow_pos m
  · unfold rO; rw [if_neg (by omega)]
theorem rO_inv {m : Nat} (h8 : m ≤ 8) (p : Nat) : inv (rO m) p = rO m p := by
  refine tb_ext (fun i => ?_)
  rw [inv, mkS_tb]
  unfold rO
  by_cases hi : i < m
  · rw [if_pos hi, tb_pow]
    by_cases hp : p < m
    · rw [if_pos hp, tb_pow]
      have : i < 8 := by omega
      simp [this, eq_comm]
    · rw [if_neg hp]
      have : ¬ i = p := by omega
      simp [this]
  · rw [if_neg hi]
    by_cases hp : p < m
    · rw [if_pos hp, tb_pow]
      have : ¬ p = i := by omega
      simp [this]
    · rw [if_neg hp]; simp
theorem ah_add (O : Nat → Nat) {p T : Nat} (hp : p < 8) (hT : T < 2 ^ p) : ah O (2 ^ p + T) = ah O T ||| O p := by
  have e : ∀ q, (2 ^ p + T).testBit q = (decide (p = q) || T.testBit q) := fun q => by
    have e1 := Nat.two_pow_add_eq_or_of_lt hT 1
    rw [Nat.mul_one] at e1
    rw [e1, Nat.testBit_or, tb_pow]
  refine tb_ext (fun i => Bool.eq_iff_iff.mpr ?_)
  rw [ah, uS_tb, Nat.testBit_or, Bool.or_eq_true, ah, uS_tb]
  constructor
  · rintro ⟨q, h1, h2, h3⟩
    rw [e] at h2
    by_cases hq : p = q
    · subst hq; exact Or.inr h3
    · simp only [hq, decide_false, Bool.false_or] at h2
      exact Or.inl ⟨q, h1, h2, h3⟩
  · rintro (⟨q, h1, h2, h3⟩ | h)
    · exact ⟨q, h1, by rw [e, h2]; simp, h3⟩
    · exact ⟨p, hp, by rw [e]; simp, h⟩
theorem ah_0 (O : Nat → Nat) : ah O 0 = 0 := tb_ext (fun i => by
  cases h : (ah O 0).testBit i with
  | false => simp
  | true =>
    obtain ⟨p, -, h2, -⟩ := (uS_tb O 0 8 i).mp h
    simp at h2)
theorem bc_all : ∀ S, S < 256 → f_J6_bitCount_0f7a4 σ0 (nI S) = some (nI (pc S 8)) := by decide +kernel
theorem e_bc {σ : St} {S : Nat} (h : S < 256) : f_J6_bitCount_0f7a4 σ (nI S) = some (nI (pc S 8)) := bc_all S h
section NET2
variable {σ : St} {n c : Nat} {O : Nat → Nat}
theorem e_set (h : N0 σ n O) {a b : Nat} (ha : a < n) (hb : b < n) (hab : a ≠ b) (is : Bool) : Ok (f_X3_set σ (nI a) (nI b) (nI is.toNat)) (fun q => N0 q.2 n (sO O a b is) ∧ Fr (fun c => c = 2 ∨ c = 3) σ q.2) := by
  have h8 := h.np.h8
  have hA := h.o a (by omega)
  have hB := h.i b (by omega)
  have hn := sO_np h.np ha hb hab is
  unfold f_X3_set
  rw [e_known h (by omega), e_known h (by omega)]
  simp only [ha, hb, decide_true, calP_s]
  have fin : ∀ x y, x = (if is = true then O a ||| 2 ^ b else nd (O a) (2 ^ b)) → y = (if is = true then inv O b ||| 2 ^ a else nd (inv O b) (2 ^ a)) → N0 (setI (setI σ 2 a (nI x)) 3 b (nI y)) n (sO O a b is) ∧ Fr (fun c => c = 2 ∨ c = 3) σ (setI (setI σ 2 a (nI x)) 3 b (nI y)) := by
    intro x y hx hy
    refine ⟨⟨hn, ?_, ?_, ?_, ?_, ?_⟩, ?_⟩
    · simp (disch := omega) only [q_0, q_1, q_2, q_3, q_4, q_5, q_6, q_7, q_8, q_9, q_15, q_16, q_31, q_32, q_48, q_57, q_59, q_63, q_64, q_97, q_100, q_122, q_127, q_160, q_255, q_256, q_512, q_1024, q_2816, q_4096, q_16384, q_1048576, q_m1, q_m2, q_m3, q_m4, q_m5, bd_s, calP_s, cal_s, nI_add, pk_mul, pk_sub, z_and, z_or, z_xor, y_nd, y_shl, y_shr, y_tb, y_ck, nI_ltI, nI_eq, nI_clamp, y_m1a, y_m1b, y_m1c, y_m1d, y_m1e, y_b0, y_b1, y_and255, gsI_o, gsI_s, gsI_2, gsR_o, gsR_s, gsR_2, gsL_1, gsL_o, gsL_s, jn0, jn1, jn2, jn3, jn4, jn5, ↓reduceIte, if_true, if_false, ite_self, ne_eq, not_true_eq_false, not_false_eq_true, and_true, true_and, and_false, false_and, Nat.reduceAdd, Nat.reduceMul, Nat.reduceSub, Nat.reducePow, Nat.reduceLT, Nat.reduceEqDiff, Nat.reduceLeDiff, Nat.not_lt_zero, Nat.add_sub_cancel, Nat.add_zero, Nat.zero_add, pk_div, y_dn, Nat.one_mul, Nat.mul_one, reduceCtorEq]; exact h.pl
    · intro p hp
      simp (disch := omega) only [q_0, q_1, q_2, q_3, q_4, q_5, q_6, q_7, q_8, q_9, q_15, q_16, q_31, q_32, q_48, q_57, q_59, q_63, q_64, q_97, q_100, q_122, q_127, q_160, q_255, q_256, q_512, q_1024, q_2816, q_4096, q_16384, q_1048576, q_m1, q_m2, q_m3, q_m4, q_m5, bd_s, calP_s, cal_s, nI_add, pk_mul, pk_sub, z_and, z_or, z_xor, y_nd, y_shl, y_shr, y_tb, y_ck, nI_ltI, nI_eq, nI_clamp, y_m1a, y_m1b, y_m1c, y_m1d, y_m1e, y_b0, y_b1, y_and255, gsI_o, gsI_s, gsI_2, gsR_o, gsR_s, gsR_2, gsL_1, gsL_o, gsL_s, jn0, jn1, jn2, jn3, jn4, jn5, ↓reduceIte, if_true, if_false, ite_self, ne_eq, not_true_eq_false, not_false_eq_true, and_true, true_and, and_false, false_and, Nat.reduceAdd, Nat.reduceMul, Nat.reduceSub, Nat.reducePow, Nat.reduceLT, Nat.reduceEqDiff, Nat.reduceLeDiff, Nat.not_lt_zero, Nat.add_sub_cancel, Nat.add_zero, Nat.zero_add, pk_div, y_dn, Nat.one_mul, Nat.mul_one, reduceCtorEq]
      by_cases e : p = a
      · rw [if_pos e]; unfold sO; rw [if_pos e, hx]
      · rw [if_neg e, h.o p hp]; unfold sO; rw [if_neg e]
    · intro p hp
      simp (disch := omega) only [q_0, q_1, q_2, q_3, q_4, q_5, q_6, q_7, q_8, q_9, q_15, q_16, q_31, q_32, q_48, q_57, q_59, q_63, q_64, q_97, q_100, q_122, q_127, q_160, q_255, q_256, q_512, q_1024, q_2816, q_4096, q_16384, q_1048576, q_m1, q_m2, q_m3, q_m4, q_m5, bd_s, calP_s, cal_s, nI_add, pk_mul, pk_sub, z_and, z_or, z_xor, y_nd, y_shl, y_shr, y_tb, y_ck, nI_ltI, nI_eq, nI_clamp, y_m1a, y_m1b, y_m1c, y_m1d, y_m1e, y_b0, y_b1, y_and255, gsI_o, gsI_s, gsI_2, gsR_o, gsR_s, gsR_2, gsL_1, gsL_o, gsL_s, jn0, jn1, jn2, jn3, jn4, jn5, ↓reduceIte, if_true, if_false, ite_self, ne_eq, not_true_eq_false, not_false_eq_true, and_true, true_and, and_false, false_and, Nat.reduceAdd, Nat.reduceMul, Nat.reduceSub, Nat.reducePow, Nat.reduceLT, Nat.reduceEqDiff, Nat.reduceLeDiff, Nat.not_lt_zero, Nat.add_sub_cancel, Nat.add_zero, Nat.zero_add, pk_div, y_dn, Nat.one_mul, Nat.mul_one, reduceCtorEq]
      rw [sO_inv O (by omega)]
      by_cases e : p = b
      · rw [if_pos e, if_pos e, hy]
      · rw [if_neg e, if_neg e, h.i p hp]
    · simp (disch := omega) only [q_0, q_1, q_2, q_3, q_4, q_5, q_6, q_7, q_8, q_9, q_15, q_16, q_31, q_32, q_48, q_57, q_59, q_63, q_64, q_97, q_100, q_122, q_127, q_160, q_255, q_256, q_512, q_1024, q_2816, q_4096, q_16384, q_1048576, q_m1, q_m2, q_m3, q_m4, q_m5, bd_s, calP_s, cal_s, nI_add, pk_mul, pk_sub, z_and, z_or, z_xor, y_nd, y_shl, y_shr, y_tb, y_ck, nI_ltI, nI_eq, nI_clamp, y_m1a, y_m1b, y_m1c, y_m1d, y_m1e, y_b0, y_b1, y_and255, gsI_o, gsI_s, gsI_2, gsR_o, gsR_s, gsR_2, gsL_1, gsL_o, gsL_s, jn0, jn1, jn2, jn3, jn4, jn5, ↓reduceIte, if_true, if_false, ite_self, ne_eq, not_true_eq_false, not_false_eq_true, and_true, true_and, and_false, false_and, Nat.reduceAdd, Nat.reduceMul, Nat.reduceSub, Nat.reducePow, Nat.reduceLT, Nat.reduceEqDiff, Nat.reduceLeDiff, Nat.not_lt_zero, Nat.add_sub_cancel, Nat.add_zero, Nat.zero_add, pk_div, y_dn, Nat.one_mul, Nat.mul_one, reduceCtorEq]; exact h.z4
    · simp (disch := omega) only [q_0, q_1, q_2, q_3, q_4, q_5, q_6, q_7, q_8, q_9, q_15, q_16, q_31, q_32, q_48, q_57, q_59, q_63, q_64, q_97, q_100, q_122, q_127, q_160, q_255, q_256, q_512, q_1024, q_2816, q_4096, q_16384, q_1048576, q_m1, q_m2, q_m3, q_m4, q_m5, bd_s, calP_s, cal_s, nI_add, pk_mul, pk_sub, z_and, z_or, z_xor, y_nd, y_shl, y_shr, y_tb, y_ck, nI_ltI, nI_eq, nI_clamp, y_m1a, y_m1b, y_m1c, y_m1d, y_m1e, y_b0, y_b1, y_and255, gsI_o, gsI_s, gsI_2, gsR_o, gsR_s, gsR_2, gsL_1, gsL_o, gsL_s, jn0, jn1, jn2, jn3, jn4, jn5, ↓reduceIte, if_true, if_false, ite_self, ne_eq, not_true_eq_false, not_false_eq_true, and_true, true_and, and_false, false_and, Nat.reduceAdd, Nat.reduceMul, Nat.reduceSub, Nat.reducePow, Nat.reduceLT, Nat.reduceEqDiff, Nat.reduceLeDiff, Nat.not_lt_zero, Nat.add_sub_cancel, Nat.add_zero, Nat.zero_add, pk_div, y_dn, Nat.one_mul, Nat.mul_one, reduceCtorEq]; exact h.z5
    · exact fr_setI (fr_setI fr_refl (Or.inl rfl)) (Or.inr rfl)
  cases is with
  | false =>
    simp (disch := omega) only [q_0, q_1, q_2, q_3, q_4, q_5, q_6, q_7, q_8, q_9, q_15, q_16, q_31, q_32, q_48, q_57, q_59, q_63, q_64, q_97, q_100, q_122, q_127, q_160, q_255, q_256, q_512, q_1024, q_2816, q_4096, q_16384, q_1048576, q_m1, q_m2, q_m3, q_m4, q_m5, bd_s, calP_s, cal_s, nI_add, pk_mul, pk_sub, z_and, z_or, z_xor, y_nd, y_shl, y_shr, y_tb, y_ck, nI_ltI, nI_eq, nI_clamp, y_m1a, y_m1b, y_m1c, y_m1d, y_m1e, y_b0, y_b1, y_and255, gsI_o, gsI_s, gsI_2, gsR_o, gsR_s, gsR_2, gsL_1, gsL_o, gsL_s, jn0, jn1, jn2, jn3, jn4, jn5, ↓reduceIte, if_true, if_false, ite_self, ne_eq, not_true_eq_false, not_false_eq_true, and_true, true_and, and_false, false_and, Nat.reduceAdd, Nat.reduceMul, Nat.reduceSub, Nat.reducePow, Nat.reduceLT, Nat.reduceEqDiff, Nat.reduceLeDiff, Nat.not_lt_zero, Nat.add_sub_cancel, Nat.add_zero, Nat.zero_add, pk_div, y_dn, Nat.one_mul, Nat.mul_one, reduceCtorEq, hA, hB, y_pow, Bool.toNat_true, hab]
    exact ok_some (fin _ _ rfl rfl)
  | true =>
    simp (disch := omega) only [q_0, q_1, q_2, q_3, q_4, q_5, q_6, q_7, q_8, q_9, q_15, q_16, q_31, q_32, q_48, q_57, q_59, q_63, q_64, q_97, q_100, q_122, q_127, q_160, q_255, q_256, q_512, q_1024, q_2816, q_4096, q_16384, q_1048576, q_m1, q_m2, q_m3, q_m4, q_m5, bd_s, calP_s, cal_s, nI_add, pk_mul, pk_sub, z_and, z_or, z_xor, y_nd, y_shl, y_shr, y_tb, y_ck, nI_ltI, nI_eq, nI_clamp, y_m1a, y_m1b, y_m1c, y_m1d, y_m1e, y_b0, y_b1, y_and255, gsI_o, gsI_s, gsI_2, gsR_o, gsR_s, gsR_2, gsL_1, gsL_o, gsL_s, jn0, jn1, jn2, jn3, jn4, jn5, ↓reduceIte, if_true, if_false, ite_self, ne_eq, not_true_eq_false, not_false_eq_true, and_true, true_and, and_false, false_and, Nat.reduceAdd, Nat.reduceMul, Nat.reduceSub, Nat.reducePow, Nat.reduceLT, Nat.reduceEqDiff, Nat.reduceLeDiff, Nat.not_lt_zero, Nat.add_sub_cancel, Nat.add_zero, Nat.zero_add, pk_div, y_dn, Nat.one_mul, Nat.mul_one, reduceCtorEq, hA, hB, y_pow, Bool.toNat_true, hab]
    exact ok_some (fin _ _ rfl rfl)
theorem e_reset {m : Nat} (h1 : 1 ≤ m) (h8 : m ≤ 8) (z4 : σ.1 4 0 = nI 0) (z5 : σ.1 5 0 = nI 0) : Ok (f_X3_reset σ (nI m)) (fun q => N0 q.2 m (rO m) ∧ q.2.1 1 1 = σ.1 1 1 ∧ Fr (fun c => c = 1 ∨ c = 2 ∨ c = 3) σ q.2) := by
  unfold f_X3_reset
  rw [bd_s, q_0]
  refine lo2_for (fun i s => s.1 1 0 = nI m ∧ s.1 1 1 = σ.1 1 1 ∧ (∀ p, p < i → s.1 2 p = nI (rO m p) ∧ s.1 3 p = nI (rO m p)) ∧ Fr (fun c => c = 1 ∨ c = 2 ∨ c = 3) σ s) 8 ?_ ?_ FU 0 _ (by omega) (fu_lt (by omega)) ⟨?_, ?_, ?_, ?_⟩
  · rintro rec i s hi ⟨e0, e1, e2, e3⟩ k
    have := pow8 hi
    have hr : (if i < m then nI (2 ^ i) else nI 0) = nI (rO m i) := by unfold rO; split <;> rfl
    simp (disch := omega) only [q_0, q_1, q_2, q_3, q_4, q_5, q_6, q_7, q_8, q_9, q_15, q_16, q_31, q_32, q_48, q_57, q_59, q_63, q_64, q_97, q_100, q_122, q_127, q_160, q_255, q_256, q_512, q_1024, q_2816, q_4096, q_16384, q_1048576, q_m1, q_m2, q_m3, q_m4, q_m5, bd_s, calP_s, cal_s, nI_add, pk_mul, pk_sub, z_and, z_or, z_xor, y_nd, y_shl, y_shr, y_tb, y_ck, nI_ltI, nI_eq, nI_clamp, y_m1a, y_m1b, y_m1c, y_m1d, y_m1e, y_b0, y_b1, y_and255, gsI_o, gsI_s, gsI_2, gsR_o, gsR_s, gsR_2, gsL_1, gsL_o, gsL_s, jn0, jn1, jn2, jn3, jn4, jn5, ↓reduceIte, if_true, if_false, ite_self, ne_eq, not_true_eq_false, not_false_eq_true, and_true, true_and, and_false, false_and, Nat.reduceAdd, Nat.reduceMul, Nat.reduceSub, Nat.reducePow, Nat.reduceLT, Nat.reduceEqDiff, Nat.reduceLeDiff, Nat.not_lt_zero, Nat.add_sub_cancel, Nat.add_zero, Nat.zero_add, pk_div, y_dn, Nat.one_mul, Nat.mul_one, reduceCtorEq, hi, y_pow, hr]
    refine k _ ⟨?_, ?_, ?_, ?_⟩
    · simp (disch := omega) only [q_0, q_1, q_2, q_3, q_4, q_5, q_6, q_7, q_8, q_9, q_15, q_16, q_31, q_32, q_48, q_57, q_59, q_63, q_64, q_97, q_100, q_122, q_127, q_160, q_255, q_256, q_512, q_1024, q_2816, q_4096, q_16384, q_1048576, q_m1, q_m2, q_m3, q_m4, q_m5, bd_s, calP_s, cal_s, nI_add, pk_mul, pk_sub, z_and, z_or, z_xor, y_nd, y_shl, y_shr, y_tb, y_ck, nI_ltI, nI_eq, nI_clamp, y_m1a, y_m1b, y_m1c, y_m1d, y_m1e, y_b0, y_b1, y_and255, gsI_o, gsI_s, gsI_2, gsR_o, gsR_s, gsR_2, gsL_1, gsL_o, gsL_s, jn0, jn1, jn2, jn3, jn4, jn5, ↓reduceIte, if_true, if_false, ite_self, ne_eq, not_true_eq_false, not_false_eq_true, and_true, true_and, and_false, false_and, Nat.reduceAdd, Nat.reduceMul, Nat.reduceSub, Nat.reducePow, Nat.reduceLT, Nat.reduceEqDiff, Nat.reduceLeDiff, Nat.not_lt_zero, Nat.add_sub_cancel, Nat.add_zero, Nat.zero_add, pk_div, y_dn, Nat.one_mul, Nat.mul_one, reduceCtorEq]; exact e0
    · simp (disch := omega) only [q_0, q_1, q_2, q_3, q_4, q_5, q_6, q_7, q_8, q_9, q_15, q_16, q_31, q_32, q_48, q_57, q_59, q_63, q_64, q_97, q_100, q_122, q_127, q_160, q_255, q_256, q_512, q_1024, q_2816, q_4096, q_16384, q_1048576, q_m1, q_m2, q_m3, q_m4, q_m5, bd_s, calP_s, cal_s, nI_add, pk_mul, pk_sub, z_and, z_or, z_xor, y_nd, y_shl, y_shr, y_tb, y_ck, nI_ltI, nI_eq, nI_clamp, y_m1a, y_m1b, y_m1c, y_m1d, y_m1e, y_b0, y_b1, y_and255, gsI_o, gsI_s, gsI_2, gsR_o, gsR_s, gsR_2, gsL_1, gsL_o, gsL_s, jn0, jn1, jn2, jn3, jn4, jn5, ↓reduceIte, if_true, if_false, ite_self, ne_eq, not_true_eq_false, not_false_eq_true, and_true, true_and, and_false, false_and, Nat.reduceAdd, Nat.reduceMul, Nat.reduceSub, Nat.reducePow, Nat.reduceLT, Nat.reduceEqDiff, Nat.reduceLeDiff, Nat.not_lt_zero, Nat.add_sub_cancel, Nat.add_zero, Nat.zero_add, pk_div, y_dn, Nat.one_mul, Nat.mul_one, reduceCtorEq]; exact e1
    · intro p hp
      simp (disch := omega) only [q_0, q_1, q_2, q_3, q_4, q_5, q_6, q_7, q_8, q_9, q_15, q_16, q_31, q_32, q_48, q_57, q_59, q_63, q_64, q_97, q_100, q_122, q_127, q_160, q_255, q_256, q_512, q_1024, q_2816, q_4096, q_16384, q_1048576, q_m1, q_m2, q_m3, q_m4, q_m5, bd_s, calP_s, cal_s, nI_add, pk_mul, pk_sub, z_and, z_or, z_xor, y_nd, y_shl, y_shr, y_tb, y_ck, nI_ltI, nI_eq, nI_clamp, y_m1a, y_m1b, y_m1c, y_m1d, y_m1e, y_b0, y_b1, y_and255, gsI_o, gsI_s, gsI_2, gsR_o, gsR_s, gsR_2, gsL_1, gsL_o, gsL_s, jn0, jn1, jn2, jn3, jn4, jn5, ↓reduceIte, if_true, if_false, ite_self, ne_eq, not_true_eq_false, not_false_eq_true, and_true, true_and, and_false, false_and, Nat.reduceAdd, Nat.reduceMul, Nat.reduceSub, Nat.reducePow, Nat.reduceLT, Nat.reduceEqDiff, Nat.reduceLeDiff, Nat.not_lt_zero, Nat.add_sub_cancel, Nat.add_zero, Nat.zero_add, pk_div, y_dn, Nat.one_mul, Nat.mul_one, reduceCtorEq]
      by_cases e : p = i
      · subst e; simp
      · simp only [e, if_false]; exact e2 p (by omega)
    · exact fr_setI (fr_setI e3 (by omega)) (by omega)
  · rintro rec s ⟨e0, e1, e2, e3⟩
    simp (disch := omega) only [q_0, q_1, q_2, q_3, q_4, q_5, q_6, q_7, q_8, q_9, q_15, q_16, q_31, q_32, q_48, q_57, q_59, q_63, q_64, q_97, q_100, q_122, q_127, q_160, q_255, q_256, q_512, q_1024, q_2816, q_4096, q_16384, q_1048576, q_m1, q_m2, q_m3, q_m4, q_m5, bd_s, calP_s, cal_s, nI_add, pk_mul, pk_sub, z_and, z_or, z_xor, y_nd, y_shl, y_shr, y_tb, y_ck, nI_ltI, nI_eq, nI_clamp, y_m1a, y_m1b, y_m1c, y_m1d, y_m1e, y_b0, y_b1, y_and255, gsI_o, gsI_s, gsI_2, gsR_o, gsR_s, gsR_2, gsL_1, gsL_o, gsL_s, jn0, jn1, jn2, jn3, jn4, jn5, ↓reduceIte, if_true, if_false, ite_self, ne_eq, not_true_eq_false, not_false_eq_true, and_true, true_and, and_false, false_and, Nat.reduceAdd, Nat.reduceMul, Nat.reduceSub, Nat.reducePow, Nat.reduceLT, Nat.reduceEqDiff, Nat.reduceLeDiff, Nat.not_lt_zero, Nat.add_sub_cancel, Nat.add_zero, Nat.zero_add, pk_div, y_dn, Nat.one_mul, Nat.mul_one, reduceCtorEq]
    refine ok_some ⟨⟨rO_np h1 h8, e0, fun p hp => (e2 p hp).1, fun p hp => ?_, ?_, ?_⟩, e1, e3⟩
    · rw [rO_inv h8]; exact (e2 p hp).2
    · show s.1 4 0 = nI 0
      rw [e3.1 4 (by omega)]; exact z4
    · show s.1 5 0 = nI 0
      rw [e3.1 5 (by omega)]; exact z5
  · rw [gsI_s]; rfl
  · rw [gsI_s]; rfl
  · intro p hp; omega
  · exact fr_setI fr_refl (by omega)
theorem e_settle (h : N0 σ n O) (hc : σ.1 1 1 = nI c) : Ok (f_X3_settle σ) (fun q => NC q.2 n O (c + 1) ∧ Fr (fun c => c = 1 ∨ c = 4 ∨ c = 5) σ q.2) := by
  unfold f_X3_settle
  rw [bd_s, q_0]
  refine lo2_for (fun i s => s.1 1 0 = nI n ∧ s.1 1 1 = nI (c + 1) ∧ (∀ S, S < 2 ^ i → s.1 4 S = nI (ah O S) ∧ s.1 5 S = nI (ah (inv O) S)) ∧ Fr (fun c => c = 1 ∨ c = 4 ∨ c = 5) σ s) 8 ?_ ?_ FU 0 _ (by omega) (fu_lt (by omega)) ⟨?_, ?_, ?_, ?_⟩
  · rintro rec i s hi ⟨e0, e1, e2, e3⟩ k
    have h2 : 2 ^ i ≤ 128 := show 2 ^ i ≤ 2 ^ 7 from Nat.pow_le_pow_right (by decide) (by omega)
    have h2p := Nat.two_pow_pos i
    simp (disch := omega) only [q_0, q_1, q_2, q_3, q_4, q_5, q_6, q_7, q_8, q_9, q_15, q_16, q_31, q_32, q_48, q_57, q_59, q_63, q_64, q_97, q_100, q_122, q_127, q_160, q_255, q_256, q_512, q_1024, q_2816, q_4096, q_16384, q_1048576, q_m1, q_m2, q_m3, q_m4, q_m5, bd_s, calP_s, cal_s, nI_add, pk_mul, pk_sub, z_and, z_or, z_xor, y_nd, y_shl, y_shr, y_tb, y_ck, nI_ltI, nI_eq, nI_clamp, y_m1a, y_m1b, y_m1c, y_m1d, y_m1e, y_b0, y_b1, y_and255, gsI_o, gsI_s, gsI_2, gsR_o, gsR_s, gsR_2, gsL_1, gsL_o, gsL_s, jn0, jn1, jn2, jn3, jn4, jn5, ↓reduceIte, if_true, if_false, ite_self, ne_eq, not_true_eq_false, not_false_eq_true, and_true, true_and, and_false, false_and, Nat.reduceAdd, Nat.reduceMul, Nat.reduceSub, Nat.reducePow, Nat.reduceLT, Nat.reduceEqDiff, Nat.reduceLeDiff, Nat.not_lt_zero, Nat.add_sub_cancel, Nat.add_zero, Nat.zero_add, pk_div, y_dn, Nat.one_mul, Nat.mul_one, reduceCtorEq, hi, y_pow]
    refine lo2_for (fun j s => s.1 1 0 = nI n ∧ s.1 1 1 = nI (c + 1) ∧ (∀ S, S < j → s.1 4 S = nI (ah O S) ∧ s.1 5 S = nI (ah (inv O) S)) ∧ Fr (fun c => c = 1 ∨ c = 4 ∨ c = 5) σ s ∧ 2 ^ i ≤ j) (2 * 2 ^ i) ?_ ?_ FU (2 ^ i) _ (by omega) (fu_lt (by omega)) ⟨e0, e1, e2, e3, Nat.le_refl _⟩
    · rintro rec2 j s hj ⟨e0, e1, e2, e3, e4⟩ k2
      have o2 : s.1 2 i = nI (O i) := by rw [e3.1 2 (by omega)]; exact h.o i hi
      have o3 : s.1 3 i = nI (inv O i) := by rw [e3.1 3 (by omega)]; exact h.i i hi
      have a1 := (e2 (j - 2 ^ i) (by omega)).1
      have a2 := (e2 (j - 2 ^ i) (by omega)).2
      have x1 := ah_add O hi (T := j - 2 ^ i) (by omega)
      have x2 := ah_add (inv O) hi (T := j - 2 ^ i) (by omega)
      rw [show 2 ^ i + (j - 2 ^ i) = j by omega] at x1 x2
      simp (disch := omega) only [q_0, q_1, q_2, q_3, q_4, q_5, q_6, q_7, q_8, q_9, q_15, q_16, q_31, q_32, q_48, q_57, q_59, q_63, q_64, q_97, q_100, q_122, q_127, q_160, q_255, q_256, q_512, q_1024, q_2816, q_4096, q_16384, q_1048576, q_m1, q_m2, q_m3, q_m4, q_m5, bd_s, calP_s, cal_s, nI_add, pk_mul, pk_sub, z_and, z_or, z_xor, y_nd, y_shl, y_shr, y_tb, y_ck, nI_ltI, nI_eq, nI_clamp, y_m1a, y_m1b, y_m1c, y_m1d, y_m1e, y_b0, y_b1, y_and255, gsI_o, gsI_s, gsI_2, gsR_o, gsR_s, gsR_2, gsL_1, gsL_o, gsL_s, jn0, jn1, jn2, jn3, jn4, jn5, ↓reduceIte, if_true, if_false, ite_self, ne_eq, not_true_eq_false, not_false_eq_true, and_true, true_and, and_false, false_and, Nat.reduceAdd, Nat.reduceMul, Nat.reduceSub, Nat.reducePow, Nat.reduceLT, Nat.reduceEqDiff, Nat.reduceLeDiff, Nat.not_lt_zero, Nat.add_sub_cancel, Nat.add_zero, Nat.zero_add, pk_div, y_dn, Nat.one_mul, Nat.mul_one, reduceCtorEq, hi, hj, o2, o3, a1, a2]
      rw [if_pos (by omega)]
      refine k2 _ ⟨?_, ?_, ?_, ?_, by omega⟩
      · simp (disch := omega) only [q_0, q_1, q_2, q_3, q_4, q_5, q_6, q_7, q_8, q_9, q_15, q_16, q_31, q_32, q_48, q_57, q_59, q_63, q_64, q_97, q_100, q_122, q_127, q_160, q_255, q_256, q_512, q_1024, q_2816, q_4096, q_16384, q_1048576, q_m1, q_m2, q_m3, q_m4, q_m5, bd_s, calP_s, cal_s, nI_add, pk_mul, pk_sub, z_and, z_or, z_xor, y_nd, y_shl, y_shr, y_tb, y_ck, nI_ltI, nI_eq, nI_clamp, y_m1a, y_m1b, y_m1c, y_m1d, y_m1e, y_b0, y_b1, y_and255, gsI_o, gsI_s, gsI_2, gsR_o, gsR_s, gsR_2, gsL_1, gsL_o, gsL_s, jn0, jn1, jn2, jn3, jn4, jn5, ↓reduceIte, if_true, if_false, ite_self, ne_eq, not_true_eq_false, not_false_eq_true, and_true, true_and, and_false, false_and, Nat.reduceAdd, Nat.reduceMul, Nat.reduceSub, Nat.reducePow, Nat.reduceLT, Nat.reduceEqDiff, Nat.reduceLeDiff, Nat.not_lt_zero, Nat.add_sub_cancel, Nat.add_zero, Nat.zero_add, pk_div, y_dn, Nat.one_mul, Nat.mul_one, reduceCtorEq]; exact e0
      · simp (disch := omega) only [q_0, q_1, q_2, q_3, q_4, q_5, q_6, q_7, q_8, q_9, q_15, q_16, q_31, q_32, q_48, q_57, q_59, q_63, q_64, q_97, q_100, q_122, q_127, q_160, q_255, q_256, q_512, q_1024, q_2816, q_4096, q_16384, q_1048576, q_m1, q_m2, q_m3, q_m4, q_m5, bd_s, calP_s, cal_s, nI_add, pk_mul, pk_sub, z_and, z_or, z_xor, y_nd, y_shl, y_shr, y_tb, y_ck, nI_ltI, nI_eq, nI_clamp, y_m1a, y_m1b, y_m1c, y_m1d, y_m1e, y_b0, y_b1, y_and255, gsI_o, gsI_s, gsI_2, gsR_o, gsR_s, gsR_2, gsL_1, gsL_o, gsL_s, jn0, jn1, jn2, jn3, jn4, jn5, ↓reduceIte, if_true, if_false, ite_self, ne_eq, not_true_eq_false, not_false_eq_true, and_true, true_and, and_false, false_and, Nat.reduceAdd, Nat.reduceMul, Nat.reduceSub, Nat.reducePow, Nat.reduceLT, Nat.reduceEqDiff, Nat.reduceLeDiff, Nat.not_lt_zero, Nat.add_sub_cancel, Nat.add_zero, Nat.zero_add, pk_div, y_dn, Nat.one_mul, Nat.mul_one, reduceCtorEq]; exact e1
      · intro S hS
        simp (disch := omega) only [q_0, q_1, q_2, q_3, q_4, q_5, q_6, q_7, q_8, q_9, q_15, q_16, q_31, q_32, q_48, q_57, q_59, q_63, q_64, q_97, q_100, q_122, q_127, q_160, q_255, q_256, q_512, q_1024, q_2816, q_4096, q_16384, q_1048576, q_m1, q_m2, q_m3, q_m4, q_m5, bd_s, calP_s, cal_s, nI_add, pk_mul, pk_sub, z_and, z_or, z_xor, y_nd, y_shl, y_shr, y_tb, y_ck, nI_ltI, nI_eq, nI_clamp, y_m1a, y_m1b, y_m1c, y_m1d, y_m1e, y_b0, y_b1, y_and255, gsI_o, gsI_s, gsI_2, gsR_o, gsR_s, gsR_2, gsL_1, gsL_o, gsL_s, jn0, jn1, jn2, jn3, jn4, jn5, ↓reduceIte, if_true, if_false, ite_self, ne_eq, not_true_eq_false, not_false_eq_true, and_true, true_and, and_false, false_and, Nat.reduceAdd, Nat.reduceMul, Nat.reduceSub, Nat.reducePow, Nat.reduceLT, Nat.reduceEqDiff, Nat.reduceLeDiff, Nat.not_lt_zero, Nat.add_sub_cancel, Nat.add_zero, Nat.zero_add, pk_div, y_dn, Nat.one_mul, Nat.mul_one, reduceCtorEq]
        by_cases e : S = j
        · subst e; rw [x1, x2]; simp
        · simp only [e, if_false]; exact e2 S (by omega)
      · exact fr_setI (fr_setI e3 (by omega)) (by omega)
    · rintro rec2 s ⟨e0, e1, e2, e3, e4⟩
      simp (disch := omega) only [q_0, q_1, q_2, q_3, q_4, q_5, q_6, q_7, q_8, q_9, q_15, q_16, q_31, q_32, q_48, q_57, q_59, q_63, q_64, q_97, q_100, q_122, q_127, q_160, q_255, q_256, q_512, q_1024, q_2816, q_4096, q_16384, q_1048576, q_m1, q_m2, q_m3, q_m4, q_m5, bd_s, calP_s, cal_s, nI_add, pk_mul, pk_sub, z_and, z_or, z_xor, y_nd, y_shl, y_shr, y_tb, y_ck, nI_ltI, nI_eq, nI_clamp, y_m1a, y_m1b, y_m1c, y_m1d, y_m1e, y_b0, y_b1, y_and255, gsI_o, gsI_s, gsI_2, gsR_o, gsR_s, gsR_2, gsL_1, gsL_o, gsL_s, jn0, jn1, jn2, jn3, jn4, jn5, ↓reduceIte, if_true, if_false, ite_self, ne_eq, not_true_eq_false, not_false_eq_true, and_true, true_and, and_false, false_and, Nat.reduceAdd, Nat.reduceMul, Nat.reduceSub, Nat.reducePow, Nat.reduceLT, Nat.reduceEqDiff, Nat.reduceLeDiff, Nat.not_lt_zero, Nat.add_sub_cancel, Nat.add_zero, Nat.zero_add, pk_div, y_dn, Nat.one_mul, Nat.mul_one, reduceCtorEq, Nat.lt_irrefl]
      exact k _ ⟨e0, e1, fun S hS => e2 S (by rw [Nat.pow_succ] at hS; omega), e3⟩
  · rintro rec s ⟨e0, e1, e2, e3⟩
    simp (disch := omega) only [q_0, q_1, q_2, q_3, q_4, q_5, q_6, q_7, q_8, q_9, q_15, q_16, q_31, q_32, q_48, q_57, q_59, q_63, q_64, q_97, q_100, q_122, q_127, q_160, q_255, q_256, q_512, q_1024, q_2816, q_4096, q_16384, q_1048576, q_m1, q_m2, q_m3, q_m4, q_m5, bd_s, calP_s, cal_s, nI_add, pk_mul, pk_sub, z_and, z_or, z_xor, y_nd, y_shl, y_shr, y_tb, y_ck, nI_ltI, nI_eq, nI_clamp, y_m1a, y_m1b, y_m1c, y_m1d, y_m1e, y_b0, y_b1, y_and255, gsI_o, gsI_s, gsI_2, gsR_o, gsR_s, gsR_2, gsL_1, gsL_o, gsL_s, jn0, jn1, jn2, jn3, jn4, jn5, ↓reduceIte, if_true, if_false, ite_self, ne_eq, not_true_eq_false, not_false_eq_true, and_true, true_and, and_false, false_and, Nat.reduceAdd, Nat.reduceMul, Nat.reduceSub, Nat.reducePow, Nat.reduceLT, Nat.reduceEqDiff, Nat.reduceLeDiff, Nat.not_lt_zero, Nat.add_sub_cancel, Nat.add_zero, Nat.zero_add, pk_div, y_dn, Nat.one_mul, Nat.mul_one, reduceCtorEq]
    refine ok_some ⟨⟨⟨h.np, e0, ?_, ?_, ?_, ?_⟩, e1, fun S hS => (e2 S hS).1, fun S hS => (e2 S hS).2⟩, e3⟩
    · intro p hp; show s.1 2 p = _; rw [e3.1 2 (by omega)]; exact h.o p hp
    · intro p hp; show s.1 3 p = _; rw [e3.1 3 (by omega)]; exact h.i p hp
    · show s.1 4 0 = _; rw [(e2 0 (by decide)).1, ah_0]
    · show s.1 5 0 = _; rw [(e2 0 (by decide)).2, ah_0]
  · rw [gsI_s]; exact h.pl
  · rw [gsI_s, hc, if_pos rfl]; exact nI_1 c
  · intro S hS
    have : S = 0 := by simpa using hS
    subst this
    rw [ah_0, ah_0, gsI_o (by omega), gsI_o (by omega)]
    exact ⟨h.z4, h.z5⟩
  · exact fr_setI fr_refl (by omega)
/-- how many pairs -/
def prs (O : Nat → Nat) : Nat → Nat
  | 0 => 0
  | k + 1 => prs O k + (pc (O k) 8 - 1)
theorem prs_le (O : Nat → Nat) (k : Nat) : prs O k ≤ 8 * k := by
  induction k with
  | zero => exact Nat.le_refl _
  | succ k ih => have := pc_le (O k) 8; rw [prs]; omega
theorem pc_pos {S p : Nat} (h : S.testBit p = true) : ∀ k, p < k → 1 ≤ pc S k := by
  intro k
  induction k with
  | zero => intro h; omega
  | succ k ih =>
    intro hk
    rw [pc]
    by_cases e : p = k
    · subst e; rw [if_pos h]; omega
    · have := ih (by omega); omega
theorem e_pairs (h : N0 σ n O) : f_X3_pairs σ = some (nI (prs O n)) := by
  have h8 := h.np.h8
  unfold f_X3_pairs
  rw [q_0]
  refine ok_eq (lo2_for (fun i x => x = nI (prs O i)) n ?_ ?_ FU 0 _ (by omega) (fu_lt (by omega)) rfl)
  · rintro rec i x hi rfl k
    have ho := h.o i (by omega)
    have hl := h.np.lt8 i
    have h1 := pc_pos (h.np.self i hi) 8 (by omega)
    have hi8 : i < 8 := by omega
    simp (disch := omega) only [q_0, q_1, q_2, q_3, q_4, q_5, q_6, q_7, q_8, q_9, q_15, q_16, q_31, q_32, q_48, q_57, q_59, q_63, q_64, q_97, q_100, q_122, q_127, q_160, q_255, q_256, q_512, q_1024, q_2816, q_4096, q_16384, q_1048576, q_m1, q_m2, q_m3, q_m4, q_m5, bd_s, calP_s, cal_s, nI_add, pk_mul, pk_sub, z_and, z_or, z_xor, y_nd, y_shl, y_shr, y_tb, y_ck, nI_ltI, nI_eq, nI_clamp, y_m1a, y_m1b, y_m1c, y_m1d, y_m1e, y_b0, y_b1, y_and255, gsI_o, gsI_s, gsI_2, gsR_o, gsR_s, gsR_2, gsL_1, gsL_o, gsL_s, jn0, jn1, jn2, jn3, jn4, jn5, ↓reduceIte, if_true, if_false, ite_self, ne_eq, not_true_eq_false, not_false_eq_true, and_true, true_and, and_false, false_and, Nat.reduceAdd, Nat.reduceMul, Nat.reduceSub, Nat.reducePow, Nat.reduceLT, Nat.reduceEqDiff, Nat.reduceLeDiff, Nat.not_lt_zero, Nat.add_sub_cancel, Nat.add_zero, Nat.zero_add, pk_div, y_dn, Nat.one_mul, Nat.mul_one, reduceCtorEq, h.pl, hi, hi8, ho, e_bc]
    exact k _ rfl
  · rintro rec x rfl
    simp (disch := omega) only [q_0, q_1, q_2, q_3, q_4, q_5, q_6, q_7, q_8, q_9, q_15, q_16, q_31, q_32, q_48, q_57, q_59, q_63, q_64, q_97, q_100, q_122, q_127, q_160, q_255, q_256, q_512, q_1024, q_2816, q_4096, q_16384, q_1048576, q_m1, q_m2, q_m3, q_m4, q_m5, bd_s, calP_s, cal_s, nI_add, pk_mul, pk_sub, z_and, z_or, z_xor, y_nd, y_shl, y_shr, y_tb, y_ck, nI_ltI, nI_eq, nI_clamp, y_m1a, y_m1b, y_m1c, y_m1d, y_m1e, y_b0, y_b1, y_and255, gsI_o, gsI_s, gsI_2, gsR_o, gsR_s, gsR_2, gsL_1, gsL_o, gsL_s, jn0, jn1, jn2, jn3, jn4, jn5, ↓reduceIte, if_true, if_false, ite_self, ne_eq, not_true_eq_false, not_false_eq_true, and_true, true_and, and_false, false_and, Nat.reduceAdd, Nat.reduceMul, Nat.reduceSub, Nat.reducePow, Nat.reduceLT, Nat.reduceEqDiff, Nat.reduceLeDiff, Nat.not_lt_zero, Nat.add_sub_cancel, Nat.add_zero, Nat.zero_add, pk_div, y_dn, Nat.one_mul, Nat.mul_one, reduceCtorEq, h.pl, Nat.lt_irrefl]
    exact ok_some rfl
end NET2
