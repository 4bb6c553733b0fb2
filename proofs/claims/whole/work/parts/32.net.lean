/-! the net: n places, O p the places to which one steps from p -/
def NP (n : Nat) (O : Nat → Nat) : Prop := (1 ≤ n) ∧ (n ≤ 8) ∧ (∀ p, p < n → (O p).testBit p = true) ∧ (∀ p, O p < 2 ^ n) ∧ (∀ p, n ≤ p → O p = 0)
theorem NP.h1 {n : Nat} {O : Nat → Nat} (h : NP n O) : 1 ≤ n := h.1
theorem NP.h8 {n : Nat} {O : Nat → Nat} (h : NP n O) : n ≤ 8 := h.2.1
theorem NP.self {n : Nat} {O : Nat → Nat} (h : NP n O) : ∀ p, p < n → (O p).testBit p = true := h.2.2.1
theorem NP.lt {n : Nat} {O : Nat → Nat} (h : NP n O) : ∀ p, O p < 2 ^ n := h.2.2.2.1
theorem NP.out {n : Nat} {O : Nat → Nat} (h : NP n O) : ∀ p, n ≤ p → O p = 0 := h.2.2.2.2
def inv (O : Nat → Nat) (p : Nat) : Nat := mkS (fun q => (O q).testBit p) 8
def ah (O : Nat → Nat) (S : Nat) : Nat := uS O S 8
theorem p256 {n : Nat} (h : n ≤ 8) : 2 ^ n ≤ 256 := Nat.pow_le_pow_right (n := 2) (by decide) h
theorem NP.lt8 {n : Nat} {O : Nat → Nat} (h : NP n O) (p : Nat) : O p < 256 := Nat.lt_of_lt_of_le (h.lt p) (p256 h.h8)
theorem ah_lt {n : Nat} {O : Nat → Nat} (h : NP n O) (S : Nat) : ah O S < 2 ^ n := uS_lt (fun p _ => h.lt p)
theorem ah_lt8 {n : Nat} {O : Nat → Nat} (h : NP n O) (S : Nat) : ah O S < 256 := Nat.lt_of_lt_of_le (ah_lt h S) (p256 h.h8)
theorem inv_lt (O : Nat → Nat) (p : Nat) : inv O p < 256 := mkS_lt _ 8
theorem inv_tb {O : Nat → Nat} {p q : Nat} (hq : q < 8) : (inv O p).testBit q = (O q).testBit p := by rw [inv, mkS_tb]; simp [hq]
theorem be_lt8 {O : Nat → Nat} (S : Nat) : ah (inv O) S < 256 := uS_lt (n := 8) (fun p _ => inv_lt O p)
/-- the class's net without the steps of sets; with them; the reference's net -/
def N0 (σ : St) (n : Nat) (O : Nat → Nat) : Prop := (NP n O) ∧ (σ.1 1 0 = nI n) ∧ (∀ p, p < 8 → σ.1 2 p = nI (O p)) ∧ (∀ p, p < 8 → σ.1 3 p = nI (inv O p)) ∧ (σ.1 4 0 = nI 0) ∧ (σ.1 5 0 = nI 0)
theorem N0.np {σ : St} {n : Nat} {O : Nat → Nat} (h : N0 σ n O) : NP n O := h.1
theorem N0.pl {σ : St} {n : Nat} {O : Nat → Nat} (h : N0 σ n O) : σ.1 1 0 = nI n := h.2.1
theorem N0.o {σ : St} {n : Nat} {O : Nat → Nat} (h : N0 σ n O) : ∀ p, p < 8 → σ.1 2 p = nI (O p) := h.2.2.1
theorem N0.i {σ : St} {n : Nat} {O : Nat → Nat} (h : N0 σ n O) : ∀ p, p < 8 → σ.1 3 p = nI (inv O p) := h.2.2.2.1
theorem N0.z4 {σ : St} {n : Nat} {O : Nat → Nat} (h : N0 σ n O) : σ.1 4 0 = nI 0 := h.2.2.2.2.1
theorem N0.z5 {σ : St} {n : Nat} {O : Nat → Nat} (h : N0 σ n O) : σ.1 5 0 = nI 0 := h.2.2.2.2.2
def NC (σ : St) (n : Nat) (O : Nat → Nat) (c : Nat) : Prop := (N0 σ n O) ∧ (σ.1 1 1 = nI c) ∧ (∀ S, S < 256 → σ.1 4 S = nI (ah O S)) ∧ (∀ S, S < 256 → σ.1 5 S = nI (ah (inv O) S))
theorem NC.z {σ : St} {n : Nat} {O : Nat → Nat} {c : Nat} (h : NC σ n O c) : N0 σ n O := h.1
theorem NC.ch {σ : St} {n : Nat} {O : Nat → Nat} {c : Nat} (h : NC σ n O c) : σ.1 1 1 = nI c := h.2.1
theorem NC.a {σ : St} {n : Nat} {O : Nat → Nat} {c : Nat} (h : NC σ n O c) : ∀ S, S < 256 → σ.1 4 S = nI (ah O S) := h.2.2.1
theorem NC.b {σ : St} {n : Nat} {O : Nat → Nat} {c : Nat} (h : NC σ n O c) : ∀ S, S < 256 → σ.1 5 S = nI (ah (inv O) S) := h.2.2.2
theorem NC.np {σ : St} {n : Nat} {O : Nat → Nat} {c : Nat} (h : NC σ n O c) : NP n O := h.z.np
theorem NC.pl {σ : St} {n : Nat} {O : Nat → Nat} {c : Nat} (h : NC σ n O c) : σ.1 1 0 = nI n := h.z.pl
def NM (σ : St) (n : Nat) (O : Nat → Nat) : Prop := (NP n O) ∧ (σ.1 100 0 = nI n) ∧ (∀ p, p < 8 → σ.1 101 p = nI (nd (O p) (2 ^ p)))
theorem NM.np {σ : St} {n : Nat} {O : Nat → Nat} (h : NM σ n O) : NP n O := h.1
theorem NM.pl {σ : St} {n : Nat} {O : Nat → Nat} (h : NM σ n O) : σ.1 100 0 = nI n := h.2.1
theorem NM.r {σ : St} {n : Nat} {O : Nat → Nat} (h : NM σ n O) : ∀ p, p < 8 → σ.1 101 p = nI (nd (O p) (2 ^ p)) := h.2.2
theorem two_pow_lt {p : Nat} (h : p < 31) : 1 * 2 ^ p < 2 ^ 32 := by
  rw [Nat.one_mul]
  exact Nat.pow_lt_pow_right (by decide) (by omega)
theorem y_pow {p : Nat} (h : p < 31) : nI 1 <<< nI (p &&& 31) = nI (2 ^ p) := by
  rw [y_shl (by omega) (two_pow_lt h), Nat.one_mul]
theorem pow_31 {p : Nat} (h : p < 31) : 2 ^ p < 2 ^ 31 := Nat.pow_lt_pow_right (by decide) h
theorem pow8 {p : Nat} (h : p < 8) : 2 ^ p < 256 := Nat.pow_lt_pow_right (n := 8) (a := 2) (by decide) h
section NET
variable {σ : St} {n c : Nat} {O : Nat → Nat}
theorem e_known_neg (h : σ.1 1 0 = nI n) {v : Int32} (hv : v < nI 0) : f_X3_known σ v = some (nI 0) := by
  unfold f_X3_known
  exact if_pos hv
theorem e_known (h : N0 σ n O) {p : Nat} (hp : p < 2 ^ 31) : f_X3_known σ (nI p) = some (nI (decide (p < n)).toNat) := by
  have h8 := h.np.h8
  unfold f_X3_known
  simp (disch := omega) only [q_0, q_1, q_2, q_3, q_4, q_5, q_6, q_7, q_8, q_9, q_15, q_16, q_31, q_32, q_48, q_57, q_59, q_63, q_64, q_97, q_100, q_122, q_127, q_160, q_255, q_256, q_512, q_1024, q_2816, q_4096, q_16384, q_1048576, q_m1, q_m2, q_m3, q_m4, q_m5, bd_s, calP_s, cal_s, nI_add, pk_mul, pk_sub, z_and, z_or, z_xor, y_nd, y_shl, y_shr, y_tb, y_ck, nI_ltI, nI_eq, nI_clamp, y_m1a, y_m1b, y_m1c, y_m1d, y_m1e, y_b0, y_b1, y_and255, gsI_o, gsI_s, gsI_2, gsR_o, gsR_s, gsR_2, gsL_1, gsL_o, gsL_s, jn0, jn1, jn2, jn3, jn4, jn5, ↓reduceIte, if_true, if_false, ite_self, ne_eq, not_true_eq_false, not_false_eq_true, and_true, true_and, and_false, false_and, Nat.reduceAdd, Nat.reduceMul, Nat.reduceSub, Nat.reducePow, Nat.reduceLT, Nat.reduceEqDiff, Nat.reduceLeDiff, Nat.not_lt_zero, Nat.add_sub_cancel, Nat.add_zero, Nat.zero_add, pk_div, y_dn, Nat.one_mul, Nat.mul_one, reduceCtorEq, h.pl]
  by_cases q : p < n <;> simp [q]
theorem e_all (h : N0 σ n O) : f_X3_all σ = some (nI (2 ^ n - 1)) := by
  have h8 := h.np.h8
  have := Nat.two_pow_pos n
  unfold f_X3_all
  simp (disch := omega) only [q_0, q_1, q_2, q_3, q_4, q_5, q_6, q_7, q_8, q_9, q_15, q_16, q_31, q_32, q_48, q_57, q_59, q_63, q_64, q_97, q_100, q_122, q_127, q_160, q_255, q_256, q_512, q_1024, q_2816, q_4096, q_16384, q_1048576, q_m1, q_m2, q_m3, q_m4, q_m5, bd_s, calP_s, cal_s, nI_add, pk_mul, pk_sub, z_and, z_or, z_xor, y_nd, y_shl, y_shr, y_tb, y_ck, nI_ltI, nI_eq, nI_clamp, y_m1a, y_m1b, y_m1c, y_m1d, y_m1e, y_b0, y_b1, y_and255, gsI_o, gsI_s, gsI_2, gsR_o, gsR_s, gsR_2, gsL_1, gsL_o, gsL_s, jn0, jn1, jn2, jn3, jn4, jn5, ↓reduceIte, if_true, if_false, ite_self, ne_eq, not_true_eq_false, not_false_eq_true, and_true, true_and, and_false, false_and, Nat.reduceAdd, Nat.reduceMul, Nat.reduceSub, Nat.reducePow, Nat.reduceLT, Nat.reduceEqDiff, Nat.reduceLeDiff, Nat.not_lt_zero, Nat.add_sub_cancel, Nat.add_zero, Nat.zero_add, pk_div, y_dn, Nat.one_mul, Nat.mul_one, reduceCtorEq, h.pl, y_pow]
theorem e_holdsAll (h : N0 σ n O) {S : Nat} (hS : S < 2 ^ 31) : f_X3_holdsAll σ (nI S) = some (nI (decide (S < 2 ^ n)).toNat) := by
  have h8 := h.np.h8
  have hl : nd S (2 ^ n - 1) < 2 ^ 31 := nd_lt hS
  unfold f_X3_holdsAll
  simp (disch := omega) only [q_0, q_1, q_2, q_3, q_4, q_5, q_6, q_7, q_8, q_9, q_15, q_16, q_31, q_32, q_48, q_57, q_59, q_63, q_64, q_97, q_100, q_122, q_127, q_160, q_255, q_256, q_512, q_1024, q_2816, q_4096, q_16384, q_1048576, q_m1, q_m2, q_m3, q_m4, q_m5, bd_s, calP_s, cal_s, nI_add, pk_mul, pk_sub, z_and, z_or, z_xor, y_nd, y_shl, y_shr, y_tb, y_ck, nI_ltI, nI_eq, nI_clamp, y_m1a, y_m1b, y_m1c, y_m1d, y_m1e, y_b0, y_b1, y_and255, gsI_o, gsI_s, gsI_2, gsR_o, gsR_s, gsR_2, gsL_1, gsL_o, gsL_s, jn0, jn1, jn2, jn3, jn4, jn5, ↓reduceIte, if_true, if_false, ite_self, ne_eq, not_true_eq_false, not_false_eq_true, and_true, true_and, and_false, false_and, Nat.reduceAdd, Nat.reduceMul, Nat.reduceSub, Nat.reducePow, Nat.reduceLT, Nat.reduceEqDiff, Nat.reduceLeDiff, Nat.not_lt_zero, Nat.add_sub_cancel, Nat.add_zero, Nat.zero_add, pk_div, y_dn, Nat.one_mul, Nat.mul_one, reduceCtorEq, e_all h]
  by_cases q : S < 2 ^ n
  · have : nd S (2 ^ n - 1) = 0 := tb_ext (fun i => by
      rw [nd_tb, Nat.testBit_two_pow_sub_one, Nat.zero_testBit]
      by_cases hi : i < n
      · simp [hi]
      · rw [tb_ge q (Nat.not_lt.mp hi)]; rfl)
    simp [this, q, q_1]
  · have : ¬ nd S (2 ^ n - 1) = 0 := fun e => q (lt_tb (fun i hi => by
      have h2 := congrArg (fun x => Nat.testBit x i) e
      simp only [nd_tb, Nat.testBit_two_pow_sub_one, Nat.zero_testBit] at h2
      have : ¬ i < n := by omega
      simpa [this] using h2))
    simp [this, q, q_0]
theorem e_outOf (h : N0 σ n O) {p : Nat} (hp : p < 2 ^ 31) : f_X3_outOf σ (nI p) = some (nI (O p)) := by
  have h8 := h.np.h8
  unfold f_X3_outOf
  simp (disch := omega) only [q_0, q_1, q_2, q_3, q_4, q_5, q_6, q_7, q_8, q_9, q_15, q_16, q_31, q_32, q_48, q_57, q_59, q_63, q_64, q_97, q_100, q_122, q_127, q_160, q_255, q_256, q_512, q_1024, q_2816, q_4096, q_16384, q_1048576, q_m1, q_m2, q_m3, q_m4, q_m5, bd_s, calP_s, cal_s, nI_add, pk_mul, pk_sub, z_and, z_or, z_xor, y_nd, y_shl, y_shr, y_tb, y_ck, nI_ltI, nI_eq, nI_clamp, y_m1a, y_m1b, y_m1c, y_m1d, y_m1e, y_b0, y_b1, y_and255, gsI_o, gsI_s, gsI_2, gsR_o, gsR_s, gsR_2, gsL_1, gsL_o, gsL_s, jn0, jn1, jn2, jn3, jn4, jn5, ↓reduceIte, if_true, if_false, ite_self, ne_eq, not_true_eq_false, not_false_eq_true, and_true, true_and, and_false, false_and, Nat.reduceAdd, Nat.reduceMul, Nat.reduceSub, Nat.reducePow, Nat.reduceLT, Nat.reduceEqDiff, Nat.reduceLeDiff, Nat.not_lt_zero, Nat.add_sub_cancel, Nat.add_zero, Nat.zero_add, pk_div, y_dn, Nat.one_mul, Nat.mul_one, reduceCtorEq, e_known h hp]
  by_cases q : p < n
  · simp only [q, decide_true]
    rw [y_ck _ (by omega) (by omega), h.o p (by omega)]
    rfl
  · simp [q, h.np.out p (by omega), q_0]
theorem e_has {s : St} {S p : Nat} (hS : S < 2 ^ 31) (hp : p < 32) : f_X9_has s (nI S) (nI p) = some (nI (S.testBit p).toNat) := by
  unfold f_X9_has
  simp (disch := omega) only [q_0, q_1, q_2, q_3, q_4, q_5, q_6, q_7, q_8, q_9, q_15, q_16, q_31, q_32, q_48, q_57, q_59, q_63, q_64, q_97, q_100, q_122, q_127, q_160, q_255, q_256, q_512, q_1024, q_2816, q_4096, q_16384, q_1048576, q_m1, q_m2, q_m3, q_m4, q_m5, bd_s, calP_s, cal_s, nI_add, pk_mul, pk_sub, z_and, z_or, z_xor, y_nd, y_shl, y_shr, y_tb, y_ck, nI_ltI, nI_eq, nI_clamp, y_m1a, y_m1b, y_m1c, y_m1d, y_m1e, y_b0, y_b1, y_and255, gsI_o, gsI_s, gsI_2, gsR_o, gsR_s, gsR_2, gsL_1, gsL_o, gsL_s, jn0, jn1, jn2, jn3, jn4, jn5, ↓reduceIte, if_true, if_false, ite_self, ne_eq, not_true_eq_false, not_false_eq_true, and_true, true_and, and_false, false_and, Nat.reduceAdd, Nat.reduceMul, Nat.reduceSub, Nat.reducePow, Nat.reduceLT, Nat.reduceEqDiff, Nat.reduceLeDiff, Nat.not_lt_zero, Nat.add_sub_cancel, Nat.add_zero, Nat.zero_add, pk_div, y_dn, Nat.one_mul, Nat.mul_one, reduceCtorEq]
  cases S.testBit p <;> rfl
theorem e_aheadOf (h : NC σ n O c) {S : Nat} (hS : S < 256) : f_X3_aheadOf σ (nI S) = some (nI (ah O S)) := by
  unfold f_X3_aheadOf
  simp (disch := omega) only [q_0, q_1, q_2, q_3, q_4, q_5, q_6, q_7, q_8, q_9, q_15, q_16, q_31, q_32, q_48, q_57, q_59, q_63, q_64, q_97, q_100, q_122, q_127, q_160, q_255, q_256, q_512, q_1024, q_2816, q_4096, q_16384, q_1048576, q_m1, q_m2, q_m3, q_m4, q_m5, bd_s, calP_s, cal_s, nI_add, pk_mul, pk_sub, z_and, z_or, z_xor, y_nd, y_shl, y_shr, y_tb, y_ck, nI_ltI, nI_eq, nI_clamp, y_m1a, y_m1b, y_m1c, y_m1d, y_m1e, y_b0, y_b1, y_and255, gsI_o, gsI_s, gsI_2, gsR_o, gsR_s, gsR_2, gsL_1, gsL_o, gsL_s, jn0, jn1, jn2, jn3, jn4, jn5, ↓reduceIte, if_true, if_false, ite_self, ne_eq, not_true_eq_false, not_false_eq_true, and_true, true_and, and_false, false_and, Nat.reduceAdd, Nat.reduceMul, Nat.reduceSub, Nat.reducePow, Nat.reduceLT, Nat.reduceEqDiff, Nat.reduceLeDiff, Nat.not_lt_zero, Nat.add_sub_cancel, Nat.add_zero, Nat.zero_add, pk_div, y_dn, Nat.one_mul, Nat.mul_one, reduceCtorEq, h.a]
theorem e_behindOf (h : NC σ n O c) {S : Nat} (hS : S < 256) : f_X3_behindOf σ (nI S) = some (nI (ah (inv O) S)) := by
  unfold f_X3_behindOf
  simp (disch := omega) only [q_0, q_1, q_2, q_3, q_4, q_5, q_6, q_7, q_8, q_9, q_15, q_16, q_31, q_32, q_48, q_57, q_59, q_63, q_64, q_97, q_100, q_122, q_127, q_160, q_255, q_256, q_512, q_1024, q_2816, q_4096, q_16384, q_1048576, q_m1, q_m2, q_m3, q_m4, q_m5, bd_s, calP_s, cal_s, nI_add, pk_mul, pk_sub, z_and, z_or, z_xor, y_nd, y_shl, y_shr, y_tb, y_ck, nI_ltI, nI_eq, nI_clamp, y_m1a, y_m1b, y_m1c, y_m1d, y_m1e, y_b0, y_b1, y_and255, gsI_o, gsI_s, gsI_2, gsR_o, gsR_s, gsR_2, gsL_1, gsL_o, gsL_s, jn0, jn1, jn2, jn3, jn4, jn5, ↓reduceIte, if_true, if_false, ite_self, ne_eq, not_true_eq_false, not_false_eq_true, and_true, true_and, and_false, false_and, Nat.reduceAdd, Nat.reduceMul, Nat.reduceSub, Nat.reducePow, Nat.reduceLT, Nat.reduceEqDiff, Nat.reduceLeDiff, Nat.not_lt_zero, Nat.add_sub_cancel, Nat.add_zero, Nat.zero_add, pk_div, y_dn, Nat.one_mul, Nat.mul_one, reduceCtorEq, h.b]
theorem e_around (h : NC σ n O c) {S : Nat} (hS : S < 256) : f_X3_around σ (nI S) = some (nI (ah O S ||| ah (inv O) S)) := by
  unfold f_X3_around
  simp (disch := omega) only [q_0, q_1, q_2, q_3, q_4, q_5, q_6, q_7, q_8, q_9, q_15, q_16, q_31, q_32, q_48, q_57, q_59, q_63, q_64, q_97, q_100, q_122, q_127, q_160, q_255, q_256, q_512, q_1024, q_2816, q_4096, q_16384, q_1048576, q_m1, q_m2, q_m3, q_m4, q_m5, bd_s, calP_s, cal_s, nI_add, pk_mul, pk_sub, z_and, z_or, z_xor, y_nd, y_shl, y_shr, y_tb, y_ck, nI_ltI, nI_eq, nI_clamp, y_m1a, y_m1b, y_m1c, y_m1d, y_m1e, y_b0, y_b1, y_and255, gsI_o, gsI_s, gsI_2, gsR_o, gsR_s, gsR_2, gsL_1, gsL_o, gsL_s, jn0, jn1, jn2, jn3, jn4, jn5, ↓reduceIte, if_true, if_false, ite_self, ne_eq, not_true_eq_false, not_false_eq_true, and_true, true_and, and_false, false_and, Nat.reduceAdd, Nat.reduceMul, Nat.reduceSub, Nat.reducePow, Nat.reduceLT, Nat.reduceEqDiff, Nat.reduceLeDiff, Nat.not_lt_zero, Nat.add_sub_cancel, Nat.add_zero, Nat.zero_add, pk_div, y_dn, Nat.one_mul, Nat.mul_one, reduceCtorEq, h.a, h.b]
theorem e_bothWays (h : N0 σ n O) {p : Nat} (hp : p < 2 ^ 31) : f_X3_bothWays σ (nI p) = some (nI (O p &&& inv O p)) := by
  have h8 := h.np.h8
  unfold f_X3_bothWays
  simp (disch := omega) only [q_0, q_1, q_2, q_3, q_4, q_5, q_6, q_7, q_8, q_9, q_15, q_16, q_31, q_32, q_48, q_57, q_59, q_63, q_64, q_97, q_100, q_122, q_127, q_160, q_255, q_256, q_512, q_1024, q_2816, q_4096, q_16384, q_1048576, q_m1, q_m2, q_m3, q_m4, q_m5, bd_s, calP_s, cal_s, nI_add, pk_mul, pk_sub, z_and, z_or, z_xor, y_nd, y_shl, y_shr, y_tb, y_ck, nI_ltI, nI_eq, nI_clamp, y_m1a, y_m1b, y_m1c, y_m1d, y_m1e, y_b0, y_b1, y_and255, gsI_o, gsI_s, gsI_2, gsR_o, gsR_s, gsR_2, gsL_1, gsL_o, gsL_s, jn0, jn1, jn2, jn3, jn4, jn5, ↓reduceIte, if_true, if_false, ite_self, ne_eq, not_true_eq_false, not_false_eq_true, and_true, true_and, and_false, false_and, Nat.reduceAdd, Nat.reduceMul, Nat.reduceSub, Nat.reducePow, Nat.reduceLT, Nat.reduceEqDiff, Nat.reduceLeDiff, Nat.not_lt_zero, Nat.add_sub_cancel, Nat.add_zero, Nat.zero_add, pk_div, y_dn, Nat.one_mul, Nat.mul_one, reduceCtorEq, e_known h hp]
  by_cases q : p < n
  · simp only [q, decide_true]
    rw [y_ck _ (by omega) (by omega), y_ck _ (by omega) (by omega), h.o p (by omega), h.i p (by omega), z_and]
    rfl
  · simp [q, h.np.out p (by omega), q_0]
theorem e_leftBehind (h : NC σ n O c) {H S : Nat} (hS : S < 256) : f_X3_leftBehind σ (nI H) (nI S) = some (nI (nd (ah O (nd S H)) H)) := by
  have := nd_lt (b := H) hS
  unfold f_X3_leftBehind
  simp (disch := omega) only [q_0, q_1, q_2, q_3, q_4, q_5, q_6, q_7, q_8, q_9, q_15, q_16, q_31, q_32, q_48, q_57, q_59, q_63, q_64, q_97, q_100, q_122, q_127, q_160, q_255, q_256, q_512, q_1024, q_2816, q_4096, q_16384, q_1048576, q_m1, q_m2, q_m3, q_m4, q_m5, bd_s, calP_s, cal_s, nI_add, pk_mul, pk_sub, z_and, z_or, z_xor, y_nd, y_shl, y_shr, y_tb, y_ck, nI_ltI, nI_eq, nI_clamp, y_m1a, y_m1b, y_m1c, y_m1d, y_m1e, y_b0, y_b1, y_and255, gsI_o, gsI_s, gsI_2, gsR_o, gsR_s, gsR_2, gsL_1, gsL_o, gsL_s, jn0, jn1, jn2, jn3, jn4, jn5, ↓reduceIte, if_true, if_false, ite_self, ne_eq, not_true_eq_false, not_false_eq_true, and_true, true_and, and_false, false_and, Nat.reduceAdd, Nat.reduceMul, Nat.reduceSub, Nat.reducePow, Nat.reduceLT, Nat.reduceEqDiff, Nat.reduceLeDiff, Nat.not_lt_zero, Nat.add_sub_cancel, Nat.add_zero, Nat.zero_add, pk_div, y_dn, Nat.one_mul, Nat.mul_one, reduceCtorEq, e_aheadOf h]
/-- the least number of steps by sets -/
def farN (O : Nat → Nat) (b : Nat) : Nat → Nat → Nat → Int32
  | 0, _, _ => M1
  | k + 1, S, i => if S.testBit b = true then nI i else farN O b k (ah O S) (i + 1)
theorem farN_s (O : Nat → Nat) (b k S i : Nat) : farN O b (k + 1) S i = if S.testBit b = true then nI i else farN O b k (ah O S) (i + 1) := rfl
theorem e_distance (h : NC σ n O c) {a b : Nat} (ha : a < n) (hb : b < n) : f_X3_distance σ (nI a) (nI b) = some (farN O b 8 (2 ^ a) 0) := by
  have h8 := h.np.h8
  have h2 := pow_31 (p := a) (by omega)
  have h3 : 2 ^ a < 256 := pow8 (by omega)
  unfold f_X3_distance
  simp (disch := omega) only [q_0, q_1, q_2, q_3, q_4, q_5, q_6, q_7, q_8, q_9, q_15, q_16, q_31, q_32, q_48, q_57, q_59, q_63, q_64, q_97, q_100, q_122, q_127, q_160, q_255, q_256, q_512, q_1024, q_2816, q_4096, q_16384, q_1048576, q_m1, q_m2, q_m3, q_m4, q_m5, bd_s, calP_s, cal_s, nI_add, pk_mul, pk_sub, z_and, z_or, z_xor, y_nd, y_shl, y_shr, y_tb, y_ck, nI_ltI, nI_eq, nI_clamp, y_m1a, y_m1b, y_m1c, y_m1d, y_m1e, y_b0, y_b1, y_and255, gsI_o, gsI_s, gsI_2, gsR_o, gsR_s, gsR_2, gsL_1, gsL_o, gsL_s, jn0, jn1, jn2, jn3, jn4, jn5, ↓reduceIte, if_true, if_false, ite_self, ne_eq, not_true_eq_false, not_false_eq_true, and_true, true_and, and_false, false_and, Nat.reduceAdd, Nat.reduceMul, Nat.reduceSub, Nat.reducePow, Nat.reduceLT, Nat.reduceEqDiff, Nat.reduceLeDiff, Nat.not_lt_zero, Nat.add_sub_cancel, Nat.add_zero, Nat.zero_add, pk_div, y_dn, Nat.one_mul, Nat.mul_one, reduceCtorEq, y_pow]
  refine ok_eq (lo2_for (fun i x => ∃ S, S < 256 ∧ x = nI S ∧ farN O b 8 (2 ^ a) 0 = farN O b (8 - i) S i) 8 ?_ ?_ FU 0 _ (by omega) (fu_lt (by omega)) ⟨2 ^ a, h3, rfl, rfl⟩)
  · rintro rec i x hi ⟨S, hS, rfl, e⟩ k
    simp (disch := omega) only [q_0, q_1, q_2, q_3, q_4, q_5, q_6, q_7, q_8, q_9, q_15, q_16, q_31, q_32, q_48, q_57, q_59, q_63, q_64, q_97, q_100, q_122, q_127, q_160, q_255, q_256, q_512, q_1024, q_2816, q_4096, q_16384, q_1048576, q_m1, q_m2, q_m3, q_m4, q_m5, bd_s, calP_s, cal_s, nI_add, pk_mul, pk_sub, z_and, z_or, z_xor, y_nd, y_shl, y_shr, y_tb, y_ck, nI_ltI, nI_eq, nI_clamp, y_m1a, y_m1b, y_m1c, y_m1d, y_m1e, y_b0, y_b1, y_and255, gsI_o, gsI_s, gsI_2, gsR_o, gsR_s, gsR_2, gsL_1, gsL_o, gsL_s, jn0, jn1, jn2, jn3, jn4, jn5, ↓reduceIte, if_true, if_false, ite_self, ne_eq, not_true_eq_false, not_false_eq_true, and_true, true_and, and_false, false_and, Nat.reduceAdd, Nat.reduceMul, Nat.reduceSub, Nat.reducePow, Nat.reduceLT, Nat.reduceEqDiff, Nat.reduceLeDiff, Nat.not_lt_zero, Nat.add_sub_cancel, Nat.add_zero, Nat.zero_add, pk_div, y_dn, Nat.one_mul, Nat.mul_one, reduceCtorEq, e_has, e_aheadOf h hS]
    rw [show 8 - i = (8 - (i + 1)) + 1 by omega, farN_s O b (8 - (i + 1)) S i] at e
    cases hb : S.testBit b with
    | true => rw [hb, if_pos rfl] at e; simp only [hi, ↓reduceIte, Bool.true_eq_false]; exact ok_some e.symm
    | false =>
      rw [hb, if_neg (by decide)] at e
      simp only [hi, ↓reduceIte]
      exact k _ ⟨_, ah_lt8 h.np S, rfl, e⟩
  · rintro rec x ⟨S, hS, rfl, e⟩
    simp (disch := omega) only [q_0, q_1, q_2, q_3, q_4, q_5, q_6, q_7, q_8, q_9, q_15, q_16, q_31, q_32, q_48, q_57, q_59, q_63, q_64, q_97, q_100, q_122, q_127, q_160, q_255, q_256, q_512, q_1024, q_2816, q_4096, q_16384, q_1048576, q_m1, q_m2, q_m3, q_m4, q_m5, bd_s, calP_s, cal_s, nI_add, pk_mul, pk_sub, z_and, z_or, z_xor, y_nd, y_shl, y_shr, y_tb, y_ck, nI_ltI, nI_eq, nI_clamp, y_m1a, y_m1b, y_m1c, y_m1d, y_m1e, y_b0, y_b1, y_and255, gsI_o, gsI_s, gsI_2, gsR_o, gsR_s, gsR_2, gsL_1, gsL_o, gsL_s, jn0, jn1, jn2, jn3, jn4, jn5, ↓reduceIte, if_true, if_false, ite_self, ne_eq, not_true_eq_false, not_false_eq_true, and_true, true_and, and_false, false_and, Nat.reduceAdd, Nat.reduceMul, Nat.reduceSub, Nat.reducePow, Nat.reduceLT, Nat.reduceEqDiff, Nat.reduceLeDiff, Nat.not_lt_zero, Nat.add_sub_cancel, Nat.add_zero, Nat.zero_add, pk_div, y_dn, Nat.one_mul, Nat.mul_one, reduceCtorEq]
    exact ok_some e.symm
end NET
