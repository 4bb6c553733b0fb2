/-! least sets that see or touch all -/
def tcB (O : Nat → Nat) (S : Nat) : Nat → Bool
  | 0 => true
  | a + 1 => tcB O S a && (S.testBit a || decide (nd (nd (O a) (2 ^ a)) S = 0))
def seB (n : Nat) (O : Nat → Nat) (S : Nat) : Bool := decide (ah O S = 2 ^ n - 1)
def lsS (n : Nat) (ok : Nat → Bool) : Nat → Nat
  | 0 => 2 ^ n - 1
  | S + 1 => if ok S = true ∧ pc S 8 < pc (lsS n ok S) 8 then S else lsS n ok S
section LEAST
variable {σ : St} {n c : Nat} {O : Nat → Nat}
theorem ls_lt (h : NP n O) (ok : Nat → Bool) : ∀ m, m ≤ 2 ^ n - 1 → lsS n ok m < 256 := by
  intro m
  have ha := all_lt h
  induction m with
  | zero => intro _; exact ha
  | succ m ih =>
    intro hm
    rw [lsS]
    split
    · omega
    · exact ih (by omega)
theorem tc_eq (h : NP n O) {S a : Nat} (ha : a < n) (hs : S.testBit a = false) : O a &&& nd (2 ^ n - 1) S = 2 ^ a ↔ nd (nd (O a) (2 ^ a)) S = 0 := by
  constructor
  · intro e
    refine tb_ext (fun i => ?_)
    have e1 := congrArg (fun x => Nat.testBit x i) e
    simp only [Nat.testBit_and, nd_tb, Nat.testBit_two_pow_sub_one, tb_pow] at e1
    rw [nd_tb, nd_tb, tb_pow, Nat.zero_testBit]
    by_cases q : a = i
    · subst q; simp
    · cases hO : (O a).testBit i with
      | false => rfl
      | true =>
        have := tb_lt (h.lt a) hO
        simp [q, hO, this] at e1
        simp [q, e1]
  · intro e
    refine tb_ext (fun i => ?_)
    have e1 := congrArg (fun x => Nat.testBit x i) e
    simp only [nd_tb, Nat.zero_testBit, tb_pow] at e1
    rw [Nat.testBit_and, nd_tb, Nat.testBit_two_pow_sub_one, tb_pow]
    by_cases q : a = i
    · subst q; simp [h.self a ha, ha, hs]
    · cases hO : (O a).testBit i with
      | false => simp [q]
      | true =>
        simp [q, hO] at e1
        simp [q, e1]
theorem tc_false {S a : Nat} (h1 : S.testBit a = false) (h2 : ¬ nd (nd (O a) (2 ^ a)) S = 0) : ∀ m, a < m → tcB O S m = false := by
  intro m
  induction m with
  | zero => intro h; omega
  | succ m ih =>
    intro hm
    rcases Nat.lt_succ_iff_lt_or_eq.mp hm with e | rfl
    · rw [tcB, ih e]; rfl
    · rw [tcB, h1, decide_eq_false h2]; exact Bool.and_false _
theorem e_touchesAll (h : N0 σ n O) {S : Nat} (hS : S < 256) : f_X1_touchesAll σ (nI S) = some (nI (tcB O S n).toNat) := by
  have h8 := h.np.h8
  have ha := all_lt h.np
  have hl : nd (2 ^ n - 1) S < 256 := nd_lt ha
  unfold f_X1_touchesAll f_X3_places
  rw [e_all h, calP_s, q_mm, y_nd, bd_s, q_0, q_1]
  refine ok_eq (lo1_for (fun j => tcB O S j = true) n ?_ ?_ FU 0 (by omega) (fu_lt (by omega)) rfl)
  · intro rec a hj hI kk
    have hpw : nI 1 <<< (nI a &&& 31) = nI (2 ^ a) := by
      simp (disch := omega) only [q_0, q_1, q_2, q_3, q_4, q_5, q_6, q_7, q_8, q_9, q_15, q_16, q_31, q_32, q_48, q_57, q_59, q_63, q_64, q_97, q_100, q_122, q_127, q_160, q_255, q_256, q_512, q_1024, q_2816, q_4096, q_16384, q_1048576, q_m1, q_m2, q_m3, q_m4, q_m5, bd_s, calP_s, cal_s, nI_add, pk_mul, pk_sub, z_and, z_or, z_xor, y_nd, y_shl, y_shr, y_tb, y_ck, nI_ltI, nI_eq, nI_clamp, y_m1a, y_m1b, y_m1c, y_m1d, y_m1e, y_b0, y_b1, y_and255, gsI_o, gsI_s, gsI_2, gsR_o, gsR_s, gsR_2, gsL_1, gsL_o, gsL_s, jn0, jn1, jn2, jn3, jn4, jn5, ↓reduceIte, if_true, if_false, ite_self, ne_eq, not_true_eq_false, not_false_eq_true, and_true, true_and, and_false, false_and, Nat.reduceAdd, Nat.reduceMul, Nat.reduceSub, Nat.reducePow, Nat.reduceLT, Nat.reduceEqDiff, Nat.reduceLeDiff, Nat.not_lt_zero, Nat.add_sub_cancel, Nat.add_zero, Nat.zero_add, pk_div, y_dn, Nat.one_mul, Nat.mul_one, reduceCtorEq, y_pow]
    have hp := pow8 (p := a) (by omega)
    have hOl : O a &&& nd (2 ^ n - 1) S < 256 := Nat.lt_of_le_of_lt Nat.and_le_left (h.np.lt8 a)
    rw [h.pl, calP_s, if_pos (nI_lt hj (by omega)), e_has (by omega) (by omega), calP_s, e_outOf h (by omega), calP_s, z_and, hpw, nI_add]
    rw [tcB, hI, Bool.true_and] at kk
    have hbit : (nd (2 ^ n - 1) S).testBit a = !S.testBit a := by
      rw [nd_tb, Nat.testBit_two_pow_sub_one]; simp [hj]
    rw [hbit]
    cases hb : S.testBit a with
    | true =>
      rw [if_pos (show nI (!true).toNat = nI 0 from rfl)]
      exact kk (by rw [hb]; rfl)
    | false =>
      rw [if_neg (show ¬ nI (!false).toNat = nI 0 by decide)]
      by_cases q : nd (nd (O a) (2 ^ a)) S = 0
      · rw [if_pos (by rw [(tc_eq h.np hj hb).mpr q])]
        exact kk (by rw [hb, decide_eq_true q]; rfl)
      · rw [if_neg (fun e => q ((tc_eq h.np hj hb).mp ((nI_eq (by omega) (by omega)).mp e)))]
        exact ok_some (by rw [tc_false hb q n hj]; rfl)
  · intro rec hI
    rw [h.pl, calP_s, if_neg (nI_nlt (Nat.le_refl _) (by omega))]
    exact ok_some (by rw [hI]; rfl)
theorem m_doesTouch (h : NM σ n O) {S : Nat} (hS : S < 256) : f_X10_doesTouch σ (nI S) = some (nI (tcB O S n).toNat) := by
  have h8 := h.np.h8
  unfold f_X10_doesTouch
  rw [q_0, q_1]
  refine ok_eq (lo2_for (fun j x => x = nI (tcB O S j).toNat) n ?_ ?_ FU 0 _ (by omega) (fu_lt (by omega)) rfl)
  · rintro rec a x hj rfl kk
    have hbit : (nI S >>> (nI a &&& 31)) &&& nI 1 = nI (S.testBit a).toNat := by
      simp (disch := omega) only [q_0, q_1, q_2, q_3, q_4, q_5, q_6, q_7, q_8, q_9, q_15, q_16, q_31, q_32, q_48, q_57, q_59, q_63, q_64, q_97, q_100, q_122, q_127, q_160, q_255, q_256, q_512, q_1024, q_2816, q_4096, q_16384, q_1048576, q_m1, q_m2, q_m3, q_m4, q_m5, bd_s, calP_s, cal_s, nI_add, pk_mul, pk_sub, z_and, z_or, z_xor, y_nd, y_shl, y_shr, y_tb, y_ck, nI_ltI, nI_eq, nI_clamp, y_m1a, y_m1b, y_m1c, y_m1d, y_m1e, y_b0, y_b1, y_and255, gsI_o, gsI_s, gsI_2, gsR_o, gsR_s, gsR_2, gsL_1, gsL_o, gsL_s, jn0, jn1, jn2, jn3, jn4, jn5, ↓reduceIte, if_true, if_false, ite_self, ne_eq, not_true_eq_false, not_false_eq_true, and_true, true_and, and_false, false_and, Nat.reduceAdd, Nat.reduceMul, Nat.reduceSub, Nat.reducePow, Nat.reduceLT, Nat.reduceEqDiff, Nat.reduceLeDiff, Nat.not_lt_zero, Nat.add_sub_cancel, Nat.add_zero, Nat.zero_add, pk_div, y_dn, Nat.one_mul, Nat.mul_one, reduceCtorEq]
    have hl : nd (nd (O a) (2 ^ a)) S < 256 := nd_lt (nd_lt (h.np.lt8 a))
    rw [h.pl, if_pos (nI_lt hj (by omega)), hbit, nI_add, q_m1, y_ck _ (by omega) (by omega), nI_clamp (by omega), h.r a (by omega), y_nd]
    rw [tcB] at kk
    cases hI : tcB O S a with
    | false =>
      rw [if_pos (show nI false.toNat = nI 0 from rfl)]
      exact kk _ (by rw [hI]; rfl)
    | true =>
      rw [if_neg (show ¬ nI true.toNat = nI 0 by decide)]
      cases hb : S.testBit a with
      | true =>
        rw [if_pos (show nI true.toNat = nI 1 from rfl)]
        exact kk _ (by rw [hI, hb]; rfl)
      | false =>
        rw [if_neg (show ¬ nI false.toNat = nI 1 by decide)]
        by_cases q : nd (nd (O a) (2 ^ a)) S = 0
        · rw [q, if_pos rfl]
          exact kk _ (by rw [hI, hb, q]; rfl)
        · rw [if_neg (fun e => q ((nI_eq (by omega) (by omega)).mp e))]
          exact kk _ (by rw [hI, hb, decide_eq_false q]; rfl)
  · rintro rec x rfl
    rw [h.pl, if_neg (nI_nlt (Nat.le_refl _) (by omega)), y_ckZ]
    exact ok_some rfl
end LEAST
