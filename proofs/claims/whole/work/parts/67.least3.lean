/-! least, of the reference -/
section LEAST3
variable {σ : St} {n c : Nat} {O : Nat → Nat}
theorem m_least (h : NM σ n O) (b : Bool) : f_X10_least σ (nI (!b).toNat) = some (nI (lsS n (fun S => if b = true then seB n O S else tcB O S n) (2 ^ n - 1))) := by
  have ha := all_lt h.np
  have h8 := h.np.h8
  have h2 := Nat.two_pow_pos n
  have hls := ls_lt h.np (fun S => if b = true then seB n O S else tcB O S n)
  have hall : nI 1 <<< (nI n &&& 31) - nI 1 = nI (2 ^ n - 1) := by
    simp (disch := omega) only [q_0, q_1, q_2, q_3, q_4, q_5, q_6, q_7, q_8, q_9, q_15, q_16, q_31, q_32, q_48, q_57, q_59, q_63, q_64, q_97, q_100, q_122, q_127, q_160, q_255, q_256, q_512, q_1024, q_2816, q_4096, q_16384, q_1048576, q_m1, q_m2, q_m3, q_m4, q_m5, bd_s, calP_s, cal_s, nI_add, pk_mul, pk_sub, z_and, z_or, z_xor, y_nd, y_shl, y_shr, y_tb, y_ck, nI_ltI, nI_eq, nI_clamp, y_m1a, y_m1b, y_m1c, y_m1d, y_m1e, y_b0, y_b1, y_and255, gsI_o, gsI_s, gsI_2, gsR_o, gsR_s, gsR_2, gsL_1, gsL_o, gsL_s, jn0, jn1, jn2, jn3, jn4, jn5, ↓reduceIte, if_true, if_false, ite_self, ne_eq, not_true_eq_false, not_false_eq_true, and_true, true_and, and_false, false_and, Nat.reduceAdd, Nat.reduceMul, Nat.reduceSub, Nat.reducePow, Nat.reduceLT, Nat.reduceEqDiff, Nat.reduceLeDiff, Nat.not_lt_zero, Nat.add_sub_cancel, Nat.add_zero, Nat.zero_add, pk_div, y_dn, Nat.one_mul, Nat.mul_one, reduceCtorEq, y_pow]
  have hin : f_X10_in σ (nI (!b).toNat) (nI 0) (nI 1) = some (nI 1) := by
    cases b <;> rfl
  unfold f_X10_least
  rw [q_0, q_1, hin, calP_s, if_neg (show ¬ nI 1 = nI 0 by decide), h.pl, hall, bd_s]
  refine ok_eq (lo2_for (fun j x => x = nI (lsS n (fun S => if b = true then seB n O S else tcB O S n) j)) (2 ^ n - 1) ?_ ?_ FU 0 _ (Nat.zero_le _) (fu_lt (by omega)) rfl)
  · rintro rec S x hS rfl kk
    have hl := hls S (by omega)
    have p1 := pc_le S 8
    have p2 := pc_le (lsS n (fun S => if b = true then seB n O S else tcB O S n) S) 8
    have hah := ah_lt8 h.np S
    rw [lsS] at kk
    rw [if_pos (nI_lt hS (by omega)), jn1, nI_add, e_bits (by omega), e_bits (by omega)]
    have fin : ∀ w : Bool, w = (if b = true then seB n O S else tcB O S n) → Ok (if nI w.toNat = nI 0 then rec (nI (lsS n (fun S => if b = true then seB n O S else tcB O S n) S)) (nI (S + 1)) else calP (some (nI (pc S 8))) fun r9 => calP (some (nI (pc (lsS n (fun S => if b = true then seB n O S else tcB O S n) S) 8))) fun r10 => if r9 < r10 then rec (nI S) (nI (S + 1)) else rec (nI (lsS n (fun S => if b = true then seB n O S else tcB O S n) S)) (nI (S + 1))) (fun x => x = nI (lsS n (fun S => if b = true then seB n O S else tcB O S n) (2 ^ n - 1))) := by
      intro w hw
      cases w with
      | false =>
        rw [if_pos (show nI false.toNat = nI 0 from rfl)]
        exact kk _ (by rw [if_neg (fun e => by rw [← hw] at e; exact Bool.noConfusion e.1)])
      | true =>
        rw [if_neg (show ¬ nI true.toNat = nI 0 by decide), calP_s, calP_s]
        by_cases q : pc S 8 < pc (lsS n (fun S => if b = true then seB n O S else tcB O S n) S) 8
        · rw [if_pos (nI_lt q (by omega))]
          exact kk _ (by rw [if_pos ⟨hw.symm, q⟩])
        · rw [if_neg (nI_nlt (by omega) (by omega))]
          exact kk _ (by rw [if_neg (fun e => q e.2)])
    cases b with
    | true =>
      rw [if_pos (show nI (!true).toNat = nI 0 from rfl), e_stepped h (by omega), calP_s]
      by_cases q2 : ah O S = 2 ^ n - 1
      · rw [if_pos (by rw [q2])]
        exact fin true (by simp [seB, q2])
      · rw [if_neg (fun e => q2 ((nI_eq (by omega) (by omega)).mp e))]
        exact fin false (by simp [seB, q2])
    | false =>
      rw [if_neg (show ¬ nI (!false).toNat = nI 0 by decide), m_doesTouch h (by omega), calP_s]
      exact fin _ (by simp)
  · rintro rec x rfl
    rw [if_neg (nI_nlt (Nat.le_refl _) (by omega))]
    exact ok_some rfl
end LEAST3
