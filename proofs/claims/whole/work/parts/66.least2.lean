/-! least, of both sides -/
section LEAST2
variable {σ : St} {n c : Nat} {O : Nat → Nat}
theorem e_leastSet (h : NC σ n O c) (b : Bool) : f_X1_leastSet σ (nI b.toNat) = some (nI (lsS n (fun S => if b = true then seB n O S else tcB O S n) (2 ^ n - 1))) := by
  have ha := all_lt h.np
  have hls := ls_lt h.np (fun S => if b = true then seB n O S else tcB O S n)
  unfold f_X1_leastSet
  rw [e_all h.z, calP_s, q_0]
  refine ok_eq (lo2_for (fun j x => x = nI (lsS n (fun S => if b = true then seB n O S else tcB O S n) j)) (2 ^ n - 1) ?_ ?_ FU 0 _ (Nat.zero_le _) (fu_lt (by omega)) rfl)
  · rintro rec S x hS rfl kk
    have hl := hls S (by omega)
    have p1 := pc_le S 8
    have p2 := pc_le (lsS n (fun S => if b = true then seB n O S else tcB O S n) S) 8
    have hah := ah_lt8 h.np S
    rw [calP_s, if_pos (nI_lt hS (by omega)), e_bc (by omega), calP_s, e_bc hl, calP_s, bd_s, q_1, nI_add]
    rw [lsS] at kk
    by_cases q : pc S 8 < pc (lsS n (fun S => if b = true then seB n O S else tcB O S n) S) 8
    · rw [if_pos (nI_lt q (by omega)), if_neg (show ¬ nI 1 = nI 0 by decide)]
      cases b with
      | true =>
        rw [if_neg (show ¬ nI true.toNat = nI 0 by decide), e_aheadOf h (by omega), calP_s, calP_s]
        by_cases q2 : ah O S = 2 ^ n - 1
        · rw [if_pos (by rw [q2])]
          exact kk _ (by rw [if_pos ⟨by simp [seB, q2], q⟩])
        · rw [if_neg (fun e => q2 ((nI_eq (by omega) (by omega)).mp e))]
          exact kk _ (by rw [if_neg (fun e => q2 (by simpa [seB] using e.1))])
      | false =>
        rw [if_pos (show nI false.toNat = nI 0 from rfl), e_touchesAll h.z (by omega), calP_s]
        cases hb : tcB O S n with
        | true =>
          rw [if_neg (show ¬ nI true.toNat = nI 0 by decide)]
          exact kk _ (by rw [if_pos ⟨by simp [hb], q⟩])
        | false =>
          rw [if_pos (show nI false.toNat = nI 0 from rfl)]
          exact kk _ (by rw [if_neg (fun e => by simp [hb] at e)])
    · rw [if_neg (nI_nlt (by omega) (by omega)), if_pos rfl]
      exact kk _ (by rw [if_neg (fun e => q e.2)])
  · rintro rec x rfl
    rw [calP_s, if_neg (nI_nlt (Nat.le_refl _) (by omega))]
    exact ok_some rfl
end LEAST2
