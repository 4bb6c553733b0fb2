/-! the rounds of both sides by one function -/
def HL (n : Nat) (O : Nat → Nat) (k s : Nat) (lv : Nat → Nat → Nat) : Prop := ∀ r p, Vr n (k + 1) r → p < n → Lv O s (dgs (k + 1) r) p (lv r p)
section QUERY
variable {σ : St} {n c k s i sp : Nat} {O : Nat → Nat} {lv : Nat → Nat → Nat}
theorem hl_ex (h : NP n O) (hk : k < 3) (s : Nat) : ∃ lv, HL n O k s lv := by
  obtain ⟨T, hT1, hT2⟩ := stat_ex (O := O) h hk s
  have e : ∀ r p, ∃ v, Vr n (k + 1) r → p < n → Lv O s (dgs (k + 1) r) p v := by
    intro r p
    by_cases q : Vr n (k + 1) r ∧ p < n ∧ ∃ t, Su O s t (dgs (k + 1) r) p
    · obtain ⟨q1, q2, q3⟩ := q
      obtain ⟨v, v1, v2⟩ := pk_least (fun t => Su O s t (dgs (k + 1) r) p) q3
      refine ⟨v, fun _ _ => Or.inl ⟨?_, v1, v2⟩⟩
      rcases Nat.lt_or_ge v 8192 with q | q
      · exact q
      · exact (v2 T (by omega) (hT2 v r p q1 q2 v1)).elim
    · exact ⟨1048576, fun q1 q2 => Or.inr ⟨rfl, fun t q3 => q ⟨q1, q2, t, q3⟩⟩⟩
  exact ⟨fun r p => Classical.choose (e r p), fun r p => Classical.choose_spec (e r p)⟩
theorem hl_le (h : HL n O k s lv) {r p : Nat} (hr : Vr n (k + 1) r) (hp : p < n) : lv r p ≤ 1048576 := lv_le (h r p hr hp)
theorem hl_srt (h : HL n O k s lv) (hk : k < 3) {r p : Nat} (hr : Vr n (k + 1) r) (hp : p < n) : lv (srt (k + 1) r) p = lv r p := (lv_fun (srt_perm (by omega) (by omega) hr.1) (h r p hr hp) (h _ p (srt_vr (by omega) (by omega) hr) hp)).symm
theorem ct_lv (h : HL n O (i / 3) sp lv) (hc : CT σ n O i sp) {r p : Nat} (hr : Vr n (i / 3 + 1) r) (hp : p < n) : σ.1 (41 + 5 * i) (r * 8 + p) = nI (lv r p) := by
  obtain ⟨v, v1, v2⟩ := hc.lv r p hr hp
  rw [v1, lv_fun (List.Perm.refl _) v2 (h r p hr hp)]
theorem mt_lv (h : HL n O k s lv) (hm : MT σ n O k s) {r p : Nat} (hr : Sg n (k + 1) r) (hp : p < n) : σ.1 105 (4096 * (3 * k + s - 1) + 8 * r + p) = mv (lv r p) := by
  obtain ⟨v, v1, v2⟩ := hm r p hr hp
  rw [v1, lv_fun (List.Perm.refl _) v2 (h r p hr.1 hp)]
theorem e_leftAt (hx : CX σ n O c i sp) (h : HL n O (i / 3) sp lv) (hc : CT σ n O i sp) {r p : Nat} (hr : Vr n (i / 3 + 1) r) (hp : p < n) : f_X0_leftAt σ i (nI r) (nI p) = some (nI (lv r p)) := by
  have hk : i / 3 < 3 := by have := hx.hi; omega
  have hz := sz_eq (i / 3) hk
  have h512 := p8_le (i / 3) hk
  have h8 := hx.nc.np.h8
  have hr1 := hr.1
  have hp8 : p < 8 := by omega
  have hv := ct_lv h hc hr hp
  unfold f_X0_leftAt
  rw [hz]
  simp (disch := omega) only [q_0, q_1, q_2, q_3, q_4, q_5, q_6, q_7, q_8, q_9, q_15, q_16, q_31, q_32, q_48, q_57, q_59, q_63, q_64, q_97, q_100, q_122, q_127, q_160, q_255, q_256, q_512, q_1024, q_2816, q_4096, q_16384, q_1048576, q_m1, q_m2, q_m3, q_m4, q_m5, bd_s, calP_s, cal_s, nI_add, pk_mul, pk_sub, z_and, z_or, z_xor, y_nd, y_shl, y_shr, y_tb, y_ck, nI_ltI, nI_eq, nI_clamp, y_m1a, y_m1b, y_m1c, y_m1d, y_m1e, y_b0, y_b1, y_and255, gsI_o, gsI_s, gsI_2, gsR_o, gsR_s, gsR_2, gsL_1, gsL_o, gsL_s, jn0, jn1, jn2, jn3, jn4, jn5, ↓reduceIte, if_true, if_false, ite_self, ne_eq, not_true_eq_false, not_false_eq_true, and_true, true_and, and_false, false_and, Nat.reduceAdd, Nat.reduceMul, Nat.reduceSub, Nat.reducePow, Nat.reduceLT, Nat.reduceEqDiff, Nat.reduceLeDiff, Nat.not_lt_zero, Nat.add_sub_cancel, Nat.add_zero, Nat.zero_add, pk_div, y_dn, Nat.one_mul, Nat.mul_one, reduceCtorEq, hr1, hp8, hv]
theorem e_mostAmong (hx : CX σ n O c i sp) (h : HL n O (i / 3) sp lv) (hc : CT σ n O i sp) {r P : Nat} (hr : Vr n (i / 3 + 1) r) (hP : P < 2 ^ n) : f_X0_mostAmong σ i (nI r) (nI P) = some (nI (bmx P (lv r) n)) := by
  have h8 := hx.nc.np.h8
  have h256 := p256 h8
  have hb : ∀ m, bmx P (lv r) m ≤ 1048576 := fun m => bmx_le.mpr (fun q _ hF => hl_le h hr (tb_lt hP hF))
  have he : bmx P (lv r) 8 = bmx P (lv r) n := by
    refine Nat.le_antisymm ?_ (bmx_mono h8)
    exact bmx_le.mpr (fun q _ hF => bmx_le.mp (Nat.le_refl _) q (tb_lt hP hF) hF)
  unfold f_X0_mostAmong
  rw [q_0, ← he]
  refine ok_eq (lo2_for (fun j x => x = nI (bmx P (lv r) j)) 8 ?_ ?_ FU 0 _ (by omega) (fu_lt (by omega)) rfl)
  · rintro rec j x hj rfl kk
    rw [q_8, if_pos (nI_lt hj (by omega)), e_has (by omega) (by omega), calP_s, q_1, nI_add]
    cases hb2 : P.testBit j with
    | false =>
      rw [if_pos (show nI false.toNat = nI 0 from rfl)]
      exact kk _ (by rw [bmx, if_neg (by rw [hb2]; decide), Nat.max_eq_left (Nat.zero_le _)])
    | true =>
      have hjn := tb_lt hP hb2
      have hl := hl_le h hr hjn
      have hbj := hb j
      rw [if_neg (show ¬ nI true.toNat = nI 0 by decide), e_leftAt hx h hc hr hjn, calP_s, bd_s]
      refine kk _ ?_
      rw [bmx, if_pos hb2]
      by_cases q : bmx P (lv r) j < lv r j
      · rw [if_pos (nI_lt q (by omega)), Nat.max_eq_right (by omega)]
      · rw [if_neg (nI_nlt (by omega) (by omega)), Nat.max_eq_left (by omega)]
  · rintro rec x rfl
    rw [q_8, if_neg (nI_nlt (Nat.le_refl _) (by omega))]
    exact ok_some rfl
theorem e_flights (hx : CX σ n O c i sp) {r p : Nat} (hr : r < 8 ^ (i / 3 + 1)) (hp : p < n) : f_X0_flights σ i (nI r) (nI p) = some (nI (flB O (plc (dgs (i / 3 + 1) r)) sp (2 ^ p))) := by
  have hk : i / 3 < 3 := by have := hx.hi; omega
  have h8 := hx.nc.np.h8
  have hs3 := hx.s3
  have h2 := pow8 (p := p) (by omega)
  have h256 := p256 h8
  have hpw : (1 : Int32) <<< (nI p &&& 31) = nI (2 ^ p) := by
    simp (disch := omega) only [q_0, q_1, q_2, q_3, q_4, q_5, q_6, q_7, q_8, q_9, q_15, q_16, q_31, q_32, q_48, q_57, q_59, q_63, q_64, q_97, q_100, q_122, q_127, q_160, q_255, q_256, q_512, q_1024, q_2816, q_4096, q_16384, q_1048576, q_m1, q_m2, q_m3, q_m4, q_m5, bd_s, calP_s, cal_s, nI_add, pk_mul, pk_sub, z_and, z_or, z_xor, y_nd, y_shl, y_shr, y_tb, y_ck, nI_ltI, nI_eq, nI_clamp, y_m1a, y_m1b, y_m1c, y_m1d, y_m1e, y_b0, y_b1, y_and255, gsI_o, gsI_s, gsI_2, gsR_o, gsR_s, gsR_2, gsL_1, gsL_o, gsL_s, jn0, jn1, jn2, jn3, jn4, jn5, ↓reduceIte, if_true, if_false, ite_self, ne_eq, not_true_eq_false, not_false_eq_true, and_true, true_and, and_false, false_and, Nat.reduceAdd, Nat.reduceMul, Nat.reduceSub, Nat.reducePow, Nat.reduceLT, Nat.reduceEqDiff, Nat.reduceLeDiff, Nat.not_lt_zero, Nat.add_sub_cancel, Nat.add_zero, Nat.zero_add, pk_div, y_dn, Nat.one_mul, Nat.mul_one, reduceCtorEq, y_pow]
  unfold f_X0_flights
  rw [hpw, bd_s, q_0]
  refine ok_eq (lo2_for (fun j x => x = nI (flB O (plc (dgs (i / 3 + 1) r)) j (2 ^ p))) sp ?_ ?_ FU 0 _ (by omega) (fu_lt (by omega)) rfl)
  · rintro rec j x hj rfl kk
    have hl := flB_lt hx.nc.np (plc (dgs (i / 3 + 1) r)) j (S := 2 ^ p) (Nat.pow_lt_pow_right (by decide) hp)
    rw [hx.sp, if_pos (nI_lt hj (by omega)), e_aheadOf hx.nc (by omega), calP_s, e_placesOf hx.st hk hr, calP_s, bd_s, q_mm, y_nd, q_1, nI_add]
    exact kk _ rfl
  · rintro rec x rfl
    rw [hx.sp, if_neg (nI_nlt (Nat.le_refl _) (by omega))]
    exact ok_some rfl
theorem e_roundsFrom (hx : CX σ n O c i sp) (h : HL n O (i / 3) sp lv) (hc : CT σ n O i sp) {r p : Nat} (hr : Vr n (i / 3 + 1) r) (hp : p < n) : f_X0_roundsFrom σ i (nI r) (nI p) = some (mv (lv r p)) := by
  have hl := hl_le h hr hp
  unfold f_X0_roundsFrom
  rw [e_leftAt hx h hc hr hp, calP_s, q_1048576, q_mm]
  by_cases q : lv r p = 1048576
  · rw [q, if_pos rfl, mv_e]
  · rw [if_neg (fun e => q ((nI_eq (by omega) (by omega)).mp e)), mv_n (by omega)]
theorem e_mostFrom (hx : CX σ n O c i sp) (h : HL n O (i / 3) sp lv) (hc : CT σ n O i sp) {r : Nat} (hr : Vr n (i / 3 + 1) r) : f_X0_mostFrom σ i (nI r) = some (mv (bmx (2 ^ n - 1) (lv r) n)) := by
  have h2 := Nat.two_pow_pos n
  have hl : bmx (2 ^ n - 1) (lv r) n ≤ 1048576 := bmx_le.mpr (fun q hq _ => hl_le h hr hq)
  unfold f_X0_mostFrom
  rw [e_all hx.nc.z, calP_s, e_mostAmong hx h hc hr (by omega), calP_s, q_1048576, q_mm]
  by_cases q : bmx (2 ^ n - 1) (lv r) n = 1048576
  · rw [q, if_pos rfl, mv_e]
  · rw [if_neg (fun e => q ((nI_eq (by omega) (by omega)).mp e)), mv_n (by omega)]
end QUERY
