/-! places taken away, of the reference -/
section AWAYM
variable {σ : St} {n c : Nat} {O : Nat → Nat}
theorem bw_mk (h : NP n O) {p : Nat} (hp : p < n) : 2 ^ p ||| mkS (fun q => (nd (O p) (2 ^ p)).testBit q && (nd (O q) (2 ^ q)).testBit p) n = bw O p := tb_ext (fun i => by
  have h8 := h.h8
  rw [bw, Nat.testBit_or, Nat.testBit_and, tb_pow, mkS_tb]
  by_cases e : p = i
  · subst e
    rw [h.self p hp, inv_tb (by omega), h.self p hp]
    simp
  · have e2 : ¬ i = p := fun q => e q.symm
    rw [nd_tb, nd_tb, tb_pow, tb_pow]
    by_cases hi : i < n
    · rw [inv_tb (by omega)]
      simp [e, e2, hi]
    · rw [tb_ge (h.lt p) (by omega)]
      simp [e, hi])
theorem m_stepsBoth (h : NM σ n O) {p : Nat} (hp : p < n) : f_X10_stepsBoth σ (nI p) = some (nI (bw O p)) := by
  have h8 := h.np.h8
  have hpw : nI 1 <<< (nI p &&& 31) = nI (2 ^ p) := by
    simp (disch := omega) only [q_0, q_1, q_2, q_3, q_4, q_5, q_6, q_7, q_8, q_9, q_15, q_16, q_31, q_32, q_48, q_57, q_59, q_63, q_64, q_97, q_100, q_122, q_127, q_160, q_255, q_256, q_512, q_1024, q_2816, q_4096, q_16384, q_1048576, q_m1, q_m2, q_m3, q_m4, q_m5, bd_s, calP_s, cal_s, nI_add, pk_mul, pk_sub, z_and, z_or, z_xor, y_nd, y_shl, y_shr, y_tb, y_ck, nI_ltI, nI_eq, nI_clamp, y_m1a, y_m1b, y_m1c, y_m1d, y_m1e, y_b0, y_b1, y_and255, gsI_o, gsI_s, gsI_2, gsR_o, gsR_s, gsR_2, gsL_1, gsL_o, gsL_s, jn0, jn1, jn2, jn3, jn4, jn5, ↓reduceIte, if_true, if_false, ite_self, ne_eq, not_true_eq_false, not_false_eq_true, and_true, true_and, and_false, false_and, Nat.reduceAdd, Nat.reduceMul, Nat.reduceSub, Nat.reducePow, Nat.reduceLT, Nat.reduceEqDiff, Nat.reduceLeDiff, Nat.not_lt_zero, Nat.add_sub_cancel, Nat.add_zero, Nat.zero_add, pk_div, y_dn, Nat.one_mul, Nat.mul_one, reduceCtorEq, y_pow]
  have hl : nd (O p) (2 ^ p) < 256 := nd_lt (h.np.lt8 p)
  unfold f_X10_stepsBoth
  rw [q_0, q_1, hpw, bd_s, ← bw_mk h.np hp]
  refine ok_eq (lo2_for (fun j x => x = nI (2 ^ p ||| mkS (fun q => (nd (O p) (2 ^ p)).testBit q && (nd (O q) (2 ^ q)).testBit p) j)) n ?_ ?_ FU 0 _ (by omega) (fu_lt (by omega)) (by rw [mkS, Nat.or_zero]))
  · rintro rec j x hj rfl kk
    have hlj : nd (O j) (2 ^ j) < 256 := nd_lt (h.np.lt8 j)
    have hb1 : (nI (nd (O p) (2 ^ p)) >>> (nI j &&& 31)) &&& nI 1 = nI ((nd (O p) (2 ^ p)).testBit j).toNat := by
      simp (disch := omega) only [q_0, q_1, q_2, q_3, q_4, q_5, q_6, q_7, q_8, q_9, q_15, q_16, q_31, q_32, q_48, q_57, q_59, q_63, q_64, q_97, q_100, q_122, q_127, q_160, q_255, q_256, q_512, q_1024, q_2816, q_4096, q_16384, q_1048576, q_m1, q_m2, q_m3, q_m4, q_m5, bd_s, calP_s, cal_s, nI_add, pk_mul, pk_sub, z_and, z_or, z_xor, y_nd, y_shl, y_shr, y_tb, y_ck, nI_ltI, nI_eq, nI_clamp, y_m1a, y_m1b, y_m1c, y_m1d, y_m1e, y_b0, y_b1, y_and255, gsI_o, gsI_s, gsI_2, gsR_o, gsR_s, gsR_2, gsL_1, gsL_o, gsL_s, jn0, jn1, jn2, jn3, jn4, jn5, ↓reduceIte, if_true, if_false, ite_self, ne_eq, not_true_eq_false, not_false_eq_true, and_true, true_and, and_false, false_and, Nat.reduceAdd, Nat.reduceMul, Nat.reduceSub, Nat.reducePow, Nat.reduceLT, Nat.reduceEqDiff, Nat.reduceLeDiff, Nat.not_lt_zero, Nat.add_sub_cancel, Nat.add_zero, Nat.zero_add, pk_div, y_dn, Nat.one_mul, Nat.mul_one, reduceCtorEq]
    have hb2 : (nI (nd (O j) (2 ^ j)) >>> (nI p &&& 31)) &&& nI 1 = nI ((nd (O j) (2 ^ j)).testBit p).toNat := by
      simp (disch := omega) only [q_0, q_1, q_2, q_3, q_4, q_5, q_6, q_7, q_8, q_9, q_15, q_16, q_31, q_32, q_48, q_57, q_59, q_63, q_64, q_97, q_100, q_122, q_127, q_160, q_255, q_256, q_512, q_1024, q_2816, q_4096, q_16384, q_1048576, q_m1, q_m2, q_m3, q_m4, q_m5, bd_s, calP_s, cal_s, nI_add, pk_mul, pk_sub, z_and, z_or, z_xor, y_nd, y_shl, y_shr, y_tb, y_ck, nI_ltI, nI_eq, nI_clamp, y_m1a, y_m1b, y_m1c, y_m1d, y_m1e, y_b0, y_b1, y_and255, gsI_o, gsI_s, gsI_2, gsR_o, gsR_s, gsR_2, gsL_1, gsL_o, gsL_s, jn0, jn1, jn2, jn3, jn4, jn5, ↓reduceIte, if_true, if_false, ite_self, ne_eq, not_true_eq_false, not_false_eq_true, and_true, true_and, and_false, false_and, Nat.reduceAdd, Nat.reduceMul, Nat.reduceSub, Nat.reducePow, Nat.reduceLT, Nat.reduceEqDiff, Nat.reduceLeDiff, Nat.not_lt_zero, Nat.add_sub_cancel, Nat.add_zero, Nat.zero_add, pk_div, y_dn, Nat.one_mul, Nat.mul_one, reduceCtorEq]
    have hpj : nI 1 <<< (nI j &&& 31) = nI (2 ^ j) := by
      simp (disch := omega) only [q_0, q_1, q_2, q_3, q_4, q_5, q_6, q_7, q_8, q_9, q_15, q_16, q_31, q_32, q_48, q_57, q_59, q_63, q_64, q_97, q_100, q_122, q_127, q_160, q_255, q_256, q_512, q_1024, q_2816, q_4096, q_16384, q_1048576, q_m1, q_m2, q_m3, q_m4, q_m5, bd_s, calP_s, cal_s, nI_add, pk_mul, pk_sub, z_and, z_or, z_xor, y_nd, y_shl, y_shr, y_tb, y_ck, nI_ltI, nI_eq, nI_clamp, y_m1a, y_m1b, y_m1c, y_m1d, y_m1e, y_b0, y_b1, y_and255, gsI_o, gsI_s, gsI_2, gsR_o, gsR_s, gsR_2, gsL_1, gsL_o, gsL_s, jn0, jn1, jn2, jn3, jn4, jn5, ↓reduceIte, if_true, if_false, ite_self, ne_eq, not_true_eq_false, not_false_eq_true, and_true, true_and, and_false, false_and, Nat.reduceAdd, Nat.reduceMul, Nat.reduceSub, Nat.reducePow, Nat.reduceLT, Nat.reduceEqDiff, Nat.reduceLeDiff, Nat.not_lt_zero, Nat.add_sub_cancel, Nat.add_zero, Nat.zero_add, pk_div, y_dn, Nat.one_mul, Nat.mul_one, reduceCtorEq, y_pow]
    rw [mkS] at kk
    rw [h.pl, if_pos (nI_lt hj (by omega)), y_ck _ (by omega) (by omega), y_ck _ (by omega) (by omega), nI_clamp (by omega), nI_clamp (by omega), h.r p (by omega), h.r j (by omega), hb1, hb2, hpj, nI_add, bd_s, bd_s, z_or, z_or]
    cases g1 : (nd (O p) (2 ^ p)).testBit j with
    | false =>
      rw [if_neg b_f1]
      exact kk _ (by rw [g1, Bool.false_and, if_neg (by decide), Nat.or_assoc])
    | true =>
      rw [if_pos b_t1]
      cases g2 : (nd (O j) (2 ^ j)).testBit p with
      | false => rw [if_neg b_f1]; exact kk _ (by rw [g1, g2, if_neg (by decide), Nat.or_assoc])
      | true => rw [if_pos b_t1]; exact kk _ (by rw [g1, g2, if_pos (by decide), Nat.or_assoc])
  · rintro rec x rfl
    rw [h.pl, if_neg (nI_nlt (Nat.le_refl _) (by omega))]
    exact ok_some rfl
theorem m_coveredIn (h : NM σ n O) {S : Nat} (hS : S < 256) : f_X10_coveredIn σ (nI S) = some (fi (cvA n O S) n) := by
  have h8 := h.np.h8
  have h1 := h.np.h1
  unfold f_X10_coveredIn
  rw [q_mm, q_0, q_1, h.pl, pk_sub h1, bd_s, show nI (n - 1) = dI n by unfold dI; rw [if_neg (by omega)]]
  refine ok_eq (lo2_dn (fun j x => LD (cvA n O S) n j x) n ?_ ?_ FU n _ (Nat.le_refl _) (fu_lt (by omega)) (ld_top _ _))
  · rintro rec p x hp hI kk
    rw [if_neg (show ¬ nI p < nI 0 from nI_nlt (Nat.zero_le _) (by omega)), y_dn]
    have hbp : (nI S >>> (nI p &&& 31)) &&& nI 1 = nI (S.testBit p).toNat := by
      simp (disch := omega) only [q_0, q_1, q_2, q_3, q_4, q_5, q_6, q_7, q_8, q_9, q_15, q_16, q_31, q_32, q_48, q_57, q_59, q_63, q_64, q_97, q_100, q_122, q_127, q_160, q_255, q_256, q_512, q_1024, q_2816, q_4096, q_16384, q_1048576, q_m1, q_m2, q_m3, q_m4, q_m5, bd_s, calP_s, cal_s, nI_add, pk_mul, pk_sub, z_and, z_or, z_xor, y_nd, y_shl, y_shr, y_tb, y_ck, nI_ltI, nI_eq, nI_clamp, y_m1a, y_m1b, y_m1c, y_m1d, y_m1e, y_b0, y_b1, y_and255, gsI_o, gsI_s, gsI_2, gsR_o, gsR_s, gsR_2, gsL_1, gsL_o, gsL_s, jn0, jn1, jn2, jn3, jn4, jn5, ↓reduceIte, if_true, if_false, ite_self, ne_eq, not_true_eq_false, not_false_eq_true, and_true, true_and, and_false, false_and, Nat.reduceAdd, Nat.reduceMul, Nat.reduceSub, Nat.reducePow, Nat.reduceLT, Nat.reduceEqDiff, Nat.reduceLeDiff, Nat.not_lt_zero, Nat.add_sub_cancel, Nat.add_zero, Nat.zero_add, pk_div, y_dn, Nat.one_mul, Nat.mul_one, reduceCtorEq]
    rw [hbp]
    have hc : cvA n O S p = decide (fsN (fun q => S.testBit p && cvT O S p q) n < n) := by
      rw [cvA]
      cases g : S.testBit p with
      | true => simp only [Bool.true_and]
      | false => simp only [Bool.false_and]; exact (fs_false (fun q => rfl) n).symm
    refine lo2_for (fun j y => y = if decide (fsN (fun q => S.testBit p && cvT O S p q) j < j) = true then nI p else x) n ?_ ?_ FU 0 _ (by omega) (fu_lt (by omega)) rfl
    · rintro rec2 q y hq rfl k2
      have hbq : (nI S >>> (nI q &&& 31)) &&& nI 1 = nI (S.testBit q).toNat := by
        simp (disch := omega) only [q_0, q_1, q_2, q_3, q_4, q_5, q_6, q_7, q_8, q_9, q_15, q_16, q_31, q_32, q_48, q_57, q_59, q_63, q_64, q_97, q_100, q_122, q_127, q_160, q_255, q_256, q_512, q_1024, q_2816, q_4096, q_16384, q_1048576, q_m1, q_m2, q_m3, q_m4, q_m5, bd_s, calP_s, cal_s, nI_add, pk_mul, pk_sub, z_and, z_or, z_xor, y_nd, y_shl, y_shr, y_tb, y_ck, nI_ltI, nI_eq, nI_clamp, y_m1a, y_m1b, y_m1c, y_m1d, y_m1e, y_b0, y_b1, y_and255, gsI_o, gsI_s, gsI_2, gsR_o, gsR_s, gsR_2, gsL_1, gsL_o, gsL_s, jn0, jn1, jn2, jn3, jn4, jn5, ↓reduceIte, if_true, if_false, ite_self, ne_eq, not_true_eq_false, not_false_eq_true, and_true, true_and, and_false, false_and, Nat.reduceAdd, Nat.reduceMul, Nat.reduceSub, Nat.reducePow, Nat.reduceLT, Nat.reduceEqDiff, Nat.reduceLeDiff, Nat.not_lt_zero, Nat.add_sub_cancel, Nat.add_zero, Nat.zero_add, pk_div, y_dn, Nat.one_mul, Nat.mul_one, reduceCtorEq]
      have hl := cvn_lt h.np S p q
      rw [hit_s] at k2
      rw [if_pos (nI_lt hq (by omega)), hbq, nI_add, bd_s, m_stepsBoth h hp, calP_s, m_stepsBoth h hq, calP_s, z_and, y_nd]
      have hx : (if nI p = nI q then nI 0 else if nI (S.testBit p).toNat = nI 1 then if nI (S.testBit q).toNat = nI 1 then nI 1 else nI 0 else nI 0) = nI (!decide (q = p) && S.testBit p && S.testBit q).toNat := by
        by_cases e : p = q
        · rw [if_pos (by rw [e])]; simp [e]
        · have e2 : ¬ q = p := fun w => e w.symm
          rw [if_neg (nI_ne (by omega) (by omega) e), decide_eq_false e2]
          cases S.testBit p <;> cases S.testBit q <;> rfl
      have hcv : (S.testBit p && cvT O S p q) = ((!decide (q = p) && S.testBit p && S.testBit q) && decide (nd (bw O p &&& S) (bw O q) = 0)) := by
        unfold cvT
        generalize decide (q = p) = d
        cases S.testBit p <;> cases d <;> cases S.testBit q <;> rfl
      rw [hcv] at k2
      rw [hx]
      cases g0 : (!decide (q = p) && S.testBit p && S.testBit q) with
      | false =>
        rw [if_pos b_f0]
        exact k2 _ (by rw [g0, Bool.false_and, Bool.or_false])
      | true =>
        rw [if_neg b_t0]
        by_cases g : nd (bw O p &&& S) (bw O q) = 0
        · rw [if_pos (by rw [g])]
          exact k2 _ (by rw [g0, decide_eq_true g, Bool.and_true, Bool.or_true, if_pos rfl])
        · rw [if_neg (nI_ne (Nat.lt_trans hl (by decide)) (by decide) g)]
          exact k2 _ (by rw [g0, decide_eq_false g, Bool.and_false, Bool.or_false])
    · rintro rec2 y rfl
      rw [if_neg (nI_nlt (Nat.le_refl _) (by omega)), ← hc]
      cases g : cvA n O S p with
      | true => exact kk _ (by rw [if_pos rfl]; exact ld_hit hp g)
      | false => exact kk _ (by rw [if_neg (by decide)]; exact ld_miss hI g)
  · rintro rec x hI
    rw [if_pos (show M1 < nI 0 by decide)]
    exact ok_some (ld_fin hI)
/-- frames of the reference: cells, and slots of its own object -/
def Fm (P : Nat → Prop) (S : Nat → Prop) (σ s : St) : Prop := Fr (fun c => c = 100 ∨ P c) σ s ∧ (∀ k, ¬ S k → s.1 100 k = σ.1 100 k) ∧ ∀ k, ¬ S k → s.2 100 k = σ.2 100 k
theorem fm_refl {P S : Nat → Prop} {σ : St} : Fm P S σ σ := ⟨fr_refl, fun _ _ => rfl, fun _ _ => rfl⟩
theorem fm_trans {P S : Nat → Prop} {a b c : St} (h : Fm P S a b) (k : Fm P S b c) : Fm P S a c := ⟨fr_trans h.1 k.1, fun x hx => (k.2.1 x hx).trans (h.2.1 x hx), fun x hx => (k.2.2 x hx).trans (h.2.2 x hx)⟩
theorem fm_mono {P S P' S' : Nat → Prop} {a b : St} (h : Fm P S a b) (k : ∀ c, P c → P' c) (g : ∀ c, S c → S' c) : Fm P' S' a b := ⟨fr_mono h.1 (fun c hc => hc.imp id (k c)), fun x hx => h.2.1 x (fun q => hx (g x q)), fun x hx => h.2.2 x (fun q => hx (g x q))⟩
theorem fm_fr {P S : Nat → Prop} {a b : St} (h : Fr P a b) (h1 : ¬ P 100) : Fm P S a b := ⟨fr_mono h (fun c hc => Or.inr hc), fun x _ => by rw [h.1 100 h1], fun x _ => by rw [h.2 100 h1]⟩
theorem fm_set {P S : Nat → Prop} {σ s : St} {k : Nat} {v : Int32} (h : Fm P S σ s) (hk : S k) : Fm P S σ (setI s 100 k v) := ⟨fr_setI h.1 (Or.inl rfl), fun x hx => by
  have e : ¬ x = k := fun e => hx (e ▸ hk)
  rw [gsI_s, if_neg e]; exact h.2.1 x hx, h.2.2⟩
theorem fm_setI {P S : Nat → Prop} {σ s : St} {a k : Nat} {v : Int32} (h : Fm P S σ s) (ha : P a) (h0 : a ≠ 100) : Fm P S σ (setI s a k v) := ⟨fr_setI h.1 (Or.inr ha), fun x hx => by
  rw [gsI_o (fun e => h0 e.symm)]; exact h.2.1 x hx, h.2.2⟩
theorem fm_setL {P S : Nat → Prop} {σ s : St} {k : Nat} {v : Int64} (h : Fm P S σ s) (hk : S k) : Fm P S σ (setL s 100 k v) := ⟨fr_setL h.1 (Or.inl rfl), h.2.1, fun x hx => by
  have e : ¬ x = k := fun e => hx (e ▸ hk)
  rw [gsL_s, if_neg e]; exact h.2.2 x hx⟩
theorem fm_frr {P S : Nat → Prop} {a b c : St} (h : Fm P S a b) (k : Fr P b c) (h1 : ¬ P 100) : Fm P S a c := fm_trans h (fm_fr k h1)
theorem nm_fm {P S : Nat → Prop} {s : St} (h : NM σ n O) (f : Fm P S σ s) (h0 : ¬ S 0) (h1 : ¬ P 101) : NM s n O := by
  refine ⟨h.np, by rw [f.2.1 0 h0]; exact h.pl, fun p hp => ?_⟩
  rw [f.1.1 101 (by rintro (e | e); · cases e
                    · exact h1 e)]
  exact h.r p hp
theorem m_away (h : NM σ n O) {v : Int32} (hv : v = M1 ∨ ∃ i, i < 2 ^ 31 ∧ v = nI i) : Ok (f_X10_away σ v) (fun q => AW n O v q.1 ∧ Fm (fun c => c = 118) (fun k => k = 35) σ q.2) := by
  have h8 := h.np.h8
  have h2 := Nat.two_pow_pos n
  have ha := all_lt h.np
  have hall : nI 1 <<< (nI n &&& 31) - nI 1 = nI (2 ^ n - 1) := by
    simp (disch := omega) only [q_0, q_1, q_2, q_3, q_4, q_5, q_6, q_7, q_8, q_9, q_15, q_16, q_31, q_32, q_48, q_57, q_59, q_63, q_64, q_97, q_100, q_122, q_127, q_160, q_255, q_256, q_512, q_1024, q_2816, q_4096, q_16384, q_1048576, q_m1, q_m2, q_m3, q_m4, q_m5, bd_s, calP_s, cal_s, nI_add, pk_mul, pk_sub, z_and, z_or, z_xor, y_nd, y_shl, y_shr, y_tb, y_ck, nI_ltI, nI_eq, nI_clamp, y_m1a, y_m1b, y_m1c, y_m1d, y_m1e, y_b0, y_b1, y_and255, gsI_o, gsI_s, gsI_2, gsR_o, gsR_s, gsR_2, gsL_1, gsL_o, gsL_s, jn0, jn1, jn2, jn3, jn4, jn5, ↓reduceIte, if_true, if_false, ite_self, ne_eq, not_true_eq_false, not_false_eq_true, and_true, true_and, and_false, false_and, Nat.reduceAdd, Nat.reduceMul, Nat.reduceSub, Nat.reducePow, Nat.reduceLT, Nat.reduceEqDiff, Nat.reduceLeDiff, Nat.not_lt_zero, Nat.add_sub_cancel, Nat.add_zero, Nat.zero_add, pk_div, y_dn, Nat.one_mul, Nat.mul_one, reduceCtorEq, y_pow]
  have hneg : ¬ v < M1 := by
    rcases hv with rfl | ⟨i, hi, rfl⟩
    · decide
    · exact nlt_m1 hi
  unfold f_X10_away
  rw [q_mm, q_0, q_1, if_neg hneg, h.pl, hall, bd_s, bd_s]
  have hF : ∀ s, Fm (fun c => c = 118) (fun k => k = 35) σ s → NM s n O := fun s f => nm_fm h f (by omega) (by omega)
  have f0 : Fm (fun c => c = 118) (fun k => k = 35) σ (setI σ 100 35 (nI 0)) := fm_set fm_refl rfl
  rw [m_coveredIn (hF _ f0) ha, calP_s]
  refine lo3_ok (fun s x y => ∃ j, (∀ i, i < j → awP n O i < n) ∧ j ≤ 8 ∧ x = nI (awS n O j) ∧ y = fi (cvA n O (awS n O j)) n ∧ s.1 100 35 = nI j ∧ (∀ i, i < j → s.1 118 i = nI (awP n O i)) ∧ Fm (fun c => c = 118) (fun k => k = 35) σ s) (fun s _ _ => 9 - (s.1 100 35).toNatClampNeg) ?_ FU _ _ _ ⟨0, fun i hi => absurd hi (Nat.not_lt_zero _), by omega, rfl, rfl, by rw [gsI_s, if_pos rfl], fun i hi => absurd hi (Nat.not_lt_zero _), f0⟩ (fu_lt (by omega))
  rintro rec s x y ⟨j, h1, hj8, rfl, rfl, hj, ht, hf⟩ kk
  have ea : fi (cvA n O (awS n O j)) n = if awP n O j < n then nI (awP n O j) else M1 := rfl
  rw [ea]
  by_cases g : awP n O j < n
  · have hj7 := aw_8 h.np h1 g
    have hpw : nI 1 <<< (nI (awP n O j) &&& 31) = nI (2 ^ awP n O j) := by
      simp (disch := omega) only [q_0, q_1, q_2, q_3, q_4, q_5, q_6, q_7, q_8, q_9, q_15, q_16, q_31, q_32, q_48, q_57, q_59, q_63, q_64, q_97, q_100, q_122, q_127, q_160, q_255, q_256, q_512, q_1024, q_2816, q_4096, q_16384, q_1048576, q_m1, q_m2, q_m3, q_m4, q_m5, bd_s, calP_s, cal_s, nI_add, pk_mul, pk_sub, z_and, z_or, z_xor, y_nd, y_shl, y_shr, y_tb, y_ck, nI_ltI, nI_eq, nI_clamp, y_m1a, y_m1b, y_m1c, y_m1d, y_m1e, y_b0, y_b1, y_and255, gsI_o, gsI_s, gsI_2, gsR_o, gsR_s, gsR_2, gsL_1, gsL_o, gsL_s, jn0, jn1, jn2, jn3, jn4, jn5, ↓reduceIte, if_true, if_false, ite_self, ne_eq, not_true_eq_false, not_false_eq_true, and_true, true_and, and_false, false_and, Nat.reduceAdd, Nat.reduceMul, Nat.reduceSub, Nat.reducePow, Nat.reduceLT, Nat.reduceEqDiff, Nat.reduceLeDiff, Nat.not_lt_zero, Nat.add_sub_cancel, Nat.add_zero, Nat.zero_add, pk_div, y_dn, Nat.one_mul, Nat.mul_one, reduceCtorEq, y_pow]
    rw [if_pos g, if_neg (nI_mm (by omega)), hj, y_ck _ (by omega) (by omega), nI_clamp (by omega), bd_s, gsI_o (by decide), hj, nI_add, hpw, y_nd, bd_s, bd_s]
    have f1 : Fm (fun c => c = 118) (fun k => k = 35) σ (setI (setI s 118 j (nI (awP n O j))) 100 35 (nI (j + 1))) := fm_set (fm_setI hf rfl (by decide)) rfl
    have hl2 := aw_lt h.np (j + 1)
    rw [show nd (awS n O j) (2 ^ awP n O j) = awS n O (j + 1) from rfl]
    rw [m_coveredIn (hF _ f1) hl2, calP_s]
    refine kk _ _ _ ⟨j + 1, fs_ext' h1 g, by omega, rfl, rfl, by rw [gsI_s, if_pos rfl], fun i hi => ?_, f1⟩ ?_
    · rw [gsI_o (by decide), gsI_s]
      by_cases e : i = j
      · rw [if_pos e, e]
      · rw [if_neg e]; exact ht i (by omega)
    · show 9 - ((setI (setI s 118 j (nI (awP n O j))) 100 35 (nI (j + 1))).1 100 35).toNatClampNeg < 9 - (s.1 100 35).toNatClampNeg
      rw [gsI_s, if_pos rfl, hj, nI_clamp (by omega), nI_clamp (by omega)]
      omega
  · rw [if_neg g, if_pos rfl, hj]
    rcases hv with rfl | ⟨i, hi, rfl⟩
    · rw [if_pos rfl, e_bits (Nat.lt_trans (aw_lt h.np j) (by decide)), calP_s]
      exact ok_some ⟨⟨j, h1, g, Or.inl ⟨rfl, rfl⟩⟩, hf⟩
    · rw [if_neg (nI_mm hi)]
      by_cases q : i < j
      · rw [if_pos (nI_lt q (by omega)), y_ck _ (by omega) (by omega), nI_clamp hi, ht i q]
        exact ok_some ⟨⟨j, h1, g, Or.inr ⟨i, hi, rfl, by rw [if_pos q]⟩⟩, hf⟩
      · rw [if_neg (nI_nlt (by omega) hi)]
        exact ok_some ⟨⟨j, h1, g, Or.inr ⟨i, hi, rfl, by rw [if_neg q]⟩⟩, hf⟩
end AWAYM
