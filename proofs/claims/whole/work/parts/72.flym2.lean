section FLYN
variable {σ : St} {n : Nat} {O : Nat → Nat} {sn : Bool}
theorem m_greater {s : St} {a b : Nat} (ha : a < 2 ^ 31) (hb : b < 2 ^ 31) : f_X10_greater s (nI a) (nI b) = some (nI (max a b)) := by
  unfold f_X10_greater
  by_cases q : b < a
  · rw [if_pos (nI_lt q ha)]; congr 2; omega
  · rw [if_neg (nI_nlt (by omega) hb)]; congr 2; omega
theorem m_lesser {s : St} {a b : Nat} (ha : a < 2 ^ 31) (hb : b < 2 ^ 31) : f_X10_lesser s (nI a) (nI b) = some (nI (min a b)) := by
  unfold f_X10_lesser
  by_cases q : a < b
  · rw [if_pos (nI_lt q hb)]; congr 2; omega
  · rw [if_neg (nI_nlt (by omega) ha)]; congr 2; omega
def RTm (s : St) (n : Nat) (cs : Nat → Nat → Nat) : Prop := (∀ S, S < 2 ^ n → s.1 116 S = nI (TT n cs S)) ∧ ∀ S p, S < 2 ^ n → p < n → S.testBit p = false → s.1 117 (8 * S + p) = nI (cs S p)
theorem m_findRest (h : NM σ n O) : Ok (f_X10_findRest σ (nI sn.toNat)) (fun q => RTm q.2 n (cst n O sn) ∧ Fr (fun c => c = 115 ∨ c = 116 ∨ c = 117) σ q.2) := by
  have h8 := h.np.h8
  have h1 := h.np.h1
  have hc := cst_le n O sn
  have ht8 := TT_le n (cst n O sn)
  have ha := all_lt h.np
  have h2 := Nat.two_pow_pos n
  have h256 := p256 h8
  have hall : nI 1 <<< (nI n &&& 31) - nI 1 = nI (2 ^ n - 1) := by
    simp (disch := omega) only [q_0, q_1, q_2, q_3, q_4, q_5, q_6, q_7, q_8, q_9, q_15, q_16, q_31, q_32, q_48, q_57, q_59, q_63, q_64, q_97, q_100, q_122, q_127, q_160, q_255, q_256, q_512, q_1024, q_2816, q_4096, q_16384, q_1048576, q_m1, q_m2, q_m3, q_m4, q_m5, bd_s, calP_s, cal_s, nI_add, pk_mul, pk_sub, z_and, z_or, z_xor, y_nd, y_shl, y_shr, y_tb, y_ck, nI_ltI, nI_eq, nI_clamp, y_m1a, y_m1b, y_m1c, y_m1d, y_m1e, y_b0, y_b1, y_and255, gsI_o, gsI_s, gsI_2, gsR_o, gsR_s, gsR_2, gsL_1, gsL_o, gsL_s, jn0, jn1, jn2, jn3, jn4, jn5, ↓reduceIte, if_true, if_false, ite_self, ne_eq, not_true_eq_false, not_false_eq_true, and_true, true_and, and_false, false_and, Nat.reduceAdd, Nat.reduceMul, Nat.reduceSub, Nat.reducePow, Nat.reduceLT, Nat.reduceEqDiff, Nat.reduceLeDiff, Nat.not_lt_zero, Nat.add_sub_cancel, Nat.add_zero, Nat.zero_add, pk_div, y_dn, Nat.one_mul, Nat.mul_one, reduceCtorEq, y_pow]
  have hd : nI (2 ^ n - 1) = dI (2 ^ n) := by unfold dI; rw [if_neg (by omega)]
  unfold f_X10_findRest
  refine ok_cal (m_joinBoth h) ?_
  rintro u s ⟨hB, f0⟩
  have hN : NM s n O := nm_fr h f0 (by decide) (by decide)
  rw [q_mm, q_0, q_1, q_8, hN.pl, hall, bd_s, y_ck _ (by omega) (by omega), bd_s, nI_clamp (by omega), q_100]
  refine lo2_dn (I := fun k t => (∀ S, k ≤ S → S < 2 ^ n → t.1 116 S = nI (TT n (cst n O sn) S)) ∧ (∀ S p, k ≤ S → S < 2 ^ n → p < n → S.testBit p = false → t.1 117 (8 * S + p) = nI (cst n O sn S p)) ∧ (∀ p, p < 8 → t.1 115 p = nI (bo O p)) ∧ Fr (fun c => c = 115 ∨ c = 116 ∨ c = 117) σ t) (m := 2 ^ n) ?_ ?_ FU (2 ^ n) _ (Nat.le_refl _) (fu_lt (by omega)) ⟨fun S a b => by omega, fun S p a b => by omega, fun p hp => by rw [gsI_o (by decide)]; exact hB p hp, fr_setI (fr_mono f0 (fun c hc => Or.inl hc)) (by omega)⟩ |> (fun w => by rw [← hd] at w; exact w)
  · rintro rec S t hS ⟨i1, i2, i3, i4⟩ kk
    have hin : (if nI S = nI (2 ^ n - 1) then nI 0 else nI 100) = nI (if S = 2 ^ n - 1 then 0 else 100) := by
      by_cases e : S = 2 ^ n - 1
      · rw [if_pos (by rw [e]), if_pos e]
      · rw [if_neg (nI_ne (by omega) (by omega) e), if_neg e]
    rw [if_neg (show ¬ nI S < nI 0 from nI_nlt (Nat.zero_le _) (by omega)), bd_s, y_dn, hin, y_ck _ (by omega) (by omega), bd_s, nI_clamp (by omega)]
    refine lo2_for (fun p t => t.1 116 S = nI (mnF (if S = 2 ^ n - 1 then 0 else 100) S (fun p => max (cst n O sn S p) (TT n (cst n O sn) (S ||| 2 ^ p))) p) ∧ (∀ q, q < p → S.testBit q = false → t.1 117 (8 * S + q) = nI (cst n O sn S q)) ∧ (∀ X, S + 1 ≤ X → X < 2 ^ n → t.1 116 X = nI (TT n (cst n O sn) X)) ∧ (∀ X p, S + 1 ≤ X → X < 2 ^ n → p < n → X.testBit p = false → t.1 117 (8 * X + p) = nI (cst n O sn X p)) ∧ (∀ p, p < 8 → t.1 115 p = nI (bo O p)) ∧ Fr (fun c => c = 115 ∨ c = 116 ∨ c = 117) σ t) n ?_ ?_ FU 0 _ (by omega) (fu_lt (by omega)) ⟨by rw [gsI_s, if_pos rfl]; rfl, fun q hq => absurd hq (Nat.not_lt_zero _), fun X a b => by rw [gsI_s, if_neg (by omega)]; exact i1 X a b, fun X p a b => by rw [gsI_o (by decide)]; exact i2 X p a b, fun p hp => by rw [gsI_o (by decide)]; exact i3 p hp, fr_setI i4 (by omega)⟩
    · rintro rec2 p t hp ⟨j1, j2, j3, j4, j5, j6⟩ k2
      have hNt : NM t n O := nm_fr h j6 (by omega) (by omega)
      have hml : mnF (if S = 2 ^ n - 1 then 0 else 100) S (fun p => max (cst n O sn S p) (TT n (cst n O sn) (S ||| 2 ^ p))) p ≤ 100 := by
        exact Nat.le_trans (mn_leb _ _ _ _) ite_le0
      rw [mnF] at k2
      rw [hNt.pl, if_pos (nI_lt hp (by omega)), y_bt (by omega) (by omega), nI_add]
      cases hb : S.testBit p with
      | true =>
        rw [if_neg b_t0]
        refine k2 _ ⟨by rw [hb, if_pos rfl]; exact j1, fun q hq hf => ?_, j3, j4, j5, j6⟩
        rcases Nat.lt_succ_iff_lt_or_eq.mp hq with e | rfl
        · exact j2 q e hf
        · rw [hb] at hf; cases hf
      | false =>
        have hq2 : S ||| 2 ^ p < 2 ^ n := or_lt hS (Nat.pow_lt_pow_right (by decide) hp)
        have hgt := or_gt hb
        have hcp := hc S p
        have htp := ht8 (S ||| 2 ^ p)
        have hmx : max (cst n O sn S p) (TT n (cst n O sn) (S ||| 2 ^ p)) ≤ 8 := Nat.max_le.mpr ⟨hcp, htp⟩
        rw [if_pos b_f0, m_costOf hNt j5 hS hp, calP_s, pk_mul, nI_add, y_ck _ (by omega) (by omega), nI_clamp (by omega), bd_s, y_ck _ (by omega) (by omega), y_ck _ (by omega) (by omega), y_pw (by omega), z_or, y_ck _ (by omega) (by omega), nI_clamp (show S ||| 2 ^ p < 2 ^ 31 by omega), gsI_s, if_pos rfl, gsI_o (by decide), j3 _ hgt hq2, j1, m_greater (by omega) (by omega), calP_s, m_lesser (by omega) (by omega), calP_s, y_ck _ (by omega) (by omega), bd_s]
        refine k2 _ ⟨?_, ?_, ?_, ?_, ?_, fr_setI (fr_setI j6 (by omega)) (by omega)⟩
        · rw [gsI_s, if_pos rfl, hb, if_neg (show ¬ false = true by decide), Nat.min_comm]
        · intro q hq hf
          rw [gsI_o (by decide), gsI_s]
          by_cases e : q = p
          · rw [if_pos (by rw [e]), e]
          · rw [if_neg (by omega)]; exact j2 q (by omega) hf
        · intro X a b
          rw [gsI_s, if_neg (by omega), gsI_o (by decide)]; exact j3 X a b
        · intro X q a b cq d
          rw [gsI_o (by decide), gsI_s, if_neg (by omega)]; exact j4 X q a b cq d
        · intro q hq
          rw [gsI_o (by decide), gsI_o (by decide)]; exact j5 q hq
    · rintro rec2 t ⟨j1, j2, j3, j4, j5, j6⟩
      have hNt : NM t n O := nm_fr h j6 (by omega) (by omega)
      rw [hNt.pl, if_neg (nI_nlt (Nat.le_refl _) (by omega))]
      refine kk _ ⟨fun X a b => ?_, fun X p a b cq d => ?_, j5, j6⟩
      · by_cases e : X = S
        · rw [e, j1, ← TT_100 h8 hc hS]
        · exact j3 X (by omega) b
      · by_cases e : X = S
        · subst e; exact j2 p cq d
        · exact j4 X p (by omega) b cq d
  · rintro rec t ⟨i1, i2, i3, i4⟩
    rw [if_pos (show M1 < nI 0 by decide)]
    exact ok_some ⟨⟨fun S hS => i1 S (Nat.zero_le _) hS, fun S p hS => i2 S p (Nat.zero_le _) hS⟩, i4⟩
def FA (n : Nat) (cs : Nat → Nat → Nat) (v x : Int32) : Prop := (v = M1 ∧ x = nI (TT n cs 0 + 1)) ∨ ∃ i, i < 2 ^ 31 ∧ v = nI i ∧ x = if i < n then nI (oP n cs i) else M1
theorem fa_fun {cs : Nat → Nat → Nat} {v x y : Int32} (h : FA n cs v x) (g : FA n cs v y) : x = y := by
  rcases h with ⟨e1, e2⟩ | ⟨i, hi, e1, e2⟩ <;> rcases g with ⟨d1, d2⟩ | ⟨j, hj, d1, d2⟩
  · rw [e2, d2]
  · exact absurd (d1.symm.trans e1) (nI_m1 hj)
  · exact absurd (e1.symm.trans d1) (nI_m1 hi)
  · have : i = j := (nI_eq hi hj).mp (e1.symm.trans d1)
    subst this
    rw [e2, d2]
theorem m_flying (h : NM σ n O) {v : Int32} (hv : v = M1 ∨ ∃ i, i < 2 ^ 31 ∧ v = nI i) : Ok (f_X10_flying σ (nI sn.toNat) v) (fun q => FA n (cst n O sn) v q.1 ∧ Fr (fun c => c = 115 ∨ c = 116 ∨ c = 117) σ q.2) := by
  have h8 := h.np.h8
  have h1 := h.np.h1
  have hc := cst_le n O sn
  have ht8 := TT_le n (cst n O sn)
  have h256 := p256 h8
  have ok := o_ok h8 hc
  have hneg : ¬ v < M1 := by
    rcases hv with rfl | ⟨i, hi, rfl⟩
    · decide
    · exact nlt_m1 hi
  unfold f_X10_flying
  rw [q_mm, if_neg hneg]
  refine ok_cal (m_findRest h) ?_
  rintro u s ⟨⟨hT, hC⟩, f0⟩
  have hN : NM s n O := nm_fr h f0 (by omega) (by omega)
  have hT0 := hT 0 (Nat.two_pow_pos n)
  rw [q_0, q_1, q_8, jn0]
  rcases hv with rfl | ⟨i, hi, rfl⟩
  · rw [if_pos rfl, y_ck _ (by omega) (by omega), nI_clamp (by omega), hT0, nI_add]
    exact ok_some ⟨Or.inl ⟨rfl, rfl⟩, f0⟩
  · rw [if_neg (nI_mm hi), hN.pl]
    by_cases g : i < n
    · rw [if_pos (nI_lt g (by omega)), pk_sub h1, show nI (n - 1) = dI n by unfold dI; rw [if_neg (by omega)]]
      refine lo3_for (fun k x y => x = nI (oS n (cst n O sn) k) ∧ (k = 0 ∨ y = nI (oP n (cst n O sn) (k - 1)))) (i + 1) ?_ ?_ FU 0 _ _ (by omega) (fu_lt (by omega)) ⟨rfl, Or.inl rfl⟩
      · rintro rec k x y hk ⟨rfl, hy⟩ kk
        obtain ⟨o1, o2, o3, o4⟩ := ok k (by omega)
        obtain ⟨o5, o6⟩ := o4 (by omega)
        rw [if_neg (nI_nlt (by omega) hi), bd_s, nI_add]
        refine lo2_dn (fun q z => LD (orB n (cst n O sn) (oS n (cst n O sn) k)) n q z) n ?_ ?_ FU n _ (Nat.le_refl _) (fu_lt (by omega)) (ld_top _ _)
        · rintro rec2 q z hq hI k2
          rw [if_neg (show ¬ nI q < nI 0 from nI_nlt (Nat.zero_le _) (by omega)), jn1, y_bt (by omega) (by omega), y_dn]
          dsimp only
          cases hb : (oS n (cst n O sn) k).testBit q with
          | true =>
            rw [if_neg b_t0, if_pos rfl]
            exact k2 _ (ld_miss hI (by rw [orB, hb]; rfl))
          | false =>
            have hq2 : oS n (cst n O sn) k ||| 2 ^ q < 2 ^ n := or_lt o2 (Nat.pow_lt_pow_right (by decide) hq)
            have a1 := hc (oS n (cst n O sn) k) q
            have a2 := ht8 (oS n (cst n O sn) k ||| 2 ^ q)
            have a3 := ht8 0
            rw [if_pos b_f0, pk_mul, nI_add, y_ck _ (by omega) (by omega), y_ck _ (by omega) (by omega), y_pw (by omega), z_or, y_ck _ (by omega) (by omega), y_ck _ (by omega) (by omega), nI_clamp (show 0 < 2 ^ 31 by decide), nI_clamp (show 8 * oS n (cst n O sn) k + q < 2 ^ 31 by omega), nI_clamp (show oS n (cst n O sn) k ||| 2 ^ q < 2 ^ 31 by omega), hT0, hT _ hq2, hC _ q o2 hq hb]
            by_cases g1 : cst n O sn (oS n (cst n O sn) k) q ≤ TT n (cst n O sn) 0
            · rw [if_neg (nI_nlt g1 (by omega))]
              by_cases g2 : TT n (cst n O sn) (oS n (cst n O sn) k ||| 2 ^ q) ≤ TT n (cst n O sn) 0
              · rw [if_neg (nI_nlt g2 (by omega)), if_neg b_10]
                exact k2 _ (ld_hit hq (by rw [orB, hb, decide_eq_true (Nat.max_le.mpr ⟨g1, g2⟩)]; rfl))
              · rw [if_pos (nI_lt (by omega) (by omega)), if_pos rfl]
                exact k2 _ (ld_miss hI (by rw [orB, decide_eq_false (fun w => g2 (Nat.le_trans (Nat.le_max_right _ _) w)), Bool.and_false]))
            · rw [if_pos (nI_lt (by omega) (by omega)), if_pos rfl]
              exact k2 _ (ld_miss hI (by rw [orB, decide_eq_false (fun w => g1 (Nat.le_trans (Nat.le_max_left _ _) w)), Bool.and_false]))
        · rintro rec2 z hI
          have ez : z = nI (oP n (cst n O sn) k) := (ld_fin hI).trans (if_pos o5)
          rw [if_pos (show M1 < nI 0 by decide), ez, y_pw (by omega), z_or, bd_s]
          exact kk _ _ ⟨rfl, Or.inr rfl⟩
      · rintro rec x y ⟨rfl, hy⟩
        rw [if_pos (nI_lt (Nat.lt_succ_self i) (by omega))]
        rcases hy with hy | rfl
        · omega
        · exact ok_some ⟨Or.inr ⟨i, hi, rfl, by rw [if_pos g]; rfl⟩, f0⟩
    · rw [if_neg (nI_nlt (by omega) hi), if_neg (nI_mm hi)]
      exact ok_some ⟨Or.inr ⟨i, hi, rfl, by rw [if_neg g]⟩, f0⟩
theorem e_flying {c : Nat} (h : NC σ n O c) (hs : σ.1 (18 + 3 * sn.toNat) 1 = nI sn.toNat) (hv4 : σ.1 (18 + 3 * sn.toNat) 4 = nI c → OT σ n O sn.toNat sn) {v : Int32} (hv : v = M1 ∨ ∃ i, i < 2 ^ 31 ∧ v = nI i) : Ok (f_X9_flying σ (nI sn.toNat) v) (fun q => FA n (cst n O sn) v q.1 ∧ OT q.2 n O sn.toNat sn ∧ q.2.1 (18 + 3 * sn.toNat) 4 = nI c ∧ q.2.1 (18 + 3 * sn.toNat) 1 = nI sn.toNat ∧ Fr (fun x => 18 + 3 * sn.toNat ≤ x ∧ x ≤ 20 + 3 * sn.toNat) σ q.2) := by
  have h8 := h.np.h8
  have hj : sn.toNat < 2 := by cases sn <;> decide
  have hneg : ¬ v < M1 := by
    rcases hv with rfl | ⟨i, hi, rfl⟩
    · decide
    · exact nlt_m1 hi
  unfold f_X9_flying
  rw [q_mm, if_neg hneg, show (if nI sn.toNat = 0 then 0 else 1) = sn.toNat by cases sn <;> rfl, bd_s, ckN_s _ hj]
  have sol := e_osolve h hj hs hv4
  rcases hv with rfl | ⟨i, hi, rfl⟩
  · rw [if_pos rfl]
    unfold f_X4_hunters
    obtain ⟨⟨u, s⟩, e, k1, k2, k3, k4⟩ := sol
    rw [e, cal_s, q_0, q_1, y_ck _ (by omega) (by omega), nI_clamp (by omega), k1.1, nI_add, cal_s]
    exact ok_some ⟨Or.inl ⟨rfl, rfl⟩, k1, k2, k3, k4⟩
  · rw [if_neg (nI_mm hi)]
    unfold f_X4_placeAt
    obtain ⟨⟨u, s⟩, e, k1, k2, k3, k4⟩ := sol
    have hN : NC s n O c := nc_fr h k4 (fun x hx => by have := hx; omega)
    rw [e, cal_s, e_known hN.z hi, calP_s, q_0, q_mm]
    by_cases g : i < n
    · rw [decide_eq_true g, if_neg b_t0, y_ck _ (by omega) (by omega), nI_clamp hi, k1.2 i g, cal_s]
      exact ok_some ⟨Or.inr ⟨i, hi, rfl, by rw [if_pos g]⟩, k1, k2, k3, k4⟩
    · rw [decide_eq_false g, if_pos b_f0, cal_s]
      exact ok_some ⟨Or.inr ⟨i, hi, rfl, by rw [if_neg g]⟩, k1, k2, k3, k4⟩
end FLYN
