/-! flee -/
/-- the least of the places in F below n that have the most rounds -/
def AM (F : Nat) (v : Nat → Nat) (n a : Nat) : Prop := a < n ∧ F.testBit a = true ∧ (∀ q, q < n → F.testBit q = true → v q ≤ v a) ∧ ∀ q, q < a → F.testBit q = true → v q < v a
theorem am_fun {F n a b : Nat} {v : Nat → Nat} (h : AM F v n a) (k : AM F v n b) : a = b := by
  obtain ⟨h1, h2, h3, h4⟩ := h
  obtain ⟨k1, k2, k3, k4⟩ := k
  have x := h3 b k1 k2
  have y := k3 a h1 h2
  rcases Nat.lt_trichotomy a b with q | q | q
  · have := k4 a q h2; omega
  · exact q
  · have := h4 b q k2; omega
section FLEE
variable {σ : St} {n c k s i sp : Nat} {O : Nat → Nat} {lv : Nat → Nat → Nat}
theorem e_bestFlight (hx : CX σ n O c i sp) (h : HL n O (i / 3) sp lv) (hc : CT σ n O i sp) {r p : Nat} (hr : Vr n (i / 3 + 1) r) (hp : p < n) (hpr : p ∉ dgs (i / 3 + 1) r) : Ok (f_X0_bestFlight σ i (nI r) (nI p)) (fun x => ∃ a, x = nI a ∧ AM (flB O (plc (dgs (i / 3 + 1) r)) sp (2 ^ p)) (lv r) n a) := by
  have h8 := hx.nc.np.h8
  have h256 := p256 h8
  have hF := flB_lt hx.nc.np (plc (dgs (i / 3 + 1) r)) sp (S := 2 ^ p) (Nat.pow_lt_pow_right (by decide) hp)
  have hself : (flB O (plc (dgs (i / 3 + 1) r)) sp (2 ^ p)).testBit p = true := by
    rw [flB_tb hx.nc.np]
    exact pa_self hx.nc.np hp (by rw [plc_tb]; simp [hpr]) sp
  unfold f_X0_bestFlight f_X3_places
  rw [e_flights hx hr.1 hp, calP_s, q_0, q_mm]
  generalize flB O (plc (dgs (i / 3 + 1) r)) sp (2 ^ p) = F at *
  refine lo3_for (fun j x y => (y = M1 ∧ ∀ q, q < j → F.testBit q = false) ∨ ∃ a, a < j ∧ F.testBit a = true ∧ x = nI a ∧ y = nI (lv r a) ∧ (∀ q, q < j → F.testBit q = true → lv r q ≤ lv r a) ∧ ∀ q, q < a → F.testBit q = true → lv r q < lv r a) n ?_ ?_ FU 0 _ _ (by omega) (fu_lt (by omega)) (Or.inl ⟨rfl, fun q hq => by omega⟩)
  · rintro rec j x y hj hI kk
    rw [hx.nc.pl, calP_s, if_pos (nI_lt hj (by omega)), e_has (by omega) (by omega), calP_s, jn1, q_1, nI_add]
    cases hb : F.testBit j with
    | false =>
      rw [if_pos (show nI false.toNat = nI 0 from rfl)]
      dsimp only
      have hn : ¬ y < M1 := by
        rcases hI with ⟨rfl, -⟩ | ⟨a, a1, a2, -, rfl, -⟩
        · decide
        · exact nlt_m1 (by have := hl_le h hr (show a < n by omega); omega)
      rw [if_neg hn]
      refine kk _ _ ?_
      rcases hI with ⟨rfl, g⟩ | ⟨a, a1, a2, a3, a4, a5, a6⟩
      · refine Or.inl ⟨rfl, fun q hq => ?_⟩
        rcases Nat.lt_succ_iff_lt_or_eq.mp hq with e | rfl
        · exact g q e
        · exact hb
      · refine Or.inr ⟨a, by omega, a2, a3, a4, fun q hq hFq => ?_, a6⟩
        rcases Nat.lt_succ_iff_lt_or_eq.mp hq with e | rfl
        · exact a5 q e hFq
        · rw [hb] at hFq; cases hFq
    | true =>
      have hlj := hl_le h hr hj
      rw [if_neg (show ¬ nI true.toNat = nI 0 by decide), e_leftAt hx h hc hr hj, calP_s]
      dsimp only
      rcases hI with ⟨rfl, g⟩ | ⟨a, a1, a2, rfl, rfl, a5, a6⟩
      · rw [if_pos (show M1 < nI (lv r j) from m1_lt (by omega))]
        refine kk _ _ (Or.inr ⟨j, by omega, hb, rfl, rfl, fun q hq hFq => ?_, fun q hq hFq => ?_⟩)
        · rcases Nat.lt_succ_iff_lt_or_eq.mp hq with e | rfl
          · rw [g q e] at hFq; cases hFq
          · exact Nat.le_refl _
        · rw [g q hq] at hFq; cases hFq
      · have hla := hl_le h hr (show a < n by omega)
        by_cases q : lv r a < lv r j
        · rw [if_pos (nI_lt q (by omega))]
          refine kk _ _ (Or.inr ⟨j, by omega, hb, rfl, rfl, fun q' hq hFq => ?_, fun q' hq hFq => ?_⟩)
          · rcases Nat.lt_succ_iff_lt_or_eq.mp hq with e | rfl
            · have := a5 q' e hFq; omega
            · exact Nat.le_refl _
          · have := a5 q' hq hFq; omega
        · rw [if_neg (nI_nlt (by omega) (by omega))]
          refine kk _ _ (Or.inr ⟨a, by omega, a2, rfl, rfl, fun q' hq hFq => ?_, a6⟩)
          rcases Nat.lt_succ_iff_lt_or_eq.mp hq with e | rfl
          · exact a5 q' e hFq
          · omega
  · rintro rec x y hI
    rw [hx.nc.pl, calP_s, if_neg (nI_nlt (Nat.le_refl _) (by omega))]
    rcases hI with ⟨-, g⟩ | ⟨a, a1, a2, rfl, -, a5, a6⟩
    · rw [g p hp] at hself; cases hself
    · exact ok_some ⟨a, rfl, a1, a2, a5, a6⟩
theorem m_fleeLoop (hN : NM σ n O) (hk : k < 3) (h1 : 1 ≤ s) (h3 : s ≤ 3) (hl : HL n O k s lv) (hm : MT σ n O k s) {h F p : Nat} (hh : Sg n (k + 1) h) (hF : F < 256) (hp : p < n) (hself : F.testBit p = true) : Ok (lo2 FU (fun rec6 (x4 : Int32) (x5 : Int32) =>
            (if x5 < 0 then
              some (x4, σ)
               else
              (if ((nI F >>> (x5 &&& 31)) &&& (1 : Int32)) = (1 : Int32) then
                calP (f_X10_at σ (nI (k + 1)) (nI s) (nI h) x5) fun r8 =>
                  ck r8 36864 <|
                    bd (σ.1 105 r8.toNatClampNeg) fun x9 =>
                      jn1 (fun jk11 =>
                        (if x4 = (-1 : Int32) then
                          jk11 (-2 : Int32)
                           else
                          calP (f_X10_at σ (nI (k + 1)) (nI s) (nI h) x4) fun r12 =>
                            ck r12 36864 <|
                              jk11 (σ.1 105 r12.toNatClampNeg)))
                        (fun (x10 : Int32) => 
                        (if x9 = (-1 : Int32) then
                            rec6 x5 (x5 + (-1))
                             else
                            (if x10 = (-1 : Int32) then
                              rec6 x4 (x5 + (-1))
                               else
                              (if x9 < x10 then
                                rec6 x4 (x5 + (-1))
                                 else
                                rec6 x5 (x5 + (-1))))))
                 else
                rec6 x4 (x5 + (-1))))) (-1 : Int32) (nI (n - 1))) (fun x => x.2 = σ ∧ ∃ a, x.1 = nI a ∧ AM F (lv h) n a) := by
  have h8 := hN.np.h8
  have hn1 := hN.np.h1
  have h512 := p8_le k hk
  have hh1 := hh.1.1
  rw [q_mm, show nI (n - 1) = dI n by rw [show n = (n - 1) + 1 by omega]; rfl]
  refine lo2_dn (fun j x => (x = M1 ∧ ∀ q, j ≤ q → q < n → F.testBit q = false) ∨ ∃ a, j ≤ a ∧ a < n ∧ F.testBit a = true ∧ x = nI a ∧ (∀ q, j ≤ q → q < n → F.testBit q = true → lv h q ≤ lv h a) ∧ ∀ q, j ≤ q → q < a → F.testBit q = true → lv h q < lv h a) n ?_ ?_ FU n _ (Nat.le_refl _) (fu_lt (by omega)) (Or.inl ⟨rfl, fun q _ _ => by omega⟩)
  · rintro rec j x hj hI kk
    have hbit : (nI F >>> (nI j &&& 31)) &&& (1 : Int32) = nI (F.testBit j).toNat := by
      simp (disch := omega) only [q_0, q_1, q_2, q_3, q_4, q_5, q_6, q_7, q_8, q_9, q_15, q_16, q_31, q_32, q_48, q_57, q_59, q_63, q_64, q_97, q_100, q_122, q_127, q_160, q_255, q_256, q_512, q_1024, q_2816, q_4096, q_16384, q_1048576, q_m1, q_m2, q_m3, q_m4, q_m5, bd_s, calP_s, cal_s, nI_add, pk_mul, pk_sub, z_and, z_or, z_xor, y_nd, y_shl, y_shr, y_tb, y_ck, nI_ltI, nI_eq, nI_clamp, y_m1a, y_m1b, y_m1c, y_m1d, y_m1e, y_b0, y_b1, y_and255, gsI_o, gsI_s, gsI_2, gsR_o, gsR_s, gsR_2, gsL_1, gsL_o, gsL_s, jn0, jn1, jn2, jn3, jn4, jn5, ↓reduceIte, if_true, if_false, ite_self, ne_eq, not_true_eq_false, not_false_eq_true, and_true, true_and, and_false, false_and, Nat.reduceAdd, Nat.reduceMul, Nat.reduceSub, Nat.reducePow, Nat.reduceLT, Nat.reduceEqDiff, Nat.reduceLeDiff, Nat.not_lt_zero, Nat.add_sub_cancel, Nat.add_zero, Nat.zero_add, pk_div, y_dn, Nat.one_mul, Nat.mul_one, reduceCtorEq]
    have hlj := hl_le hl hh.1 hj
    rw [if_neg (nI_pos (by omega)), hbit, y_dn]
    cases hb : F.testBit j with
    | false =>
      rw [if_neg (show ¬ nI false.toNat = 1 by decide)]
      refine kk _ ?_
      rcases hI with ⟨rfl, g⟩ | ⟨a, a0, a1, a2, a3, a5, a6⟩
      · refine Or.inl ⟨rfl, fun q q1 q2 => ?_⟩
        rcases Nat.lt_or_ge j q with e | e
        · exact g q e q2
        · obtain rfl : q = j := by omega
          exact hb
      · refine Or.inr ⟨a, by omega, a1, a2, a3, fun q q1 q2 hFq => ?_, fun q q1 q2 hFq => ?_⟩
        · rcases Nat.lt_or_ge j q with e | e
          · exact a5 q e q2 hFq
          · obtain rfl : q = j := by omega
            rw [hb] at hFq; cases hFq
        · rcases Nat.lt_or_ge j q with e | e
          · exact a6 q e q2 hFq
          · obtain rfl : q = j := by omega
            rw [hb] at hFq; cases hFq
    | true =>
      -- j is the best so far, or it is not
      have take : (∀ q, j < q → q < n → F.testBit q = true → lv h q ≤ lv h j) → Ok (rec (nI j) (dI j)) (fun x => x.2 = σ ∧ ∃ a, x.1 = nI a ∧ AM F (lv h) n a) := fun hq => kk _ (Or.inr ⟨j, Nat.le_refl _, hj, hb, rfl, fun q q1 q2 hFq => by
          rcases Nat.lt_or_ge j q with e | e
          · exact hq q e q2 hFq
          · obtain rfl : q = j := by omega
            exact Nat.le_refl _, fun q q1 q2 hFq => by omega⟩)
      rw [if_pos (show nI true.toNat = 1 from rfl), e_at hk h1 h3 (by omega) (by omega), calP_s, y_ck _ (by omega) (by omega), nI_clamp (by omega), bd_s, mt_lv hl hm hh hj, jn1]
      rcases hI with ⟨rfl, g⟩ | ⟨a, a0, a1, a2, rfl, a5, a6⟩
      · rw [if_pos rfl]
        dsimp only
        have t := take (fun q q1 q2 hFq => by rw [g q q1 q2] at hFq; cases hFq)
        by_cases q : lv h j = 1048576
        · rw [if_pos ((mv_m1 hlj).mpr q)]; exact t
        · rw [if_neg (fun e => q ((mv_m1 hlj).mp e)), if_neg (by decide), mv_n (by omega), if_neg (show ¬ nI (lv h j) < (-2 : Int32) from fun e => by
            rw [Int32.lt_iff_toInt_lt, nI_toInt (by omega), show Int32.toInt (-2) = -2 by decide] at e
            omega)]
          exact t
      · have hla := hl_le hl hh.1 a1
        rw [if_neg (show ¬ nI a = M1 from nI_m1 (by omega)), e_at hk h1 h3 (by omega) (by omega), calP_s, y_ck _ (by omega) (by omega), nI_clamp (by omega), mt_lv hl hm hh a1]
        dsimp only
        have keep : lv h j < lv h a → Ok (rec (nI a) (dI j)) (fun x => x.2 = σ ∧ ∃ a, x.1 = nI a ∧ AM F (lv h) n a) := fun hlt => kk _ (Or.inr ⟨a, by omega, a1, a2, rfl, fun q q1 q2 hFq => by
            rcases Nat.lt_or_ge j q with e | e
            · exact a5 q e q2 hFq
            · obtain rfl : q = j := by omega
              omega, fun q q1 q2 hFq => by
            rcases Nat.lt_or_ge j q with e | e
            · exact a6 q e q2 hFq
            · obtain rfl : q = j := by omega
              exact hlt⟩)
        have t : lv h a ≤ lv h j → Ok (rec (nI j) (dI j)) (fun x => x.2 = σ ∧ ∃ a, x.1 = nI a ∧ AM F (lv h) n a) := fun hle => take (fun q q1 q2 hFq => Nat.le_trans (a5 q q1 q2 hFq) hle)
        by_cases q : lv h j = 1048576
        · rw [if_pos ((mv_m1 hlj).mpr q)]; exact t (by omega)
        · rw [if_neg (fun e => q ((mv_m1 hlj).mp e))]
          by_cases q2 : lv h a = 1048576
          · rw [if_pos ((mv_m1 hla).mpr q2)]; exact keep (by omega)
          · rw [if_neg (fun e => q2 ((mv_m1 hla).mp e)), mv_n (by omega), mv_n (by omega)]
            by_cases q3 : lv h j < lv h a
            · rw [if_pos (nI_lt q3 (by omega))]; exact keep q3
            · rw [if_neg (nI_nlt (by omega) (by omega))]; exact t (by omega)
  · rintro rec x hI
    rw [if_pos (show M1 < 0 by decide)]
    rcases hI with ⟨-, g⟩ | ⟨a, a0, a1, a2, rfl, a5, a6⟩
    · rw [g p (Nat.zero_le _) hp] at hself; cases hself
    · exact ok_some ⟨rfl, a, rfl, a1, a2, fun q q1 q2 => a5 q (Nat.zero_le _) q1 q2, fun q q1 q2 => a6 q (Nat.zero_le _) q1 q2⟩
end FLEE
