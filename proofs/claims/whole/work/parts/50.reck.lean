/-! the reference's chase: flights, the most behind, the good ones -/
theorem q_mm : (-1 : Int32) = M1 := rfl
/-- a number of rounds as the reference tells it -/
def mv (v : Nat) : Int32 := if v = 1048576 then M1 else nI v
theorem mv_n {v : Nat} (h : v < 1048576) : mv v = nI v := if_neg (by omega)
theorem mv_e : mv 1048576 = M1 := if_pos rfl
theorem mv_m1 {v : Nat} (h : v ≤ 1048576) : mv v = M1 ↔ v = 1048576 := by
  by_cases e : v = 1048576
  · subst e; exact ⟨fun _ => rfl, fun _ => mv_e⟩
  · rw [mv_n (by omega)]
    exact ⟨fun q => (nI_m1 (by omega) q).elim, fun q => (e q).elim⟩
/-- the most of v among the members of F below q -/
def bmx (F : Nat) (v : Nat → Nat) : Nat → Nat
  | 0 => 0
  | q + 1 => max (bmx F v q) (if F.testBit q = true then v q else 0)
theorem bmx_le {F : Nat} {v : Nat → Nat} {b : Nat} : ∀ {m : Nat}, bmx F v m ≤ b ↔ ∀ q, q < m → F.testBit q = true → v q ≤ b := by
  intro m
  induction m with
  | zero => exact ⟨fun _ q hq => by omega, fun _ => Nat.zero_le _⟩
  | succ m ih =>
    rw [bmx, Nat.max_le, ih]
    constructor
    · rintro ⟨h1, h2⟩ q hq hF
      rcases Nat.lt_succ_iff_lt_or_eq.mp hq with e | rfl
      · exact h1 q e hF
      · rw [if_pos hF] at h2; exact h2
    · intro h
      refine ⟨fun q hq hF => h q (by omega) hF, ?_⟩
      split
      · exact h m (by omega) (by assumption)
      · exact Nat.zero_le _
theorem bmx_mono {F : Nat} {v : Nat → Nat} {a b : Nat} (h : a ≤ b) : bmx F v a ≤ bmx F v b := bmx_le.mpr (fun q hq hF => bmx_le.mp (Nat.le_refl _) q (by omega) hF)
section RECK
variable {σ : St} {n k s : Nat} {O : Nat → Nat}
theorem e_at {x : St} (hk : k < 3) (h1 : 1 ≤ s) (h3 : s ≤ 3) {h q : Nat} (hh : h < 512) (hq : q < 8) : f_X10_at x (nI (k + 1)) (nI s) (nI h) (nI q) = some (nI (4096 * (3 * k + s - 1) + 8 * h + q)) := by
  unfold f_X10_at
  simp (disch := omega) only [q_0, q_1, q_2, q_3, q_4, q_5, q_6, q_7, q_8, q_9, q_15, q_16, q_31, q_32, q_48, q_57, q_59, q_63, q_64, q_97, q_100, q_122, q_127, q_160, q_255, q_256, q_512, q_1024, q_2816, q_4096, q_16384, q_1048576, q_m1, q_m2, q_m3, q_m4, q_m5, bd_s, calP_s, cal_s, nI_add, pk_mul, pk_sub, z_and, z_or, z_xor, y_nd, y_shl, y_shr, y_tb, y_ck, nI_ltI, nI_eq, nI_clamp, y_m1a, y_m1b, y_m1c, y_m1d, y_m1e, y_b0, y_b1, y_and255, gsI_o, gsI_s, gsI_2, gsR_o, gsR_s, gsR_2, gsL_1, gsL_o, gsL_s, jn0, jn1, jn2, jn3, jn4, jn5, ↓reduceIte, if_true, if_false, ite_self, ne_eq, not_true_eq_false, not_false_eq_true, and_true, true_and, and_false, false_and, Nat.reduceAdd, Nat.reduceMul, Nat.reduceSub, Nat.reducePow, Nat.reduceLT, Nat.reduceEqDiff, Nat.reduceLeDiff, Nat.not_lt_zero, Nat.add_sub_cancel, Nat.add_zero, Nat.zero_add, pk_div, y_dn, Nat.one_mul, Nat.mul_one, reduceCtorEq]
theorem m_flight (hN : NM σ n O) {H p : Nat} (hp : p < n) (h3 : s ≤ 3) : f_X10_flight σ (nI H) (nI s) (nI p) = some (nI (flB O H s (2 ^ p))) := by
  have h8 := hN.np.h8
  have h2 := pow8 (p := p) (by omega)
  unfold f_X10_flight
  simp (disch := omega) only [q_0, q_1, q_2, q_3, q_4, q_5, q_6, q_7, q_8, q_9, q_15, q_16, q_31, q_32, q_48, q_57, q_59, q_63, q_64, q_97, q_100, q_122, q_127, q_160, q_255, q_256, q_512, q_1024, q_2816, q_4096, q_16384, q_1048576, q_m1, q_m2, q_m3, q_m4, q_m5, bd_s, calP_s, cal_s, nI_add, pk_mul, pk_sub, z_and, z_or, z_xor, y_nd, y_shl, y_shr, y_tb, y_ck, nI_ltI, nI_eq, nI_clamp, y_m1a, y_m1b, y_m1c, y_m1d, y_m1e, y_b0, y_b1, y_and255, gsI_o, gsI_s, gsI_2, gsR_o, gsR_s, gsR_2, gsL_1, gsL_o, gsL_s, jn0, jn1, jn2, jn3, jn4, jn5, ↓reduceIte, if_true, if_false, ite_self, ne_eq, not_true_eq_false, not_false_eq_true, and_true, true_and, and_false, false_and, Nat.reduceAdd, Nat.reduceMul, Nat.reduceSub, Nat.reducePow, Nat.reduceLT, Nat.reduceEqDiff, Nat.reduceLeDiff, Nat.not_lt_zero, Nat.add_sub_cancel, Nat.add_zero, Nat.zero_add, pk_div, y_dn, Nat.one_mul, Nat.mul_one, reduceCtorEq, y_pow]
  refine ok_eq (lo2_for (fun i x => x = nI (flB O H i (2 ^ p))) s ?_ ?_ FU 0 _ (by omega) (fu_lt (by omega)) rfl)
  · rintro rec i x hi rfl kk
    have hl := flB_lt hN.np H i (S := 2 ^ p) (Nat.pow_lt_pow_right (by decide) hp)
    have := p256 h8
    simp (disch := omega) only [q_0, q_1, q_2, q_3, q_4, q_5, q_6, q_7, q_8, q_9, q_15, q_16, q_31, q_32, q_48, q_57, q_59, q_63, q_64, q_97, q_100, q_122, q_127, q_160, q_255, q_256, q_512, q_1024, q_2816, q_4096, q_16384, q_1048576, q_m1, q_m2, q_m3, q_m4, q_m5, bd_s, calP_s, cal_s, nI_add, pk_mul, pk_sub, z_and, z_or, z_xor, y_nd, y_shl, y_shr, y_tb, y_ck, nI_ltI, nI_eq, nI_clamp, y_m1a, y_m1b, y_m1c, y_m1d, y_m1e, y_b0, y_b1, y_and255, gsI_o, gsI_s, gsI_2, gsR_o, gsR_s, gsR_2, gsL_1, gsL_o, gsL_s, jn0, jn1, jn2, jn3, jn4, jn5, ↓reduceIte, if_true, if_false, ite_self, ne_eq, not_true_eq_false, not_false_eq_true, and_true, true_and, and_false, false_and, Nat.reduceAdd, Nat.reduceMul, Nat.reduceSub, Nat.reducePow, Nat.reduceLT, Nat.reduceEqDiff, Nat.reduceLeDiff, Nat.not_lt_zero, Nat.add_sub_cancel, Nat.add_zero, Nat.zero_add, pk_div, y_dn, Nat.one_mul, Nat.mul_one, reduceCtorEq, hi, e_stepped hN]
    exact kk _ rfl
  · rintro rec x rfl
    simp (disch := omega) only [q_0, q_1, q_2, q_3, q_4, q_5, q_6, q_7, q_8, q_9, q_15, q_16, q_31, q_32, q_48, q_57, q_59, q_63, q_64, q_97, q_100, q_122, q_127, q_160, q_255, q_256, q_512, q_1024, q_2816, q_4096, q_16384, q_1048576, q_m1, q_m2, q_m3, q_m4, q_m5, bd_s, calP_s, cal_s, nI_add, pk_mul, pk_sub, z_and, z_or, z_xor, y_nd, y_shl, y_shr, y_tb, y_ck, nI_ltI, nI_eq, nI_clamp, y_m1a, y_m1b, y_m1c, y_m1d, y_m1e, y_b0, y_b1, y_and255, gsI_o, gsI_s, gsI_2, gsR_o, gsR_s, gsR_2, gsL_1, gsL_o, gsL_s, jn0, jn1, jn2, jn3, jn4, jn5, ↓reduceIte, if_true, if_false, ite_self, ne_eq, not_true_eq_false, not_false_eq_true, and_true, true_and, and_false, false_and, Nat.reduceAdd, Nat.reduceMul, Nat.reduceSub, Nat.reducePow, Nat.reduceLT, Nat.reduceEqDiff, Nat.reduceLeDiff, Nat.not_lt_zero, Nat.add_sub_cancel, Nat.add_zero, Nat.zero_add, pk_div, y_dn, Nat.one_mul, Nat.mul_one, reduceCtorEq, Nat.lt_irrefl]
    exact ok_some rfl
theorem m_behind (hN : NM σ n O) (hk : k < 3) (h1 : 1 ≤ s) (h3 : s ≤ 3) {h p F : Nat} {v : Nat → Nat} (hh : h < 512) (hp : p < 8) (hF : σ.1 106 (8 * h + p) = nI F) (hFl : F < 256) (hv : ∀ q, q < n → v q ≤ 1048576 ∧ σ.1 105 (4096 * (3 * k + s - 1) + 8 * h + q) = mv (v q)) : f_X10_behind σ (nI (k + 1)) (nI s) (nI h) (nI p) = some (mv (bmx F v n)) := by
  have h8 := hN.np.h8
  have hb : ∀ m, m ≤ n → bmx F v m ≤ 1048576 := fun m hm => bmx_le.mpr (fun q hq _ => (hv q (by omega)).1)
  unfold f_X10_behind
  rw [q_8, pk_mul, nI_add, y_ck _ (by omega) (by omega), bd_s, nI_clamp (by omega), hF, q_0, q_mm]
  refine ok_eq (lo2_for (fun i x => x = mv (bmx F v i)) n ?_ ?_ FU 0 _ (by omega) (fu_lt (by omega)) rfl)
  · rintro rec i x hi rfl kk
    have hbi := hb i (by omega)
    obtain ⟨hv1, hv2⟩ := hv i hi
    rw [hN.pl, if_pos (nI_lt hi (by omega))]
    by_cases e : bmx F v i = 1048576
    · rw [e, mv_e, if_pos rfl]
      refine ok_some ?_
      have := bmx_mono (F := F) (v := v) (show i ≤ n by omega)
      have := hb n (Nat.le_refl _)
      rw [show bmx F v n = 1048576 by omega, mv_e]
    · rw [if_neg (fun q => e ((mv_m1 hbi).mp q)), jn1]
      have hbit : (nI F >>> (nI i &&& 31)) &&& (1 : Int32) = nI (F.testBit i).toNat := by
        simp (disch := omega) only [q_0, q_1, q_2, q_3, q_4, q_5, q_6, q_7, q_8, q_9, q_15, q_16, q_31, q_32, q_48, q_57, q_59, q_63, q_64, q_97, q_100, q_122, q_127, q_160, q_255, q_256, q_512, q_1024, q_2816, q_4096, q_16384, q_1048576, q_m1, q_m2, q_m3, q_m4, q_m5, bd_s, calP_s, cal_s, nI_add, pk_mul, pk_sub, z_and, z_or, z_xor, y_nd, y_shl, y_shr, y_tb, y_ck, nI_ltI, nI_eq, nI_clamp, y_m1a, y_m1b, y_m1c, y_m1d, y_m1e, y_b0, y_b1, y_and255, gsI_o, gsI_s, gsI_2, gsR_o, gsR_s, gsR_2, gsL_1, gsL_o, gsL_s, jn0, jn1, jn2, jn3, jn4, jn5, ↓reduceIte, if_true, if_false, ite_self, ne_eq, not_true_eq_false, not_false_eq_true, and_true, true_and, and_false, false_and, Nat.reduceAdd, Nat.reduceMul, Nat.reduceSub, Nat.reducePow, Nat.reduceLT, Nat.reduceEqDiff, Nat.reduceLeDiff, Nat.not_lt_zero, Nat.add_sub_cancel, Nat.add_zero, Nat.zero_add, pk_div, y_dn, Nat.one_mul, Nat.mul_one, reduceCtorEq]
      rw [hbit, mv_n (by omega)]
      have rest : ∀ w, w ≤ 1048576 → w = (if F.testBit i = true then v i else 0) → Ok (if mv w = M1 then rec M1 (nI i + 1) else (if nI (bmx F v i) < mv w then rec (mv w) (nI i + 1) else rec (nI (bmx F v i)) (nI i + 1))) (fun x => x = mv (bmx F v n)) := by
        intro w hw he
        rw [q_1, nI_add]
        by_cases e2 : w = 1048576
        · rw [e2, mv_e, if_pos rfl]
          refine kk _ ?_
          rw [bmx, ← he, e2, Nat.max_eq_right (by omega), mv_e]
        · rw [if_neg (fun q => e2 ((mv_m1 hw).mp q)), mv_n (by omega)]
          by_cases e3 : bmx F v i < w
          · rw [if_pos (nI_lt e3 (by omega))]
            refine kk _ ?_
            rw [bmx, ← he, Nat.max_eq_right (by omega), mv_n (by omega)]
          · rw [if_neg (nI_nlt (by omega) (by omega))]
            refine kk _ ?_
            rw [bmx, ← he, Nat.max_eq_left (by omega), mv_n (by omega)]
      cases hb2 : F.testBit i with
      | true =>
        rw [if_pos (show nI true.toNat = 1 from rfl), e_at hk h1 h3 hh (by omega), calP_s, y_ck _ (by omega) (by omega), nI_clamp (by omega), hv2]
        exact rest (v i) hv1 (by rw [if_pos hb2])
      | false =>
        rw [if_neg (show ¬ nI false.toNat = 1 by decide)]
        exact rest 0 (by omega) (by rw [hb2]; rfl)
  · rintro rec x rfl
    rw [hN.pl, if_neg (nI_nlt (Nat.le_refl _) (by omega))]
    exact ok_some rfl
theorem e_power {x : St} (hk : k < 3) : f_X10_powerOf x (nI (k + 1)) = some (nI (8 ^ (k + 1))) := by
  unfold f_X10_powerOf
  rcases (show k = 0 ∨ k = 1 ∨ k = 2 by omega) with rfl | rfl | rfl <;> rfl
/-- a setting -/
def Sg (n K h : Nat) : Prop := Vr n K h ∧ srt K h = h
theorem sg_iff {n K h : Nat} : (vrB n K h && decide (srt K h = h)) = true ↔ Sg n K h := by
  rw [Bool.and_eq_true, vrB_iff, decide_eq_true_iff]; rfl
/-- the flights from a stand, hunters at a setting -/
def flS (O : Nat → Nat) (s K h p : Nat) : Nat := if (plc (dgs K h)).testBit p = true then 0 else flB O (plc (dgs K h)) s (2 ^ p)
def FLT (x : St) (n : Nat) (O : Nat → Nat) (K s : Nat) : Prop := ∀ h p, Sg n K h → p < n → x.1 106 (8 * h + p) = nI (flS O s K h p)
theorem m_findFlights (hN : NM σ n O) (hk : k < 3) (h3 : s ≤ 3) : Ok (f_X10_findFlights σ (nI (k + 1)) (nI s)) (fun q => FLT q.2 n O (k + 1) s ∧ Fr (fun c => c = 106 ∨ c = 108) σ q.2) := by
  have h8 := hN.np.h8
  have h512 := p8_le k hk
  unfold f_X10_findFlights
  rw [q_0]
  refine lo2_for (fun j x => (∀ h p, h < j → Sg n (k + 1) h → p < n → x.1 106 (8 * h + p) = nI (flS O s (k + 1) h p)) ∧ Fr (fun c => c = 106 ∨ c = 108) σ x) (8 ^ (k + 1)) ?_ ?_ FU 0 _ (Nat.zero_le _) (fu_lt (by omega)) ⟨fun h p hh => by omega, fr_refl⟩
  · rintro rec h x hh ⟨e1, e2⟩ kk
    have hx := nm_fr hN e2 (by omega) (by omega)
    rw [e_power hk, calP_s, if_pos (nI_lt hh (by omega))]
    refine ok_cal (m_isSetting hx hk hh) (fun w s1 ⟨w1, w2⟩ => ?_)
    dsimp only at w1 w2
    subst w1
    have f1 : Fr (fun c => c = 106 ∨ c = 108) σ s1 := fr_trans e2 (fr_mono w2 (fun c hc => Or.inr hc))
    cases hb : (vrB n (k + 1) h && decide (srt (k + 1) h = h)) with
    | false =>
      rw [if_pos (show nI false.toNat = nI 0 from rfl), q_1, nI_add]
      refine kk _ ⟨fun h' p' hh' hs hp' => ?_, f1⟩
      rcases Nat.lt_succ_iff_lt_or_eq.mp hh' with q | rfl
      · rw [w2.1 _ (by omega)]; exact e1 h' p' q hs hp'
      · rw [sg_iff.mpr hs] at hb; cases hb
    | true =>
      rw [if_neg (show ¬ nI true.toNat = nI 0 by decide)]
      have hx1 := nm_fr hN f1 (by omega) (by omega)
      refine ok_cal (m_placesOf hk hh) (fun w s2 ⟨w3, w4⟩ => ?_)
      dsimp only at w3 w4
      subst w3
      have f2 : Fr (fun c => c = 106 ∨ c = 108) σ s2 := fr_trans f1 (fr_mono w4 (fun c hc => Or.inr hc))
      have hpl := plc_lt (dgs (k + 1) h)
      refine lo2_for (fun j y => (∀ h' p', (h' < h ∨ h' = h ∧ p' < j) → Sg n (k + 1) h' → p' < n → y.1 106 (8 * h' + p') = nI (flS O s (k + 1) h' p')) ∧ Fr (fun c => c = 106 ∨ c = 108) σ y) n ?_ ?_ FU 0 _ (by omega) (fu_lt (by omega)) ⟨fun h' p' hh' hs hp' => ?_, f2⟩
      · rintro rec2 p y hp ⟨g1, g2⟩ k2
        have hy := nm_fr hN g2 (by omega) (by omega)
        have hbit : (nI (plc (dgs (k + 1) h)) >>> (nI p &&& 31)) &&& (1 : Int32) = nI ((plc (dgs (k + 1) h)).testBit p).toNat := by
          simp (disch := omega) only [q_0, q_1, q_2, q_3, q_4, q_5, q_6, q_7, q_8, q_9, q_15, q_16, q_31, q_32, q_48, q_57, q_59, q_63, q_64, q_97, q_100, q_122, q_127, q_160, q_255, q_256, q_512, q_1024, q_2816, q_4096, q_16384, q_1048576, q_m1, q_m2, q_m3, q_m4, q_m5, bd_s, calP_s, cal_s, nI_add, pk_mul, pk_sub, z_and, z_or, z_xor, y_nd, y_shl, y_shr, y_tb, y_ck, nI_ltI, nI_eq, nI_clamp, y_m1a, y_m1b, y_m1c, y_m1d, y_m1e, y_b0, y_b1, y_and255, gsI_o, gsI_s, gsI_2, gsR_o, gsR_s, gsR_2, gsL_1, gsL_o, gsL_s, jn0, jn1, jn2, jn3, jn4, jn5, ↓reduceIte, if_true, if_false, ite_self, ne_eq, not_true_eq_false, not_false_eq_true, and_true, true_and, and_false, false_and, Nat.reduceAdd, Nat.reduceMul, Nat.reduceSub, Nat.reducePow, Nat.reduceLT, Nat.reduceEqDiff, Nat.reduceLeDiff, Nat.not_lt_zero, Nat.add_sub_cancel, Nat.add_zero, Nat.zero_add, pk_div, y_dn, Nat.one_mul, Nat.mul_one, reduceCtorEq]
        have put : ∀ w, w = nI (flS O s (k + 1) h p) → Ok (rec2 (setI y 106 (8 * h + p) w) (nI (p + 1))) _ := fun w hw => k2 _ ⟨fun h' p' hh' hs hp' => by
          rw [gsI_s]
          by_cases e : 8 * h' + p' = 8 * h + p
          · obtain rfl : h' = h := by omega
            obtain rfl : p' = p := by omega
            rw [if_pos rfl, hw]
          · rw [if_neg e]
            exact g1 h' p' (by omega) hs hp', fr_setI g2 (Or.inl rfl)⟩
        rw [hy.pl, if_pos (nI_lt hp (by omega)), hbit, q_8, pk_mul, nI_add, q_1, nI_add]
        cases hb2 : (plc (dgs (k + 1) h)).testBit p with
        | true =>
          rw [if_pos (show nI true.toNat = nI 1 from rfl), y_ck _ (by omega) (by omega), bd_s, nI_clamp (by omega)]
          exact put _ (by unfold flS; rw [if_pos hb2])
        | false =>
          rw [if_neg (show ¬ nI false.toNat = nI 1 by decide), m_flight hy hp h3, calP_s, y_ck _ (by omega) (by omega), bd_s, nI_clamp (by omega)]
          exact put _ (by unfold flS; rw [if_neg (by rw [hb2]; decide)])
      · rintro rec2 y ⟨g1, g2⟩
        have hy := nm_fr hN g2 (by omega) (by omega)
        rw [hy.pl, if_neg (nI_nlt (Nat.le_refl _) (by omega)), q_1, nI_add]
        exact kk _ ⟨fun h' p' hh' hs hp' => g1 h' p' (by omega) hs hp', g2⟩
      · rw [w4.1 _ (by omega), w2.1 _ (by omega)]; exact e1 h' p' (by omega) hs hp'
  · rintro rec x ⟨e1, e2⟩
    rw [e_power hk, calP_s, if_neg (nI_nlt (Nat.le_refl _) (by omega))]
    exact ok_some ⟨fun h p hs hp => e1 h p hs.1.1 hs hp, e2⟩
end RECK
