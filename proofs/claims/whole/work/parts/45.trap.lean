/-! the class's chase: traps, joined rows -/
def CX (s : St) (n : Nat) (O : Nat → Nat) (c i sp : Nat) : Prop := (NC s n O c) ∧ (ST s) ∧ (s.1 (40 + 5 * i) 2 = nI sp) ∧ (i < 9) ∧ (sp ≤ 3)
theorem CX.nc {s : St} {n : Nat} {O : Nat → Nat} {c i sp : Nat} (h : CX s n O c i sp) : NC s n O c := h.1
theorem CX.st {s : St} {n : Nat} {O : Nat → Nat} {c i sp : Nat} (h : CX s n O c i sp) : ST s := h.2.1
theorem CX.sp {s : St} {n : Nat} {O : Nat → Nat} {c i sp : Nat} (h : CX s n O c i sp) : s.1 (40 + 5 * i) 2 = nI sp := h.2.2.1
theorem CX.hi {s : St} {n : Nat} {O : Nat → Nat} {c i sp : Nat} (h : CX s n O c i sp) : i < 9 := h.2.2.2.1
theorem CX.s3 {s : St} {n : Nat} {O : Nat → Nat} {c i sp : Nat} (h : CX s n O c i sp) : sp ≤ 3 := h.2.2.2.2
theorem nc_fr {P : Nat → Prop} {σ s : St} {n c : Nat} {O : Nat → Nat} (h : NC σ n O c) (f : Fr P σ s) (hp : ∀ x, x ≤ 5 → ¬ P x) : NC s n O c :=
  ⟨⟨h.np, by rw [f.1 1 (hp 1 (by omega))]; exact h.pl, fun p q => by rw [f.1 2 (hp 2 (by omega))]; exact h.z.o p q, fun p q => by rw [f.1 3 (hp 3 (by omega))]; exact h.z.i p q, by rw [f.1 4 (hp 4 (by omega))]; exact h.z.z4, by rw [f.1 5 (hp 5 (by omega))]; exact h.z.z5⟩, by rw [f.1 1 (hp 1 (by omega))]; exact h.ch, fun S q => by rw [f.1 4 (hp 4 (by omega))]; exact h.a S q, fun S q => by rw [f.1 5 (hp 5 (by omega))]; exact h.b S q⟩
theorem st_fr {P : Nat → Prop} {σ s : St} (h : ST σ) (f : Fr P σ s) (hp : ∀ x, 32 ≤ x → x ≤ 37 → ¬ P x) : ST s := by
  intro k hk
  obtain ⟨h1, h2, h3⟩ := h k hk
  refine ⟨?_, ?_, fun r hr => ?_⟩
  · rw [f.1 _ (hp _ (by omega) (by omega))]; exact h1
  · rw [f.1 _ (hp _ (by omega) (by omega))]; exact h2
  · rw [f.1 _ (hp _ (by omega) (by omega))]; exact h3 r hr
def inC (i c : Nat) : Prop := 41 + 5 * i ≤ c ∧ c ≤ 44 + 5 * i
theorem cx_fr {σ s : St} {n c i sp : Nat} {O : Nat → Nat} (h : CX σ n O c i sp) (f : Fr (inC i) σ s) : CX s n O c i sp :=
  ⟨nc_fr h.nc f (fun x hx => by unfold inC; omega), st_fr h.st f (fun x h1 h2 => by unfold inC; omega), by rw [f.1 _ (by unfold inC; omega)]; exact h.sp, h.hi, h.s3⟩
def tpS (n : Nat) (O : Nat → Nat) (sp K r S : Nat) : Nat := nd (2 ^ n - 1) (hop O (plc (dgs K r)) sp (nd (2 ^ n - 1) S))
section TRAP
variable {σ : St} {n c i sp : Nat} {O : Nat → Nat}
theorem all_lt (h : NP n O) : 2 ^ n - 1 < 256 := by have := p256 h.h8; have := Nat.two_pow_pos n; omega
theorem e_trap (h : CX σ n O c i sp) {S : Nat → Nat} (hS : ∀ r, Vr n (i / 3 + 1) r → σ.1 (42 + 5 * i) r = nI (S r)) : Ok (f_X0_trap σ i) (fun q => (∀ r, Vr n (i / 3 + 1) r → q.2.1 (43 + 5 * i) r = nI (tpS n O sp (i / 3 + 1) r (S r))) ∧ Fr (fun c => c = 43 + 5 * i) σ q.2) := by
  have hk : i / 3 < 3 := by have := h.hi; omega
  have hz := sz_eq (i / 3) hk
  have h512 := p8_le (i / 3) hk
  have ha := all_lt h.nc.np
  have hs3 := h.s3
  unfold f_X0_trap
  rw [hz, q_0]
  refine lo2_for (fun j s => (∀ r, r < j → Vr n (i / 3 + 1) r → s.1 (43 + 5 * i) r = nI (tpS n O sp (i / 3 + 1) r (S r))) ∧ Fr (fun c => c = 43 + 5 * i) σ s) (8 ^ (i / 3 + 1)) ?_ ?_ FU 0 _ (by omega) (fu_lt (by omega)) ⟨fun r hr => by omega, fr_refl⟩
  · rintro rec r s hr ⟨e1, e2⟩ kk
    have hx : CX s n O c i sp := cx_fr h (fr_mono e2 (fun c hc => by unfold inC; omega))
    cases hv : vrB n (i / 3 + 1) r with
    | false =>
      simp (disch := omega) only [q_0, q_1, q_2, q_3, q_4, q_5, q_6, q_7, q_8, q_9, q_15, q_16, q_31, q_32, q_48, q_57, q_59, q_63, q_64, q_97, q_100, q_122, q_127, q_160, q_255, q_256, q_512, q_1024, q_2816, q_4096, q_16384, q_1048576, q_m1, q_m2, q_m3, q_m4, q_m5, bd_s, calP_s, cal_s, nI_add, pk_mul, pk_sub, z_and, z_or, z_xor, y_nd, y_shl, y_shr, y_tb, y_ck, nI_ltI, nI_eq, nI_clamp, y_m1a, y_m1b, y_m1c, y_m1d, y_m1e, y_b0, y_b1, y_and255, gsI_o, gsI_s, gsI_2, gsR_o, gsR_s, gsR_2, gsL_1, gsL_o, gsL_s, jn0, jn1, jn2, jn3, jn4, jn5, ↓reduceIte, if_true, if_false, ite_self, ne_eq, not_true_eq_false, not_false_eq_true, and_true, true_and, and_false, false_and, Nat.reduceAdd, Nat.reduceMul, Nat.reduceSub, Nat.reducePow, Nat.reduceLT, Nat.reduceEqDiff, Nat.reduceLeDiff, Nat.not_lt_zero, Nat.add_sub_cancel, Nat.add_zero, Nat.zero_add, pk_div, y_dn, Nat.one_mul, Nat.mul_one, reduceCtorEq, hr, e_isRow hx.st hx.nc.z hk hr, hv]
      refine kk _ ⟨fun r' hr' hv' => ?_, e2⟩
      rcases Nat.lt_succ_iff_lt_or_eq.mp hr' with q | rfl
      · exact e1 r' q hv'
      · rw [vrB_iff.mpr hv'] at hv; cases hv
    | true =>
      have hV := vrB_iff.mp hv
      have hsu : s.1 (42 + 5 * i) r = nI (S r) := by rw [e2.1 _ (by omega)]; exact hS r hV
      simp (disch := omega) only [q_0, q_1, q_2, q_3, q_4, q_5, q_6, q_7, q_8, q_9, q_15, q_16, q_31, q_32, q_48, q_57, q_59, q_63, q_64, q_97, q_100, q_122, q_127, q_160, q_255, q_256, q_512, q_1024, q_2816, q_4096, q_16384, q_1048576, q_m1, q_m2, q_m3, q_m4, q_m5, bd_s, calP_s, cal_s, nI_add, pk_mul, pk_sub, z_and, z_or, z_xor, y_nd, y_shl, y_shr, y_tb, y_ck, nI_ltI, nI_eq, nI_clamp, y_m1a, y_m1b, y_m1c, y_m1d, y_m1e, y_b0, y_b1, y_and255, gsI_o, gsI_s, gsI_2, gsR_o, gsR_s, gsR_2, gsL_1, gsL_o, gsL_s, jn0, jn1, jn2, jn3, jn4, jn5, ↓reduceIte, if_true, if_false, ite_self, ne_eq, not_true_eq_false, not_false_eq_true, and_true, true_and, and_false, false_and, Nat.reduceAdd, Nat.reduceMul, Nat.reduceSub, Nat.reducePow, Nat.reduceLT, Nat.reduceEqDiff, Nat.reduceLeDiff, Nat.not_lt_zero, Nat.add_sub_cancel, Nat.add_zero, Nat.zero_add, pk_div, y_dn, Nat.one_mul, Nat.mul_one, reduceCtorEq, hr, e_isRow hx.st hx.nc.z hk hr, hv, e_all hx.nc.z, hsu]
      refine lo2_for (fun j x => x = nI (hop O (plc (dgs (i / 3 + 1) r)) j (nd (2 ^ n - 1) (S r)))) sp ?_ ?_ FU 0 _ (by omega) (fu_lt (by omega)) rfl
      · rintro rec2 j x hj rfl k2
        have hl := hop_lt (O := O) (plc (dgs (i / 3 + 1) r)) j (nd_lt (b := S r) ha)
        simp (disch := omega) only [q_0, q_1, q_2, q_3, q_4, q_5, q_6, q_7, q_8, q_9, q_15, q_16, q_31, q_32, q_48, q_57, q_59, q_63, q_64, q_97, q_100, q_122, q_127, q_160, q_255, q_256, q_512, q_1024, q_2816, q_4096, q_16384, q_1048576, q_m1, q_m2, q_m3, q_m4, q_m5, bd_s, calP_s, cal_s, nI_add, pk_mul, pk_sub, z_and, z_or, z_xor, y_nd, y_shl, y_shr, y_tb, y_ck, nI_ltI, nI_eq, nI_clamp, y_m1a, y_m1b, y_m1c, y_m1d, y_m1e, y_b0, y_b1, y_and255, gsI_o, gsI_s, gsI_2, gsR_o, gsR_s, gsR_2, gsL_1, gsL_o, gsL_s, jn0, jn1, jn2, jn3, jn4, jn5, ↓reduceIte, if_true, if_false, ite_self, ne_eq, not_true_eq_false, not_false_eq_true, and_true, true_and, and_false, false_and, Nat.reduceAdd, Nat.reduceMul, Nat.reduceSub, Nat.reducePow, Nat.reduceLT, Nat.reduceEqDiff, Nat.reduceLeDiff, Nat.not_lt_zero, Nat.add_sub_cancel, Nat.add_zero, Nat.zero_add, pk_div, y_dn, Nat.one_mul, Nat.mul_one, reduceCtorEq, hx.sp, hj, e_behindOf hx.nc hl, e_placesOf hx.st hk hr]
        exact k2 _ rfl
      · rintro rec2 x rfl
        simp (disch := omega) only [q_0, q_1, q_2, q_3, q_4, q_5, q_6, q_7, q_8, q_9, q_15, q_16, q_31, q_32, q_48, q_57, q_59, q_63, q_64, q_97, q_100, q_122, q_127, q_160, q_255, q_256, q_512, q_1024, q_2816, q_4096, q_16384, q_1048576, q_m1, q_m2, q_m3, q_m4, q_m5, bd_s, calP_s, cal_s, nI_add, pk_mul, pk_sub, z_and, z_or, z_xor, y_nd, y_shl, y_shr, y_tb, y_ck, nI_ltI, nI_eq, nI_clamp, y_m1a, y_m1b, y_m1c, y_m1d, y_m1e, y_b0, y_b1, y_and255, gsI_o, gsI_s, gsI_2, gsR_o, gsR_s, gsR_2, gsL_1, gsL_o, gsL_s, jn0, jn1, jn2, jn3, jn4, jn5, ↓reduceIte, if_true, if_false, ite_self, ne_eq, not_true_eq_false, not_false_eq_true, and_true, true_and, and_false, false_and, Nat.reduceAdd, Nat.reduceMul, Nat.reduceSub, Nat.reducePow, Nat.reduceLT, Nat.reduceEqDiff, Nat.reduceLeDiff, Nat.not_lt_zero, Nat.add_sub_cancel, Nat.add_zero, Nat.zero_add, pk_div, y_dn, Nat.one_mul, Nat.mul_one, reduceCtorEq, hx.sp, Nat.lt_irrefl, e_all hx.nc.z]
        refine kk _ ⟨fun r' hr' hv' => ?_, fr_setI e2 rfl⟩
        rw [gsI_s]
        by_cases e : r' = r
        · subst e; rw [if_pos rfl]; rfl
        · rw [if_neg e]; exact e1 r' (by omega) hv'
  · rintro rec s ⟨e1, e2⟩
    simp (disch := omega) only [q_0, q_1, q_2, q_3, q_4, q_5, q_6, q_7, q_8, q_9, q_15, q_16, q_31, q_32, q_48, q_57, q_59, q_63, q_64, q_97, q_100, q_122, q_127, q_160, q_255, q_256, q_512, q_1024, q_2816, q_4096, q_16384, q_1048576, q_m1, q_m2, q_m3, q_m4, q_m5, bd_s, calP_s, cal_s, nI_add, pk_mul, pk_sub, z_and, z_or, z_xor, y_nd, y_shl, y_shr, y_tb, y_ck, nI_ltI, nI_eq, nI_clamp, y_m1a, y_m1b, y_m1c, y_m1d, y_m1e, y_b0, y_b1, y_and255, gsI_o, gsI_s, gsI_2, gsR_o, gsR_s, gsR_2, gsL_1, gsL_o, gsL_s, jn0, jn1, jn2, jn3, jn4, jn5, ↓reduceIte, if_true, if_false, ite_self, ne_eq, not_true_eq_false, not_false_eq_true, and_true, true_and, and_false, false_and, Nat.reduceAdd, Nat.reduceMul, Nat.reduceSub, Nat.reducePow, Nat.reduceLT, Nat.reduceEqDiff, Nat.reduceLeDiff, Nat.not_lt_zero, Nat.add_sub_cancel, Nat.add_zero, Nat.zero_add, pk_div, y_dn, Nat.one_mul, Nat.mul_one, reduceCtorEq, Nat.lt_irrefl]
    exact ok_some ⟨fun r hr => e1 r hr.1 hr, e2⟩
theorem e_join {U M f t : Nat} (hU : U = 1 ∨ U = 8 ∨ U = 64) (hN : szS (i / 3) = 8 * U * M) (hM : 8 * U * M ≤ 512) (hM1 : 1 ≤ M) (hf : f < 8) (ht : t < 8) : Ok (f_X0_joinRows σ i (nI f) (nI t) (nI U)) (fun q => (∀ x, x < 8 * U * M → q.2.1 (44 + 5 * i) x = if x / U % 8 = f then σ.1 (44 + 5 * i) x ||| σ.1 (43 + 5 * i) (x - f * U + t * U) else σ.1 (44 + 5 * i) x) ∧ Fr (fun c => c = 44 + 5 * i) σ q.2) := by
  unfold f_X0_joinRows
  rw [hN]
  have hm : nI (8 * U * M) - nI (8 * U) = nI (8 * U * (M - 1)) := by
    rw [pk_sub (by rcases hU with rfl | rfl | rfl <;> omega)]
    congr 1
    rcases hU with rfl | rfl | rfl <;> omega
  have hU1 : ¬ U < 1 := by omega
  have hUl : U < 100 := by omega
  have hb0 : 8 * U < 2 ^ 31 := by omega
  simp (disch := omega) only [q_0, q_1, q_2, q_3, q_4, q_5, q_6, q_7, q_8, q_9, q_15, q_16, q_31, q_32, q_48, q_57, q_59, q_63, q_64, q_97, q_100, q_122, q_127, q_160, q_255, q_256, q_512, q_1024, q_2816, q_4096, q_16384, q_1048576, q_m1, q_m2, q_m3, q_m4, q_m5, bd_s, calP_s, cal_s, nI_add, pk_mul, pk_sub, z_and, z_or, z_xor, y_nd, y_shl, y_shr, y_tb, y_ck, nI_ltI, nI_eq, nI_clamp, y_m1a, y_m1b, y_m1c, y_m1d, y_m1e, y_b0, y_b1, y_and255, gsI_o, gsI_s, gsI_2, gsR_o, gsR_s, gsR_2, gsL_1, gsL_o, gsL_s, jn0, jn1, jn2, jn3, jn4, jn5, ↓reduceIte, if_true, if_false, ite_self, ne_eq, not_true_eq_false, not_false_eq_true, and_true, true_and, and_false, false_and, Nat.reduceAdd, Nat.reduceMul, Nat.reduceSub, Nat.reducePow, Nat.reduceLT, Nat.reduceEqDiff, Nat.reduceLeDiff, Nat.not_lt_zero, Nat.add_sub_cancel, Nat.add_zero, Nat.zero_add, pk_div, y_dn, Nat.one_mul, Nat.mul_one, reduceCtorEq, hf, ht, hU1, Nat.lt_irrefl, hm]
  refine lo2_ok (fun s x => ∃ m, m ≤ M ∧ x = nI (8 * U * m) ∧ (∀ y, y < 8 * U * M → s.1 (44 + 5 * i) y = if y / U % 8 = f ∧ y < 8 * U * m + f * U then σ.1 (44 + 5 * i) y ||| σ.1 (43 + 5 * i) (y - f * U + t * U) else σ.1 (44 + 5 * i) y) ∧ Fr (fun c => c = 44 + 5 * i) σ s) (fun s x => 8 * U * M + 1 - x.toNatClampNeg) ?_ FU _ _ ⟨0, by omega, rfl, ?_, fr_refl⟩ (fu_lt (by omega))
  · rintro rec s x ⟨m, hm1, rfl, e1, e2⟩ kk
    have hle : 8 * U * m ≤ 8 * U * M := Nat.mul_le_mul_left _ hm1
    have hcm : (nI (8 * U * (M - 1)) < nI (8 * U * m)) ↔ M ≤ m := by
      rw [nI_ltI (by rcases hU with rfl | rfl | rfl <;> omega) (by omega)]
      rcases hU with rfl | rfl | rfl <;> omega
    by_cases hmM : M ≤ m
    · rw [if_pos (hcm.mpr hmM)]
      refine ok_some ⟨fun y hy => ?_, e2⟩
      obtain rfl : m = M := by omega
      rw [e1 y hy]
      by_cases hd : y / U % 8 = f
      · rw [if_pos hd, if_pos ⟨hd, by omega⟩]
      · rw [if_neg hd, if_neg (fun q => hd q.1)]
    · rw [if_neg (fun q => hmM (hcm.mp q))]
      have hms : 8 * U * (m + 1) = 8 * U * m + 8 * U := by rw [Nat.mul_add, Nat.mul_one]
      have hle2 : 8 * U * (m + 1) ≤ 8 * U * M := Nat.mul_le_mul_left _ (by omega)
      have hfU : f * U + U ≤ 8 * U := by have := Nat.mul_le_mul_right U (show f + 1 ≤ 8 by omega); rw [Nat.add_mul, Nat.one_mul] at this; exact this
      have htU : t * U + U ≤ 8 * U := by have := Nat.mul_le_mul_right U (show t + 1 ≤ 8 by omega); rw [Nat.add_mul, Nat.one_mul] at this; exact this
      refine lo2_for (fun y s' => 8 * U * m ≤ y ∧ (∀ z, z < 8 * U * M → s'.1 (44 + 5 * i) z = if z / U % 8 = f ∧ z < y + f * U then σ.1 (44 + 5 * i) z ||| σ.1 (43 + 5 * i) (z - f * U + t * U) else σ.1 (44 + 5 * i) z) ∧ Fr (fun c => c = 44 + 5 * i) σ s') (8 * U * m + U) ?_ ?_ FU (8 * U * m) _ (by omega) (fu_lt (by omega)) ⟨by omega, e1, e2⟩
      · rintro rec2 y s' hy ⟨g0, g1, g2⟩ k2
        have hdy : (y + f * U) / U % 8 = f := by rcases hU with rfl | rfl | rfl <;> omega
        have v1 : s'.1 (44 + 5 * i) (y + f * U) = σ.1 (44 + 5 * i) (y + f * U) := by
          rw [g1 _ (by omega), if_neg (by omega)]
        have v2 : s'.1 (43 + 5 * i) (y + t * U) = σ.1 (43 + 5 * i) (y + t * U) := by rw [g2.1 _ (by omega)]
        simp (disch := omega) only [q_0, q_1, q_2, q_3, q_4, q_5, q_6, q_7, q_8, q_9, q_15, q_16, q_31, q_32, q_48, q_57, q_59, q_63, q_64, q_97, q_100, q_122, q_127, q_160, q_255, q_256, q_512, q_1024, q_2816, q_4096, q_16384, q_1048576, q_m1, q_m2, q_m3, q_m4, q_m5, bd_s, calP_s, cal_s, nI_add, pk_mul, pk_sub, z_and, z_or, z_xor, y_nd, y_shl, y_shr, y_tb, y_ck, nI_ltI, nI_eq, nI_clamp, y_m1a, y_m1b, y_m1c, y_m1d, y_m1e, y_b0, y_b1, y_and255, gsI_o, gsI_s, gsI_2, gsR_o, gsR_s, gsR_2, gsL_1, gsL_o, gsL_s, jn0, jn1, jn2, jn3, jn4, jn5, ↓reduceIte, if_true, if_false, ite_self, ne_eq, not_true_eq_false, not_false_eq_true, and_true, true_and, and_false, false_and, Nat.reduceAdd, Nat.reduceMul, Nat.reduceSub, Nat.reducePow, Nat.reduceLT, Nat.reduceEqDiff, Nat.reduceLeDiff, Nat.not_lt_zero, Nat.add_sub_cancel, Nat.add_zero, Nat.zero_add, pk_div, y_dn, Nat.one_mul, Nat.mul_one, reduceCtorEq, hy, v1, v2]
        refine k2 _ ⟨by omega, ?_, fr_setI g2 rfl⟩
        intro z hz
        rw [gsI_s]
        by_cases e : z = y + f * U
        · subst e
          rw [if_pos rfl, if_pos ⟨hdy, by omega⟩, show y + f * U - f * U + t * U = y + t * U by omega]
        · rw [if_neg e, g1 z hz]
          by_cases hd : z / U % 8 = f
          · by_cases hl : z < y + f * U
            · rw [if_pos ⟨hd, hl⟩, if_pos ⟨hd, by omega⟩]
            · rw [if_neg (fun q => hl q.2), if_neg (fun q => by omega)]
          · rw [if_neg (fun q => hd q.1), if_neg (fun q => hd q.1)]
      · rintro rec2 s' ⟨g0, g1, g2⟩
        simp (disch := omega) only [q_0, q_1, q_2, q_3, q_4, q_5, q_6, q_7, q_8, q_9, q_15, q_16, q_31, q_32, q_48, q_57, q_59, q_63, q_64, q_97, q_100, q_122, q_127, q_160, q_255, q_256, q_512, q_1024, q_2816, q_4096, q_16384, q_1048576, q_m1, q_m2, q_m3, q_m4, q_m5, bd_s, calP_s, cal_s, nI_add, pk_mul, pk_sub, z_and, z_or, z_xor, y_nd, y_shl, y_shr, y_tb, y_ck, nI_ltI, nI_eq, nI_clamp, y_m1a, y_m1b, y_m1c, y_m1d, y_m1e, y_b0, y_b1, y_and255, gsI_o, gsI_s, gsI_2, gsR_o, gsR_s, gsR_2, gsL_1, gsL_o, gsL_s, jn0, jn1, jn2, jn3, jn4, jn5, ↓reduceIte, if_true, if_false, ite_self, ne_eq, not_true_eq_false, not_false_eq_true, and_true, true_and, and_false, false_and, Nat.reduceAdd, Nat.reduceMul, Nat.reduceSub, Nat.reducePow, Nat.reduceLT, Nat.reduceEqDiff, Nat.reduceLeDiff, Nat.not_lt_zero, Nat.add_sub_cancel, Nat.add_zero, Nat.zero_add, pk_div, y_dn, Nat.one_mul, Nat.mul_one, reduceCtorEq, Nat.lt_irrefl]
        rw [← hms]
        refine kk _ _ ⟨m + 1, by omega, rfl, fun z hz => ?_, g2⟩ ?_
        · rw [g1 z hz]
          have : (z / U % 8 = f ∧ z < 8 * U * m + U + f * U) ↔ (z / U % 8 = f ∧ z < 8 * U * (m + 1) + f * U) := by
            rcases hU with rfl | rfl | rfl <;> omega
          simp only [this]
        · rw [nI_clamp (by omega), nI_clamp (by omega)]; omega
  · intro y hy
    rw [if_neg]
    rintro ⟨h1, h2⟩
    rcases hU with rfl | rfl | rfl <;> omega
end TRAP
