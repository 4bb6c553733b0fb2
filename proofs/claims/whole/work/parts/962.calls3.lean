section CALLS3
variable {σ s : St} {n c l : Nat} {O tx : Nat → Nat} {p : Pl}
theorem ic_gp (hI : IC σ n O c tx l p) {g : Nat} (hg : g < 2) (h : GP σ s g n O c) : IC s n O c tx l p ∧ Fr (fun x => x < 100) σ s := by
  obtain ⟨h1, h2, h3, f⟩ := h
  refine ⟨?_, fr_mono f (fun x hx => by omega)⟩
  refine ic_mk f hI (fun x hx => by omega) (fun x h1 h2 => by omega) (tcx_eq hI.tc (by rw [f.1 6 (by omega)]) (f.1 7 (by omega))) (fun i hi => Or.inl (fun x h1 h2 => by omega)) (fun b => Or.inl (fun x h1 h2 => by cases b <;> simp at h2 <;> omega)) (Or.inl (fun x h1 h2 => by omega)) (fun g' hg' => ?_) (pc_eq hI.pl (f.1 13 (by omega)))
  by_cases e : g' = g
  · subst e
    exact Or.inr ⟨h3, by rw [h2]; exact Or.inr ⟨c, Nat.le_refl _, rfl⟩, fun _ => h1⟩
  · exact Or.inl (fun x h1 h2 => by omega)
theorem m_guardI (hI : IM σ n O tx l p) : Ok (f_X10_guard σ) (fun q => GZ q.2 n O ∧ IM q.2 n O tx l p ∧ Fr (fun x => 100 ≤ x) σ q.2) := by
  refine ok_mono (m_guard hI.nm hI.gd) ?_
  rintro q ⟨q1, q2, q3⟩
  refine ⟨q1, ?_, fm_ge q3 (fun x hx => by unfold g5 at hx; omega)⟩
  exact im_mk q3 hI (by omega) (by unfold g5; omega) (tm_fm hI.tm q3 (by omega) (by unfold g5; omega)) (Or.inl ⟨by unfold g5; omega, by unfold g5; omega⟩) (Or.inl ⟨by unfold g5; omega, by unfold g5; omega, by unfold g5; omega⟩) (Or.inr (Or.inr ⟨q2, q1⟩)) (pm_eq hI.pl (fun k h1 h2 => q3.2.1 k (by omega)))
theorem watch (hC : N0 σ n O) (v1 v2 : Int32) : (∃ S g, 0 < S ∧ S < 2 ^ n ∧ g < 2 ∧ v1 = nI S ∧ v2 = nI g ∧ f_X9_isWatch σ v1 v2 = some (nI 1) ∧ ∀ t, NM t n O → f_X10_isSet t v1 = some (nI 1)) ∨ (f_X9_isWatch σ v1 v2 = some (nI 0) ∧ ∀ t, NM t n O → (f_X10_isSet t v1 = some (nI 0)) ∨ (f_X10_isSet t v1 = some (nI 1) ∧ (v1 = nI 0 ∨ (¬ v1 = nI 0 ∧ f_X10_in t v2 (nI 0) (nI 1) = some (nI 0))))) := by
  have h256 := p256 hC.np.h8
  rcases set_dich hC v1 with ⟨S, hS, rfl, d1, d2⟩ | ⟨d1, d2⟩
  · by_cases h0 : S = 0
    · subst h0
      refine Or.inr ⟨?_, fun t ht => Or.inr ⟨d2 t ht, Or.inl rfl⟩⟩
      unfold f_X9_isWatch
      rw [q_0, if_pos rfl]
    · have hne : ¬ nI S = nI 0 := nI_ne (by omega) (by omega) h0
      rcases aR v2 (lo := 0) (hi := 1) (by decide) (by decide) with ⟨g, g1, g2, rfl⟩ | hv
      · refine Or.inl ⟨S, g, by omega, hS, by omega, rfl, rfl, ?_, d2⟩
        unfold f_X9_isWatch
        rw [q_0, q_1, if_neg hne, d1, calP_s, if_neg b_10, if_neg (nI_nlt (Nat.zero_le _) (by omega)), if_neg (nI_nlt g2 (by omega))]
      · refine Or.inr ⟨?_, fun t ht => Or.inr ⟨d2 t ht, Or.inr ⟨hne, in_out hv⟩⟩⟩
        unfold f_X9_isWatch
        rw [q_0, q_1, if_neg hne, d1, calP_s, if_neg b_10]
        rcases hv with hv | ⟨hv1, hv2⟩
        · rw [if_pos hv]
        · rw [if_neg hv1, if_pos hv2]
  · refine Or.inr ⟨?_, fun t ht => Or.inl (d2 t ht)⟩
    unfold f_X9_isWatch
    by_cases h0 : v1 = nI 0
    · rw [q_0, if_pos h0]
    · rw [q_0, if_neg h0, d1, calP_s, if_pos rfl]
theorem st_safe (hI : Inv σ n O c tx l p) (v1 v2 : Int32) {R : Type} {K : St → Option R} {Q : R → Prop} (hK : ∀ t, Inv t n O c tx l p → Ok (K t) Q) : Ok (cal (f_X9_safe σ v1 v2) fun r s1 => cal (f_X10_safe s1 v1 v2) fun r2 s2 => if r = r2 then K s2 else none) Q := by
  have h256 := p256 hI.1.nc.np.h8
  rcases watch hI.1.nc.z v1 v2 with ⟨S, g, h0, hS, hg, rfl, rfl, c1, c2⟩ | ⟨c1, c2⟩
  · have hgu := hI.1.gu g hg
    refine both hI (A := fun x => x = nI (FF g n O S).toNat) (fun x y a b => a.trans b.symm) ?_ (fun t ht' => ?_) hI.2.2 hK
    · unfold f_X9_safe
      rw [c1, calP_s, q_0, q_1, if_neg b_10, y_ck _ hg (by omega), nI_clamp (by omega), bd_s]
      refine ok_cal (e_gholds hI.1.nc hg hgu.1 hgu.2.2 (show S < 256 by omega)) ?_
      rintro r3 s4 ⟨rfl, gp⟩
      obtain ⟨ic, fr⟩ := ic_gp hI.1 hg gp
      show Ok (if nI (FF g n O S).toNat = nI 0 then some (nI 0, s4) else some (nI 1, s4)) _
      cases FF g n O S with
      | true => rw [if_neg b_t0]; exact ok_some ⟨rfl, ic, fr⟩
      | false => rw [if_pos b_f0]; exact ok_some ⟨rfl, ic, fr⟩
    · unfold f_X10_safe
      rw [c2 t ht'.nm, calP_s, q_0, q_1, q_256, if_neg b_10, if_neg (nI_ne (by omega) (by omega) (by omega)), in_ok (Nat.zero_le _) (by omega) (by decide), calP_s, if_neg b_10]
      refine ok_cal (m_guardI ht') ?_
      rintro u s3 ⟨gz, im, fr⟩
      rw [pk_mul, nI_add, y_ck _ (by omega) (by omega), nI_clamp (by omega), gz.2 g hg S (by omega)]
      cases FF g n O S with
      | true => rw [if_neg b_t0]; exact ok_some ⟨rfl, im, fr⟩
      | false => rw [if_pos b_f0]; exact ok_some ⟨rfl, im, fr⟩
  · refine both hI (A := fun x => x = M3) (fun x y a b => a.trans b.symm) ?_ (fun t ht' => ?_) hI.2.2 hK
    · unfold f_X9_safe
      rw [c1, calP_s, q_0, if_pos rfl]
      exact ok_some ⟨rfl, hI.1, fr_refl⟩
    · unfold f_X10_safe
      rcases c2 t ht'.nm with w | ⟨w, y | ⟨y1, y2⟩⟩
      · rw [w, calP_s, q_0, if_pos rfl]; exact ok_some ⟨rfl, ht', fr_refl⟩
      · rw [w, calP_s, q_0, if_neg b_10, if_pos y]; exact ok_some ⟨rfl, ht', fr_refl⟩
      · rw [w, calP_s, q_0, q_1, if_neg b_10, if_neg y1, y2, calP_s, if_pos rfl]; exact ok_some ⟨rfl, ht', fr_refl⟩
theorem st_answer (hI : Inv σ n O c tx l p) (v1 v2 v3 : Int32) {R : Type} {K : St → Option R} {Q : R → Prop} (hK : ∀ t, Inv t n O c tx l p → Ok (K t) Q) : Ok (cal (f_X9_answer σ v1 v2 v3) fun r s1 => cal (f_X10_answer s1 v1 v2 v3) fun r2 s2 => if r = r2 then K s2 else none) Q := by
  have h8 := hI.1.nc.np.h8
  have h256 := p256 h8
  rcases place_dich hI.1.nc.z v3 with ⟨q, hq, rfl, k1⟩ | ⟨k1, k2⟩
  · rcases watch hI.1.nc.z v1 v2 with ⟨S, g, h0, hS, hg, rfl, rfl, c1, c2⟩ | ⟨c1, c2⟩
    · have hgu := hI.1.gu g hg
      cases hb : S.testBit q with
      | true =>
        refine both hI (A := fun x => x = M4) (fun x y a b => a.trans b.symm) ?_ (fun t ht' => ?_) hI.2.2 hK
        · unfold f_X9_answer
          rw [k1, calP_s, q_0, if_neg b_10, c1, calP_s, if_neg b_10, e_has (by omega) (by omega), calP_s, hb, if_neg b_t0]
          exact ok_some ⟨rfl, hI.1, fr_refl⟩
        · unfold f_X10_answer
          rw [e_isPlace ht'.nm (by omega), calP_s, decide_eq_true hq, q_0, q_1, if_neg b_t0, c2 t ht'.nm, calP_s, if_neg b_10, if_neg (nI_ne (by omega) (by omega) (by omega)), in_ok (Nat.zero_le _) (by omega) (by decide), calP_s, if_neg b_10, y_bt (by omega) (by omega), hb, if_pos b_t1]
          exact ok_some ⟨rfl, ht', fr_refl⟩
      | false =>
        obtain ⟨z, hz⟩ : ∃ z, z = fi (anB g O (FF g n O) S q) 256 := ⟨_, rfl⟩
        refine both hI (A := fun x => x = z) (fun x y a b => a.trans b.symm) ?_ (fun t ht' => ?_) hI.2.2 hK
        · unfold f_X9_answer
          rw [k1, calP_s, q_0, if_neg b_10, c1, calP_s, if_neg b_10, e_has (by omega) (by omega), calP_s, hb, if_pos b_f0, y_ck _ hg (by omega), nI_clamp (by omega), bd_s]
          refine ok_cal (e_ganswer hI.1.nc hg hgu.1 hgu.2.2 h0 hS hq) ?_
          rintro r5 s6 ⟨e5, gp⟩
          obtain ⟨ic, fr⟩ := ic_gp hI.1 hg gp
          exact ok_some ⟨e5.trans hz.symm, ic, fr⟩
        · unfold f_X10_answer
          rw [e_isPlace ht'.nm (by omega), calP_s, decide_eq_true hq, q_0, q_1, if_neg b_t0, c2 t ht'.nm, calP_s, if_neg b_10, if_neg (nI_ne (by omega) (by omega) (by omega)), in_ok (Nat.zero_le _) (by omega) (by decide), calP_s, if_neg b_10, y_bt (by omega) (by omega), hb, if_neg b_f1]
          refine ok_cal (m_guardI ht') ?_
          rintro u s4 ⟨gz, im, fr⟩
          rw [m_answerOf im.nm hg (gz.2 g hg) (fun T h => FF_lt h) gz.1 h0 hS hq hb, ← hz, calP_s]
          exact ok_some ⟨rfl, im, fr⟩
    · refine both hI (A := fun x => x = M3) (fun x y a b => a.trans b.symm) ?_ (fun t ht' => ?_) hI.2.2 hK
      · unfold f_X9_answer
        rw [k1, calP_s, q_0, if_neg b_10, c1, calP_s, if_pos rfl]
        exact ok_some ⟨rfl, hI.1, fr_refl⟩
      · unfold f_X10_answer
        rw [e_isPlace ht'.nm (by omega), calP_s, decide_eq_true hq, q_0, q_1, if_neg b_t0]
        rcases c2 t ht'.nm with w | ⟨w, y | ⟨y1, y2⟩⟩
        · rw [w, calP_s, if_pos rfl]; exact ok_some ⟨rfl, ht', fr_refl⟩
        · rw [w, calP_s, if_neg b_10, if_pos y]; exact ok_some ⟨rfl, ht', fr_refl⟩
        · rw [w, calP_s, if_neg b_10, if_neg y1, y2, calP_s, if_pos rfl]; exact ok_some ⟨rfl, ht', fr_refl⟩
  · refine both hI (A := fun x => x = M2) (fun x y a b => a.trans b.symm) ?_ (fun t ht' => ?_) hI.2.2 hK
    · unfold f_X9_answer
      rw [k1, calP_s, q_0, if_pos rfl]
      exact ok_some ⟨rfl, hI.1, fr_refl⟩
    · unfold f_X10_answer
      rw [k2 t ht'.nm, calP_s, q_0, if_pos rfl]
      exact ok_some ⟨rfl, ht', fr_refl⟩
theorem st_guards (hI : Inv σ n O c tx l p) (v1 v2 : Int32) {R : Type} {K : St → Option R} {Q : R → Prop} (hK : ∀ t, Inv t n O c tx l p → Ok (K t) Q) : Ok (cal (f_X9_guards σ v1 v2) fun r s1 => cal (f_X10_guards s1 v1 v2) fun r2 s2 => if r = r2 then K s2 else none) Q := by
  have h8 := hI.1.nc.np.h8
  have h256 := p256 h8
  have h2p := Nat.two_pow_pos n
  rcases aR v1 (lo := 0) (hi := 1) (by decide) (by decide) with ⟨g, g1, g2, rfl⟩ | hv
  · have hg : g < 2 := by omega
    rcases aR v2 (lo := 0) (hi := 2) (by decide) (by decide) with ⟨b, b1, b2, rfl⟩ | hv
    · have hgu := hI.1.gu g hg
      have hls := ls_le (n := n) (FF g n O) (2 ^ n - 1) (by omega)
      have hpc := pc_le (lsS n (FF g n O) (2 ^ n - 1)) 8
      refine both hI (A := fun x => x = if b = 0 then nI (pc (lsS n (FF g n O) (2 ^ n - 1)) 8) else if b = 1 then nI (lsS n (FF g n O) (2 ^ n - 1)) else nI (cnS (FF g n O) (pc (lsS n (FF g n O) (2 ^ n - 1)) 8) (2 ^ n))) (fun x y a b => a.trans b.symm) ?_ (fun t ht' => ?_) hI.2.2 hK
      · unfold f_X9_guards
        rw [q_0, q_1, q_2, if_neg (nI_nlt (Nat.zero_le _) (by omega)), if_neg (nI_nlt g2 (by omega)), if_neg (nI_nlt (Nat.zero_le _) (by omega)), if_neg (nI_nlt b2 (by omega)), y_ck _ hg (by omega), nI_clamp (by omega), bd_s]
        refine ok_cal (e_gleast hI.1.nc hg hgu.1 hgu.2.2) ?_
        rintro r2 s3 ⟨rfl, gp⟩
        obtain ⟨ic, fr⟩ := ic_gp hI.1 hg gp
        rcases (show b = 0 ∨ b = 1 ∨ b = 2 by omega) with rfl | rfl | rfl
        · rw [if_pos rfl, e_bc (by omega), calP_s]
          exact ok_some ⟨rfl, ic, fr⟩
        · rw [if_neg b_10, if_pos rfl]
          exact ok_some ⟨rfl, ic, fr⟩
        · rw [if_neg (show ¬ nI 2 = nI 0 by decide), if_neg (show ¬ nI 2 = nI 1 by decide), e_bc (by omega), calP_s]
          have hgu3 := ic.gu g hg
          refine ok_cal (e_gcount ic.nc hg hgu3.1 hgu3.2.2 hpc) ?_
          rintro r5 s6 ⟨rfl, gp6⟩
          obtain ⟨ic6, fr6⟩ := ic_gp ic hg gp6
          exact ok_some ⟨rfl, ic6, fr_trans fr fr6⟩
      · unfold f_X10_guards
        have hall : nI 1 <<< (nI n &&& 31) = nI (2 ^ n) := by
          simp (disch := omega) only [q_0, q_1, q_2, q_3, q_4, q_5, q_6, q_7, q_8, q_9, q_15, q_16, q_31, q_32, q_48, q_57, q_59, q_63, q_64, q_97, q_100, q_122, q_127, q_160, q_255, q_256, q_512, q_1024, q_2816, q_4096, q_16384, q_1048576, q_m1, q_m2, q_m3, q_m4, q_m5, bd_s, calP_s, cal_s, nI_add, pk_mul, pk_sub, z_and, z_or, z_xor, y_nd, y_shl, y_shr, y_tb, y_ck, nI_ltI, nI_eq, nI_clamp, y_m1a, y_m1b, y_m1c, y_m1d, y_m1e, y_b0, y_b1, y_and255, gsI_o, gsI_s, gsI_2, gsR_o, gsR_s, gsR_2, gsL_1, gsL_o, gsL_s, jn0, jn1, jn2, jn3, jn4, jn5, ↓reduceIte, if_true, if_false, ite_self, ne_eq, not_true_eq_false, not_false_eq_true, and_true, true_and, and_false, false_and, Nat.reduceAdd, Nat.reduceMul, Nat.reduceSub, Nat.reducePow, Nat.reduceLT, Nat.reduceEqDiff, Nat.reduceLeDiff, Nat.not_lt_zero, Nat.add_sub_cancel, Nat.add_zero, Nat.zero_add, pk_div, y_dn, Nat.one_mul, Nat.mul_one, reduceCtorEq, y_pow]
        rw [q_0, q_1, q_2, q_256, in_ok g1 g2 (by decide), calP_s, if_neg b_10, in_ok b1 b2 (by decide), calP_s, if_neg b_10]
        refine ok_cal (m_guardI ht') ?_
        rintro u s3 ⟨gz, im, fr⟩
        rw [im.nm.pl, hall, pk_sub h2p, bd_s, pk_mul]
        refine lo2_for (fun j x => 1 ≤ j ∧ x = nI (lsS n (FF g n O) j)) (2 ^ n) ?_ ?_ FU 1 _ (by omega) (fu_lt (by omega)) ⟨Nat.le_refl _, by rw [ls_1 _ FF_0]⟩
        · rintro rec S x hS ⟨i0, rfl⟩ kk
          have hl := ls_le (n := n) (FF g n O) S (by omega)
          have p1 := pc_le S 8
          have p2 := pc_le (lsS n (FF g n O) S) 8
          rw [lsS] at kk
          rw [if_pos (nI_lt hS (by omega)), nI_add, y_ck _ (by omega) (by omega), nI_clamp (by omega), gz.2 g hg S (by omega), e_bits (by omega), calP_s, e_bits (by omega), calP_s, nI_add]
          cases hb : FF g n O S with
          | false => rw [if_pos b_f0]; exact kk _ ⟨by omega, by rw [if_neg (fun e => by rw [hb] at e; cases e.1)]⟩
          | true =>
            rw [if_neg b_t0]
            by_cases q : pc S 8 < pc (lsS n (FF g n O) S) 8
            · rw [if_pos (nI_lt q (by omega))]; exact kk _ ⟨by omega, by rw [if_pos ⟨hb, q⟩]⟩
            · rw [if_neg (nI_nlt (by omega) (by omega))]; exact kk _ ⟨by omega, by rw [if_neg (fun e => q e.2)]⟩
        · rintro rec x ⟨i0, rfl⟩
          rw [if_neg (nI_nlt (Nat.le_refl _) (by omega)), ls_last h8]
          refine lo2_for (fun j x => 1 ≤ j ∧ x = nI (cnS (FF g n O) (pc (lsS n (FF g n O) (2 ^ n - 1)) 8) j)) (2 ^ n) ?_ ?_ FU 1 _ (by omega) (fu_lt (by omega)) ⟨Nat.le_refl _, by rw [cnS_1 FF_0]⟩
          · rintro rec2 S x hS ⟨j0, rfl⟩ k2
            have p1 := pc_le S 8
            rw [cnS, sm, ← cnS] at k2
            rw [if_pos (nI_lt hS (by omega)), nI_add, y_ck _ (by omega) (by omega), nI_clamp (by omega), gz.2 g hg S (by omega), e_bits (by omega), calP_s, e_bits (by omega), calP_s, bd_s, bd_s, nI_add, nI_add, nI_add]
            cases hb : FF g n O S with
            | false => rw [if_pos b_f0]; exact k2 _ ⟨by omega, by rw [if_neg (fun e => by rw [hb] at e; cases e.1)]⟩
            | true =>
              rw [if_neg b_t0]
              by_cases q : pc S 8 = pc (lsS n (FF g n O) (2 ^ n - 1)) 8
              · rw [if_pos (by rw [q])]; exact k2 _ ⟨by omega, by rw [if_pos ⟨hb, q⟩]⟩
              · rw [if_neg (nI_ne (by omega) (by omega) q)]; exact k2 _ ⟨by omega, by rw [if_neg (fun e => q e.2)]⟩
          · rintro rec2 x ⟨j0, rfl⟩
            rw [if_neg (nI_nlt (Nat.le_refl _) (by omega))]
            rcases (show b = 0 ∨ b = 1 ∨ b = 2 by omega) with rfl | rfl | rfl
            · rw [if_pos rfl, e_bits (by omega), calP_s]; exact ok_some ⟨rfl, im, fr⟩
            · rw [if_neg b_10, if_pos rfl]; exact ok_some ⟨rfl, im, fr⟩
            · rw [if_neg (show ¬ nI 2 = nI 0 by decide), if_neg (show ¬ nI 2 = nI 1 by decide)]; exact ok_some ⟨rfl, im, fr⟩
    · refine both hI (A := fun x => x = M3) (fun x y a b => a.trans b.symm) ?_ (fun t ht' => ?_) hI.2.2 hK
      · unfold f_X9_guards
        rw [q_0, q_1, q_2, if_neg (nI_nlt (Nat.zero_le _) (by omega)), if_neg (nI_nlt g2 (by omega))]
        rcases hv with hv | ⟨hv1, hv2⟩
        · rw [if_pos hv]; exact ok_some ⟨rfl, hI.1, fr_refl⟩
        · rw [if_neg hv1, if_pos hv2]; exact ok_some ⟨rfl, hI.1, fr_refl⟩
      · unfold f_X10_guards
        rw [q_0, q_1, q_2, in_ok g1 g2 (by decide), calP_s, if_neg b_10, in_out hv, calP_s, if_pos rfl]
        exact ok_some ⟨rfl, ht', fr_refl⟩
  · refine both hI (A := fun x => x = M3) (fun x y a b => a.trans b.symm) ?_ (fun t ht' => ?_) hI.2.2 hK
    · unfold f_X9_guards
      rw [q_0, q_1]
      rcases hv with hv | ⟨hv1, hv2⟩
      · rw [if_pos hv]; exact ok_some ⟨rfl, hI.1, fr_refl⟩
      · rw [if_neg hv1, if_pos hv2]; exact ok_some ⟨rfl, hI.1, fr_refl⟩
    · unfold f_X10_guards
      rw [q_0, q_1, in_out hv, calP_s, if_pos rfl]
      exact ok_some ⟨rfl, ht', fr_refl⟩
end CALLS3
