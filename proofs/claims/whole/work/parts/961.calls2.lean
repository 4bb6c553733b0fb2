section CALLS2
variable {σ s : St} {n c l : Nat} {O tx : Nat → Nat} {p : Pl}
theorem neg_nd {v : Int32} {A : Nat} (h : v < nI 0) (hA : A < 256) : ¬ v &&& (nI A ^^^ M1) = nI 0 := by
  intro e
  have hv : v.toBitVec.getLsbD 31 = true := by
    rw [Int32.lt_iff_toInt_lt] at h
    have e1 : (nI 0).toInt = 0 := by decide
    rw [e1] at h
    have h2 : v.toBitVec.toInt < 0 := h
    have h3 : v.toBitVec.msb = true := by
      rw [BitVec.msb_eq_toInt]
      exact decide_eq_true h2
    rw [BitVec.msb_eq_getLsbD_last] at h3
    exact h3
  have hb := congrArg (fun x => Int32.toBitVec x |>.getLsbD 31) e
  simp only [Int32.toBitVec_and, Int32.toBitVec_xor, BitVec.getLsbD_and, BitVec.getLsbD_xor] at hb
  have e2 : (nI A).toBitVec.getLsbD 31 = false := by
    show (BitVec.ofNat 32 A).getLsbD 31 = false
    rw [BitVec.getLsbD_ofNat, tb_ge (n := 8) hA (by decide)]
    rfl
  have e3 : M1.toBitVec.getLsbD 31 = true := by decide
  have e4 : (nI 0).toBitVec.getLsbD 31 = false := by decide
  rw [hv, e2, e3, e4] at hb
  cases hb
theorem set_dich (hC : N0 σ n O) (v : Int32) : (∃ S, S < 2 ^ n ∧ v = nI S ∧ f_X3_holdsAll σ v = some (nI 1) ∧ ∀ t, NM t n O → f_X10_isSet t v = some (nI 1)) ∨ (f_X3_holdsAll σ v = some (nI 0) ∧ ∀ t, NM t n O → f_X10_isSet t v = some (nI 0)) := by
  have h8 := hC.np.h8
  have h256 := p256 h8
  have h2 := Nat.two_pow_pos n
  have hall : nI 1 <<< (nI n &&& 31) - nI 1 = nI (2 ^ n - 1) := by
    simp (disch := omega) only [q_0, q_1, q_2, q_3, q_4, q_5, q_6, q_7, q_8, q_9, q_15, q_16, q_31, q_32, q_48, q_57, q_59, q_63, q_64, q_97, q_100, q_122, q_127, q_160, q_255, q_256, q_512, q_1024, q_2816, q_4096, q_16384, q_1048576, q_m1, q_m2, q_m3, q_m4, q_m5, bd_s, calP_s, cal_s, nI_add, pk_mul, pk_sub, z_and, z_or, z_xor, y_nd, y_shl, y_shr, y_tb, y_ck, nI_ltI, nI_eq, nI_clamp, y_m1a, y_m1b, y_m1c, y_m1d, y_m1e, y_b0, y_b1, y_and255, gsI_o, gsI_s, gsI_2, gsR_o, gsR_s, gsR_2, gsL_1, gsL_o, gsL_s, jn0, jn1, jn2, jn3, jn4, jn5, ↓reduceIte, if_true, if_false, ite_self, ne_eq, not_true_eq_false, not_false_eq_true, and_true, true_and, and_false, false_and, Nat.reduceAdd, Nat.reduceMul, Nat.reduceSub, Nat.reducePow, Nat.reduceLT, Nat.reduceEqDiff, Nat.reduceLeDiff, Nat.not_lt_zero, Nat.add_sub_cancel, Nat.add_zero, Nat.zero_add, pk_div, y_dn, Nat.one_mul, Nat.mul_one, reduceCtorEq, y_pow]
  rcases i_cases v with h | ⟨S, hS, rfl⟩
  · refine Or.inr ⟨?_, fun t ht => ?_⟩
    · unfold f_X3_holdsAll
      rw [e_all hC, calP_s, q_mm, q_0, if_neg (neg_nd h (by omega))]
    · unfold f_X10_isSet
      rw [ht.pl, q_0, q_1, hall, e_in_neg h, calP_s, show ckZ (nI 0) = ckZ (nI false.toNat) from rfl, y_ckZ]
  · by_cases g : S < 2 ^ n
    · refine Or.inl ⟨S, g, rfl, by rw [e_holdsAll hC hS, decide_eq_true g]; rfl, fun t ht => ?_⟩
      unfold f_X10_isSet
      rw [ht.pl, q_0, q_1, hall, in_ok (Nat.zero_le _) (by omega) (by omega), calP_s, show ckZ (nI 1) = ckZ (nI true.toNat) from rfl, y_ckZ]
    · refine Or.inr ⟨by rw [e_holdsAll hC hS, decide_eq_false g]; rfl, fun t ht => ?_⟩
      unfold f_X10_isSet
      rw [ht.pl, q_0, q_1, hall, e_in hS (by decide) (by omega), decide_eq_false (by omega), calP_s, y_ckZ]
      rfl
theorem st_spread (hI : Inv σ n O c tx l p) (v1 v2 v3 : Int32) {R : Type} {K : St → Option R} {Q : R → Prop} (hK : ∀ t, Inv t n O c tx l p → Ok (K t) Q) : Ok (calP (f_X9_spread σ v1 v2 v3) fun r => cal (f_X10_spread σ v1 v2 v3) fun r2 s2 => if r = r2 then K s2 else none) Q := by
  have h8 := hI.1.nc.np.h8
  have h256 := p256 h8
  rcases aR v1 (lo := 1) (hi := 2) (by decide) (by decide) with ⟨k', k1, k2, rfl⟩ | hv
  · obtain ⟨k, rfl⟩ : ∃ k, k' = k + 1 := ⟨k' - 1, by omega⟩
    have hk : k < 3 := by omega
    have h512 := p8_le k hk
    rcases set_dich hI.1.nc.z v3 with ⟨S, hS, rfl, d1, d2⟩ | ⟨d1, d2⟩
    · cases ht : tlB n v2 (k + 1) with
      | false =>
        refine bothPM hI (A := fun x => x = M2) (fun x y a b => a.trans b.symm) ?_ ?_ hK
        · unfold f_X9_spread
          rw [q_mm, q_0, q_1, q_2, if_neg (nI_nlt k1 (by omega)), if_neg (nI_nlt k2 (by omega)), d1, calP_s, if_neg b_10, e_sets hk, calP_s, ckN_s _ hk, e_told hI.1.st hI.1.nc.z hk, calP_s, ht, if_neg (show ¬ false = true by decide), if_pos rfl]
          exact ok_some rfl
        · unfold f_X10_spread
          rw [q_mm, q_0, q_1, q_2, in_ok k1 k2 (by decide), calP_s, if_neg b_10, d2 σ hI.2.1.nm, calP_s, if_neg b_10]
          refine ok_cal (m_told hI.2.1.nm hk v2) ?_
          rintro r3 s4 ⟨rfl, f4⟩
          rw [ht, if_neg (show ¬ false = true by decide), if_pos rfl]
          exact ok_some ⟨rfl, im_s hI.2.1 f4 scr_ok, fr_sc f4 scr_ok⟩
      | true =>
        have htl := tlR_vr h8 ht
        have htl1 := htl.1
        have hsg := sg_srt hk htl
        have hs := hsg.1.1
        refine bothPM hI (A := fun x => x = nI (sprd O k (tlR v2 (k + 1)) S)) (fun x y a b => a.trans b.symm) ?_ ?_ hK
        · unfold f_X9_spread
          rw [q_mm, q_0, q_1, q_2, if_neg (nI_nlt k1 (by omega)), if_neg (nI_nlt k2 (by omega)), d1, calP_s, if_neg b_10, e_sets hk, calP_s, ckN_s _ hk, e_told hI.1.st hI.1.nc.z hk, calP_s, ht, if_pos rfl, if_neg (nI_mm (by omega)), calP_s, ckN_s _ hk, e_placesOf hI.1.st hk htl1, calP_s, e_leftBehind hI.1.nc (by omega), calP_s]
          exact ok_some rfl
        · unfold f_X10_spread
          rw [q_mm, q_0, q_1, q_2, in_ok k1 k2 (by decide), calP_s, if_neg b_10, d2 σ hI.2.1.nm, calP_s, if_neg b_10]
          refine ok_cal (m_told hI.2.1.nm hk v2) ?_
          rintro r3 s4 ⟨rfl, f4⟩
          have i4 := im_s hI.2.1 f4 scr_ok
          rw [ht, if_pos rfl, if_neg (nI_mm (by omega))]
          refine ok_cal (m_placesOf hk hs) ?_
          rintro r5 s6 ⟨rfl, f6⟩
          have i6 := im_s i4 f6 (fun x hx => by omega)
          rw [plc_srt hk htl1, m_spreadOf i6.nm (by omega), calP_s]
          exact ok_some ⟨rfl, i6, fr_trans (fr_sc f4 scr_ok) (fr_mono f6 (fun x hx => by omega))⟩
    · refine bothPM hI (A := fun x => x = M3) (fun x y a b => a.trans b.symm) ?_ ?_ hK
      · unfold f_X9_spread
        rw [q_0, q_1, q_2, if_neg (nI_nlt k1 (by omega)), if_neg (nI_nlt k2 (by omega)), d1, calP_s, if_pos rfl]
        exact ok_some rfl
      · unfold f_X10_spread
        rw [q_0, q_1, q_2, in_ok k1 k2 (by decide), calP_s, if_neg b_10, d2 σ hI.2.1.nm, calP_s, if_pos rfl]
        exact ok_some ⟨rfl, hI.2.1, fr_refl⟩
  · refine bothPM hI (A := fun x => x = M3) (fun x y a b => a.trans b.symm) ?_ ?_ hK
    · unfold f_X9_spread
      rw [q_1, q_2]
      rcases hv with hv | ⟨hv1, hv2⟩
      · rw [if_pos hv]; exact ok_some rfl
      · rw [if_neg hv1, if_pos hv2]; exact ok_some rfl
    · unfold f_X10_spread
      rw [q_0, q_1, q_2, in_out hv, calP_s, if_pos rfl]
      exact ok_some ⟨rfl, hI.2.1, fr_refl⟩
theorem ic_un (hI : IC σ n O c tx l p) {k : Nat} (hk : k < 2) {v : Int32} (f : Fr (fun c => 14 ≤ c ∧ c ≤ 17) σ s) (h1 : UT s n O k v) (h4 : s.1 14 4 = nI k) (h9 : s.1 14 9 = v) (h8 : s.1 14 8 = nI c) : IC s n O c tx l p := by
  refine ic_mk f hI (fun x hx => by omega) (fun x h1 h2 => by omega) (tcx_eq hI.tc (by rw [f.1 6 (by omega)]) (f.1 7 (by omega))) (fun i hi => Or.inl (fun x h1 h2 => by omega)) (fun b => Or.inl (fun x h1 h2 => by omega)) (Or.inr ⟨by rw [h8]; exact Or.inr ⟨c, Nat.le_refl _, rfl⟩, k, hk, h4, fun _ => ?_⟩) (fun g hg => Or.inl (fun x h1 h2 => by omega)) (pc_eq hI.pl (f.1 13 (by omega)))
  rw [h9]; exact h1
theorem im_fc (hI : IM σ n O tx l p) (f : Fm fcP (fun j => j = 27) σ s) : IM s n O tx l p := im_mk f hI (by omega) (by unfold fcP; omega) (tm_fm hI.tm f (by omega) (by unfold fcP; omega)) (Or.inl ⟨by unfold fcP; omega, by unfold fcP; omega⟩) (Or.inl ⟨by unfold fcP; omega, by unfold fcP; omega, by unfold fcP; omega⟩) (Or.inl ⟨by omega, by unfold fcP; omega, by unfold fcP; omega⟩) (pm_eq hI.pl (fun k h1 h2 => f.2.1 k (by omega)))
theorem st_clear (hI : Inv σ n O c tx l p) (v1 v2 v3 : Int32) {R : Type} {K : St → Option R} {Q : R → Prop} (hK : ∀ t, Inv t n O c tx l p → Ok (K t) Q) : Ok (cal (f_X9_clear σ v1 v2 v3) fun r s1 => cal (f_X10_clear s1 v1 v2 v3) fun r2 s2 => if r = r2 then K s2 else none) Q := by
  have hN := hI.1.nc.np
  have h8 := hN.h8
  rcases aR v1 (lo := 1) (hi := 2) (by decide) (by decide) with ⟨k', k1, k2, rfl⟩ | hv
  · obtain ⟨k, rfl⟩ : ∃ k, k' = k + 1 := ⟨k' - 1, by omega⟩
    have hk : k < 3 := by omega
    have hk2 : k < 2 := by omega
    have h512 := p8_le k hk
    rcases ge_m1 v3 with h3 | ⟨h3, hv3⟩
    · refine both hI (A := fun x => x = M3) (fun x y a b => a.trans b.symm) ?_ (fun t ht' => ?_) hI.2.2 hK
      · unfold f_X9_clear
        rw [q_mm, q_1, q_2, if_neg (nI_nlt k1 (by omega)), if_neg (nI_nlt k2 (by omega)), if_pos h3]
        exact ok_some ⟨rfl, hI.1, fr_refl⟩
      · unfold f_X10_clear
        rw [q_mm, q_0, q_1, q_2, in_ok k1 k2 (by decide), calP_s, if_neg b_10, if_pos h3]
        exact ok_some ⟨rfl, ht', fr_refl⟩
    · cases ht : tlB n v2 (k + 1) with
      | false =>
        refine both hI (A := fun x => x = M2) (fun x y a b => a.trans b.symm) ?_ (fun t ht' => ?_) hI.2.2 hK
        · unfold f_X9_clear
          rw [q_mm, q_1, q_2, if_neg (nI_nlt k1 (by omega)), if_neg (nI_nlt k2 (by omega)), if_neg h3, e_sets hk, calP_s, ckN_s _ hk, e_told hI.1.st hI.1.nc.z hk, calP_s, ht, if_neg (show ¬ false = true by decide), if_pos rfl]
          exact ok_some ⟨rfl, hI.1, fr_refl⟩
        · unfold f_X10_clear
          rw [q_mm, q_0, q_1, q_2, in_ok k1 k2 (by decide), calP_s, if_neg b_10, if_neg h3]
          refine ok_cal (m_told ht'.nm hk v2) ?_
          rintro r2 s3 ⟨rfl, f3⟩
          rw [ht, if_neg (show ¬ false = true by decide), if_pos rfl]
          exact ok_some ⟨rfl, im_s ht' f3 scr_ok, fr_sc f3 scr_ok⟩
      | true =>
        have htl := tlR_vr h8 ht
        have htl1 := htl.1
        have hsg := sg_srt hk htl
        have hs := hsg.1.1
        have hw : nI (srt (k + 1) (tlR v2 (k + 1))) = M1 ∨ ∃ r, Sg n (k + 1) r ∧ r < 2 ^ 31 ∧ nI (srt (k + 1) (tlR v2 (k + 1))) = nI r := Or.inr ⟨_, hsg, by omega, rfl⟩
        refine both hI (A := CA (BL n O k (PP n k (nI (srt (k + 1) (tlR v2 (k + 1)))))) v3) (fun x y => ca_fun) ?_ (fun t ht' => ?_) hI.2.2 hK
        · unfold f_X9_clear
          rw [q_mm, q_1, q_2, if_neg (nI_nlt k1 (by omega)), if_neg (nI_nlt k2 (by omega)), if_neg h3, e_sets hk, calP_s, ckN_s _ hk, e_told hI.1.st hI.1.nc.z hk, calP_s, ht, if_pos rfl, if_neg (nI_mm (by omega)), calP_s, ckN_s _ hk, calP_s, ckN_s _ hk, e_rising hI.1.st hk htl1, calP_s]
          refine ok_cal (e_search hk2 hI.1.nc hI.1.st hI.1.un.2 hw) ?_
          rintro u s6 ⟨u1, u2, u3, u4, u5⟩
          have ic := ic_un hI.1 hk2 u5 u1 u2 u3 u4
          refine ok_mono (e_cl hk2 hN hw u1 hv3) ?_
          rintro q ⟨q1, q2⟩
          rw [q2]
          exact ⟨q1, ic, fr_mono u5 (fun x hx => by omega)⟩
        · unfold f_X10_clear
          rw [q_mm, q_0, q_1, q_2, in_ok k1 k2 (by decide), calP_s, if_neg b_10, if_neg h3]
          refine ok_cal (m_told ht'.nm hk v2) ?_
          rintro r2 s3 ⟨rfl, f3⟩
          have i3 := im_s ht' f3 scr_ok
          rw [ht, if_pos rfl, if_neg (nI_mm (by omega))]
          refine ok_cal (m_findClear i3.nm hk2 hsg) ?_
          rintro u s4 ⟨w1, w2⟩
          have i4 := im_fc i3 w2
          rw [q_256]
          refine ok_mono (m_cl hk2 hN hw w1 hv3) ?_
          rintro q ⟨q1, q2⟩
          rw [q2]
          exact ⟨q1, i4, fr_trans (fr_sc f3 scr_ok) (fm_ge w2 (fun x hx => by unfold fcP at hx; omega))⟩
  · refine both hI (A := fun x => x = M3) (fun x y a b => a.trans b.symm) ?_ (fun t ht' => ?_) hI.2.2 hK
    · unfold f_X9_clear
      rw [q_1, q_2]
      rcases hv with hv | ⟨hv1, hv2⟩
      · rw [if_pos hv]; exact ok_some ⟨rfl, hI.1, fr_refl⟩
      · rw [if_neg hv1, if_pos hv2]; exact ok_some ⟨rfl, hI.1, fr_refl⟩
    · unfold f_X10_clear
      rw [q_0, q_1, q_2, in_out hv, calP_s, if_pos rfl]
      exact ok_some ⟨rfl, ht', fr_refl⟩
theorem st_free (hI : Inv σ n O c tx l p) (v1 v2 : Int32) {R : Type} {K : St → Option R} {Q : R → Prop} (hK : ∀ t, Inv t n O c tx l p → Ok (K t) Q) : Ok (cal (f_X9_free σ v1 v2) fun r s1 => cal (f_X10_free s1 v1 v2) fun r2 s2 => if r = r2 then K s2 else none) Q := by
  have hN := hI.1.nc.np
  rcases aR v1 (lo := 1) (hi := 2) (by decide) (by decide) with ⟨k', k1, k2, rfl⟩ | hv
  · obtain ⟨k, rfl⟩ : ∃ k, k' = k + 1 := ⟨k' - 1, by omega⟩
    have hk : k < 3 := by omega
    have hk2 : k < 2 := by omega
    rcases aR v2 (lo := 0) (hi := 1) (by decide) (by decide) with ⟨b, b1, b2, rfl⟩ | hv
    · refine both hI (A := fun z => ∃ x y, FW n O k x y ∧ z = if b = 0 then x else y) (fun x y a d => ?_) ?_ (fun t ht' => ?_) hI.2.2 hK
      · obtain ⟨x1, y1, w1, rfl⟩ := a
        obtain ⟨x2, y2, w2, rfl⟩ := d
        obtain ⟨rfl, rfl⟩ := fw_fun w1 w2
        rfl
      · unfold f_X9_free
        rw [q_mm, q_0, q_1, q_2, if_neg (nI_nlt k1 (by omega)), if_neg (nI_nlt k2 (by omega)), if_neg (nI_nlt (Nat.zero_le _) (by omega)), if_neg (nI_nlt b2 (by omega)), e_sets hk, calP_s, ckN_s _ hk]
        refine ok_cal (e_search hk2 hI.1.nc hI.1.st hI.1.un.2 (Or.inl rfl)) ?_
        rintro u s2 ⟨u1, u2, u3, u4, u5⟩
        have ic := ic_un hI.1 hk2 u5 u1 u2 u3 u4
        have fr' : Fr (fun x => x < 100) σ s2 := fr_mono u5 (fun x hx => by omega)
        obtain ⟨x, y, w1, w2, w3⟩ := e_fr hk2 hN u1
        unfold f_X8_length
        rcases (show b = 0 ∨ b = 1 by omega) with rfl | rfl
        · rw [if_pos rfl, show f_X8_settingAt s2 (nI 0) = some x from w1, calP_s]
          exact ok_some ⟨⟨x, y, w3, by rw [if_pos rfl]⟩, ic, fr'⟩
        · rw [if_neg b_10, show s2.1 14 7 = y from w2, calP_s]
          exact ok_some ⟨⟨x, y, w3, by rw [if_neg (by decide)]⟩, ic, fr'⟩
      · refine ok_mono (m_free ht'.nm hk2 (ht'.fr k hk2) (show b < 2 by omega)) ?_
        rintro q ⟨q1, q2, q3⟩
        refine ⟨q1, ?_, fm_ge q3.f (fun x hx => by unfold frP at hx; omega)⟩
        refine im_mk q3.f ht' (by omega) (by unfold frP; omega) (tm_fm ht'.tm q3.f (by omega) (by unfold frP; omega)) (Or.inl ⟨by unfold frP; omega, by unfold frP; omega⟩) (Or.inr (fun k' hk' => ?_)) (Or.inl ⟨by omega, by unfold frP; omega, by unfold frP; omega⟩) (pm_eq ht'.pl (fun k h1 h2 => q3.f.2.1 k (by omega)))
        by_cases e : k' = k
        · subst e; exact Or.inr q2
        · rw [q3.o2 _ (by omega), q3.o3 _ (by omega), q3.o4 _ (by omega)]
          exact ht'.fr k' hk'
    · refine both hI (A := fun x => x = M3) (fun x y a b => a.trans b.symm) ?_ (fun t ht' => ?_) hI.2.2 hK
      · unfold f_X9_free
        rw [q_0, q_1, q_2, if_neg (nI_nlt k1 (by omega)), if_neg (nI_nlt k2 (by omega))]
        rcases hv with hv | ⟨hv1, hv2⟩
        · rw [if_pos hv]; exact ok_some ⟨rfl, hI.1, fr_refl⟩
        · rw [if_neg hv1, if_pos hv2]; exact ok_some ⟨rfl, hI.1, fr_refl⟩
      · unfold f_X10_free
        rw [q_0, q_1, q_2, in_ok k1 k2 (by decide), calP_s, if_neg b_10, in_out hv, calP_s, if_pos rfl]
        exact ok_some ⟨rfl, ht', fr_refl⟩
  · refine both hI (A := fun x => x = M3) (fun x y a b => a.trans b.symm) ?_ (fun t ht' => ?_) hI.2.2 hK
    · unfold f_X9_free
      rw [q_1, q_2]
      rcases hv with hv | ⟨hv1, hv2⟩
      · rw [if_pos hv]; exact ok_some ⟨rfl, hI.1, fr_refl⟩
      · rw [if_neg hv1, if_pos hv2]; exact ok_some ⟨rfl, hI.1, fr_refl⟩
    · unfold f_X10_free
      rw [q_0, q_1, q_2, in_out hv, calP_s, if_pos rfl]
      exact ok_some ⟨rfl, ht', fr_refl⟩
theorem st_flying (hI : Inv σ n O c tx l p) (sn : Bool) (v : Int32) {R : Type} {K : St → Option R} {Q : R → Prop} (hK : ∀ t, Inv t n O c tx l p → Ok (K t) Q) : Ok (cal (f_X9_flying σ (nI sn.toNat) v) fun r s1 => cal (f_X10_flying s1 (nI sn.toNat) v) fun r2 s2 => if r = r2 then K s2 else none) Q := by
  rcases ge_m1 v with h3 | ⟨h3, hv3⟩
  · refine both hI (A := fun x => x = M3) (fun x y a b => a.trans b.symm) ?_ (fun t ht' => ?_) hI.2.2 hK
    · unfold f_X9_flying
      rw [q_mm, if_pos h3]
      exact ok_some ⟨rfl, hI.1, fr_refl⟩
    · unfold f_X10_flying
      rw [q_mm, if_pos h3]
      exact ok_some ⟨rfl, ht', fr_refl⟩
  · have hsn : sn.toNat < 2 := by cases sn <;> decide
    refine both hI (A := FA n (cst n O sn) v) (fun x y => fa_fun) ?_ (fun t ht' => ?_) hI.2.2 hK
    · have ho := hI.1.or sn
      refine ok_mono (e_flying hI.1.nc ho.1 ho.2.2 hv3) ?_
      rintro q ⟨q1, q2, q3, q4, q5⟩
      refine ⟨q1, ?_, fr_mono q5 (fun x hx => by omega)⟩
      refine ic_mk q5 hI.1 (fun x hx => by omega) (fun x h1 h2 => by omega) (tcx_eq hI.1.tc (by rw [q5.1 6 (by omega)]) (q5.1 7 (by omega))) (fun i hi => Or.inl (fun x h1 h2 => by omega)) (fun b => ?_) (Or.inl (fun x h1 h2 => by omega)) (fun g hg => Or.inl (fun x h1 h2 => by omega)) (pc_eq hI.1.pl (q5.1 13 (by omega)))
      by_cases e : b = sn
      · subst e
        exact Or.inr ⟨q4, by rw [q3]; exact Or.inr ⟨c, Nat.le_refl _, rfl⟩, fun _ => q2⟩
      · left
        intro x h1 h2
        have hb : b.toNat ≠ sn.toNat := by
          cases b <;> cases sn <;> simp at e ⊢
        have hb2 : b.toNat < 2 := by cases b <;> decide
        omega
    · refine ok_mono (m_flying ht'.nm hv3) ?_
      rintro q ⟨q1, q2⟩
      exact ⟨q1, im_s ht' q2 (fun x hx => by omega), fr_mono q2 (fun x hx => by omega)⟩
end CALLS2
