section CHD
variable {σ s : St} {n c l : Nat} {O tx : Nat → Nat} {p : Pl}
theorem st_fewest (hI : Inv σ n O c tx l p) (hc : c < 100000) (v1 : Int32) {R : Type} {K : St → Option R} {Q : R → Prop} (hK : ∀ t, Inv t n O c tx l p → Ok (K t) Q) : Ok (cal (f_X9_fewest σ v1) fun r s1 => cal (f_X10_fewest s1 v1) fun r2 s2 => if r = r2 then K s2 else none) Q := by
  have hN := hI.1.nc.np
  rcases aR v1 (lo := 1) (hi := 3) (by decide) (by decide) with ⟨sp, s1, s3, rfl⟩ | hv
  · have hlv : ∃ lvs : Nat → Nat → Nat → Nat, ∀ k, k < 3 → HL n O k sp (lvs k) := by
      obtain ⟨a, ha⟩ := hl_ex hN (k := 0) (by decide) sp
      obtain ⟨b, hb⟩ := hl_ex hN (k := 1) (by decide) sp
      obtain ⟨d, hd⟩ := hl_ex hN (k := 2) (by decide) sp
      refine ⟨fun k => if k = 0 then a else if k = 1 then b else d, fun k hk => ?_⟩
      rcases (show k = 0 ∨ k = 1 ∨ k = 2 by omega) with rfl | rfl | rfl
      · exact ha
      · exact hb
      · exact hd
    obtain ⟨lvs, hl⟩ := hlv
    refine both hI (A := fun x => x = if fsN (fun j => !decide (bb n (j + 1) (lvs j) (8 ^ (j + 1)) = M1)) 3 < 3 then nI (fsN (fun j => !decide (bb n (j + 1) (lvs j) (8 ^ (j + 1)) = M1)) 3 + 1) else M1) (fun x y a b => a.trans b.symm) ?_ (fun t ht' => ?_) hI.2.2 hK
    · unfold f_X9_fewest
      rw [q_mm, q_1, q_3, if_neg (nI_nlt s1 (by omega)), if_neg (nI_nlt s3 (by omega))]
      refine lo2_for (fun j s => 1 ≤ j ∧ (∀ q, q < j - 1 → (fun j => !decide (bb n (j + 1) (lvs j) (8 ^ (j + 1)) = M1)) q = false) ∧ IC s n O c tx l p ∧ Fr (fun x => x < 100) σ s) 4 ?_ ?_ FU 1 _ (by omega) (fu_lt (by omega)) ⟨Nat.le_refl _, fs_nil, hI.1, fr_refl⟩
      · rintro rec j s hj ⟨i0, i1, i2, i3⟩ kk
        obtain ⟨k, rfl⟩ : ∃ k, j = k + 1 := ⟨j - 1, by omega⟩
        rw [Nat.add_sub_cancel] at i1
        have hd : (3 * k + sp - 1) / 3 = k := by omega
        have h512 := p8_le k (by omega)
        rw [if_neg (nI_nlt (by omega) (by omega))]
        refine ok_cal (e_chase i2 hc (by omega) s1 s3) ?_
        rintro i s6 ⟨rfl, cx, ct, ic, fr⟩
        rw [ckN_s _ (by omega), e_bestSetting cx (by rw [hd]; exact hl k (by omega)) ct, calP_s, hd, nI_add]
        have fr' : Fr (fun x => x < 100) σ s6 := fr_trans i3 (fr_mono fr (fun x hx => hx.2))
        by_cases g : bb n (k + 1) (lvs k) (8 ^ (k + 1)) = M1
        · rw [if_pos g]
          exact kk _ ⟨by omega, by rw [Nat.add_sub_cancel]; exact fs_ext i1 (by rw [decide_eq_true g]; rfl), ic, fr'⟩
        · rw [if_neg g]
          have hf := fs_hit (f := fun j => !decide (bb n (j + 1) (lvs j) (8 ^ (j + 1)) = M1)) (n := 3) (show k < 3 by omega) i1 (by rw [decide_eq_false g]; rfl)
          exact ok_some ⟨by rw [hf, if_pos (by omega)], ic, fr'⟩
      · rintro rec s ⟨i0, i1, i2, i3⟩
        rw [if_pos (nI_lt (by omega) (by omega))]
        exact ok_some ⟨by rw [fs_miss i1, if_neg (Nat.lt_irrefl _)], i2, i3⟩
    · unfold f_X10_fewest
      rw [q_mm, q_0, q_1, q_3, q_4, in_ok s1 s3 (by decide), calP_s, if_neg b_10]
      refine lo2_for (fun j s => 1 ≤ j ∧ (∀ q, q < j - 1 → (fun j => !decide (bb n (j + 1) (lvs j) (8 ^ (j + 1)) = M1)) q = false) ∧ IM s n O tx l p ∧ Fr (fun x => 100 ≤ x) t s) 4 ?_ ?_ FU 1 _ (by omega) (fu_lt (by omega)) ⟨Nat.le_refl _, fs_nil, ht', fr_refl⟩
      · rintro rec j s hj ⟨i0, i1, i2, i3⟩ kk
        obtain ⟨k, rfl⟩ : ∃ k, j = k + 1 := ⟨j - 1, by omega⟩
        rw [Nat.add_sub_cancel] at i1
        rw [if_pos (nI_lt hj (by omega))]
        refine ok_cal (m_bestOfI i2 (by omega) s1 s3 (hl k (by omega))) ?_
        rintro r6 s7 ⟨rfl, a1, a2, a3⟩
        rw [nI_add]
        by_cases g : bb n (k + 1) (lvs k) (8 ^ (k + 1)) = M1
        · rw [if_pos g]
          exact kk _ ⟨by omega, by rw [Nat.add_sub_cancel]; exact fs_ext i1 (by rw [decide_eq_true g]; rfl), a2, fr_trans i3 a3⟩
        · rw [if_neg g]
          have hf := fs_hit (f := fun j => !decide (bb n (j + 1) (lvs j) (8 ^ (j + 1)) = M1)) (n := 3) (show k < 3 by omega) i1 (by rw [decide_eq_false g]; rfl)
          exact ok_some ⟨by rw [hf, if_pos (by omega)], a2, fr_trans i3 a3⟩
      · rintro rec s ⟨i0, i1, i2, i3⟩
        rw [if_neg (nI_nlt (Nat.le_refl _) (by omega))]
        exact ok_some ⟨by rw [fs_miss i1, if_neg (Nat.lt_irrefl _)], i2, i3⟩
  · refine both hI (A := fun x => x = M3) (fun x y a b => a.trans b.symm) ?_ (fun t ht' => ?_) hI.2.2 hK
    · unfold f_X9_fewest
      rw [q_1, q_3]
      rcases hv with hv | ⟨hv1, hv2⟩
      · rw [if_pos hv]; exact ok_some ⟨rfl, hI.1, fr_refl⟩
      · rw [if_neg hv1, if_pos hv2]; exact ok_some ⟨rfl, hI.1, fr_refl⟩
    · unfold f_X10_fewest
      rw [q_0, q_1, q_3, in_out hv, calP_s, if_pos rfl]
      exact ok_some ⟨rfl, ht', fr_refl⟩
theorem plc_srt {k r : Nat} (hk : k < 3) (hr : r < 8 ^ (k + 1)) : plc (dgs (k + 1) (srt (k + 1) r)) = plc (dgs (k + 1) r) := (plc_perm (srt_perm (by omega) (by omega) hr)).symm
theorem plc_mem {k r q : Nat} (hk : k < 3) (hq : q < 8) : (plc (dgs (k + 1) r)).testBit q = false ↔ q ∉ dgs (k + 1) r := by
  rw [plc_tb, decide_eq_true hq, Bool.true_and]
  exact decide_eq_false_iff_not
theorem st_hunt (hI : Inv σ n O c tx l p) (hc : c < 100000) (v1 v2 v3 v4 : Int32) {R : Type} {K : St → Option R} {Q : R → Prop} (hK : ∀ t, Inv t n O c tx l p → Ok (K t) Q) : Ok (cal (f_X9_hunt σ v1 v2 v3 v4) fun r s1 => cal (f_X10_hunt s1 v1 v2 v3 v4) fun r2 s2 => if r = r2 then K s2 else none) Q := by
  rcases stand hI.1 v1 v2 v3 v4 with ⟨e, c1, c2, c3⟩ | ⟨k, sp, q, hk, s1, s3, hq, ht, rfl, rfl, rfl, c1, c3⟩
  · refine both hI (A := fun x => x = e) (fun x y a b => a.trans b.symm) ?_ (fun t ht => c3 t _ ht) hI.2.2 hK
    unfold f_X9_hunt
    rw [c1, calP_s, q_0, if_neg c2]
    exact ok_some ⟨rfl, hI.1, fr_refl⟩
  · have hN := hI.1.nc.np
    have h8 := hN.h8
    obtain ⟨lv, hl⟩ := hl_ex hN hk sp
    have hd : (3 * k + sp - 1) / 3 = k := by omega
    have htl := tlR_vr h8 ht
    have htl1 := htl.1
    have hsg := sg_srt hk htl
    have hs := hsg.1.1
    have h512 := p8_le k hk
    have hpl : plc (dgs (k + 1) (tlR v2 (k + 1))) < 2 ^ 31 := Nat.lt_trans (plc_lt _) (by decide)
    cases hb : (plc (dgs (k + 1) (tlR v2 (k + 1)))).testBit q with
    | true =>
      refine both hI (A := fun x => x = M4) (fun x y a b => a.trans b.symm) ?_ (fun t ht' => c3 t _ _ ht' (fun s3' i3 f3 => ?_)) hI.2.2 hK
      · unfold f_X9_hunt
        rw [c1, calP_s, q_0, if_pos rfl, e_sets hk, calP_s, ckN_s _ hk, e_told hI.1.st hI.1.nc.z hk, calP_s, ht, if_pos rfl, calP_s, ckN_s _ hk, e_holds hI.1.st hk htl1 (by omega), calP_s, hb, if_neg b_t0]
        exact ok_some ⟨rfl, hI.1, fr_refl⟩
      · refine ok_cal (m_placesOf hk hs) ?_
        rintro r5 s6 ⟨rfl, f6⟩
        rw [plc_srt hk htl1, q_1, y_bt hpl (by omega), hb, if_pos b_t1]
        exact ok_some ⟨rfl, im_s i3 f6 (fun x hx => by omega), fr_trans f3 (fr_mono f6 (fun x hx => by omega))⟩
    | false =>
      refine both hI (A := fun x => ∃ out, x = nI out ∧ HM n O sp k lv q (srt (k + 1) (tlR v2 (k + 1))) (8 ^ (k + 1)) out) (fun x y a b => ?_) ?_ (fun t ht' => c3 t _ _ ht' (fun s3' i3 f3 => ?_)) hI.2.2 hK
      · obtain ⟨o1, rfl, w1⟩ := a
        obtain ⟨o2, rfl, w2⟩ := b
        rw [hm_fun w1 w2]
      · unfold f_X9_hunt
        rw [c1, calP_s, q_0, if_pos rfl, e_sets hk, calP_s, ckN_s _ hk, e_told hI.1.st hI.1.nc.z hk, calP_s, ht, if_pos rfl, calP_s, ckN_s _ hk, e_holds hI.1.st hk htl1 (by omega), calP_s, hb, if_pos b_f0]
        refine ok_cal (e_chase hI.1 hc hk s1 s3) ?_
        rintro i s7 ⟨rfl, cx, ct, ic, fr⟩
        rw [ckN_s _ (by omega)]
        refine ok_calP (e_bestMove cx (by rw [hd]; exact hl) ct (by rw [hd]; exact htl) hq) ?_
        rintro r8 ⟨out, rfl, hm⟩
        rw [hd] at hm
        exact ok_some ⟨⟨out, rfl, hm_srt hl hN hk htl hm⟩, ic, fr_mono fr (fun x hx => hx.2)⟩
      · refine ok_cal (m_placesOf hk hs) ?_
        rintro r5 s6 ⟨rfl, f6⟩
        rw [plc_srt hk htl1, q_1, y_bt hpl (by omega), hb, if_neg b_f1]
        refine ok_cal (m_huntOfI (im_s i3 f6 (fun x hx => by omega)) hk s1 s3 hl hsg hq) ?_
        rintro r7 s8 ⟨a1, a2, a3⟩
        exact ok_some ⟨a1, a2, fr_trans f3 (fr_trans (fr_mono f6 (fun x hx => by omega)) (fm_ge a3 (fun x hx => by omega)))⟩
theorem st_flee (hI : Inv σ n O c tx l p) (hc : c < 100000) (v1 v2 v3 v4 : Int32) {R : Type} {K : St → Option R} {Q : R → Prop} (hK : ∀ t, Inv t n O c tx l p → Ok (K t) Q) : Ok (cal (f_X9_flee σ v1 v2 v3 v4) fun r s1 => cal (f_X10_flee s1 v1 v2 v3 v4) fun r2 s2 => if r = r2 then K s2 else none) Q := by
  rcases stand hI.1 v1 v2 v3 v4 with ⟨e, c1, c2, c3⟩ | ⟨k, sp, q, hk, s1, s3, hq, ht, rfl, rfl, rfl, c1, c3⟩
  · refine both hI (A := fun x => x = e) (fun x y a b => a.trans b.symm) ?_ (fun t ht => c3 t _ ht) hI.2.2 hK
    unfold f_X9_flee
    rw [c1, calP_s, q_0, if_neg c2]
    exact ok_some ⟨rfl, hI.1, fr_refl⟩
  · have hN := hI.1.nc.np
    have h8 := hN.h8
    obtain ⟨lv, hl⟩ := hl_ex hN hk sp
    have hd : (3 * k + sp - 1) / 3 = k := by omega
    have htl := tlR_vr h8 ht
    have htl1 := htl.1
    have hsg := sg_srt hk htl
    have hs := hsg.1.1
    have h512 := p8_le k hk
    have hpl : plc (dgs (k + 1) (tlR v2 (k + 1))) < 2 ^ 31 := Nat.lt_trans (plc_lt _) (by decide)
    cases hb : (plc (dgs (k + 1) (tlR v2 (k + 1)))).testBit q with
    | true =>
      refine both hI (A := fun x => x = M4) (fun x y a b => a.trans b.symm) ?_ (fun t ht' => c3 t _ _ ht' (fun s3' i3 f3 => ?_)) hI.2.2 hK
      · unfold f_X9_flee
        rw [c1, calP_s, q_0, if_pos rfl, e_sets hk, calP_s, ckN_s _ hk, e_told hI.1.st hI.1.nc.z hk, calP_s, ht, if_pos rfl, calP_s, ckN_s _ hk, e_holds hI.1.st hk htl1 (by omega), calP_s, hb, if_neg b_t0]
        exact ok_some ⟨rfl, hI.1, fr_refl⟩
      · refine ok_cal (m_placesOf hk hs) ?_
        rintro r5 s6 ⟨rfl, f6⟩
        rw [plc_srt hk htl1, q_1, y_bt hpl (by omega), hb, if_pos b_t1]
        exact ok_some ⟨rfl, im_s i3 f6 (fun x hx => by omega), fr_trans f3 (fr_mono f6 (fun x hx => by omega))⟩
    | false =>
      refine both hI (A := fun x => ∃ a, x = nI a ∧ AM (flB O (plc (dgs (k + 1) (tlR v2 (k + 1)))) sp (2 ^ q)) (lv (tlR v2 (k + 1))) n a) (fun x y a b => ?_) ?_ (fun t ht' => c3 t _ _ ht' (fun s3' i3 f3 => ?_)) hI.2.2 hK
      · obtain ⟨o1, rfl, w1⟩ := a
        obtain ⟨o2, rfl, w2⟩ := b
        rw [am_fun w1 w2]
      · unfold f_X9_flee
        rw [c1, calP_s, q_0, if_pos rfl, e_sets hk, calP_s, ckN_s _ hk, e_told hI.1.st hI.1.nc.z hk, calP_s, ht, if_pos rfl, calP_s, ckN_s _ hk, e_holds hI.1.st hk htl1 (by omega), calP_s, hb, if_pos b_f0]
        refine ok_cal (e_chase hI.1 hc hk s1 s3) ?_
        rintro i s7 ⟨rfl, cx, ct, ic, fr⟩
        rw [ckN_s _ (by omega)]
        refine ok_calP (e_bestFlight cx (by rw [hd]; exact hl) ct (by rw [hd]; exact htl) hq (by rw [hd]; exact (plc_mem hk (by omega)).mp hb)) ?_
        rintro r8 ⟨a, rfl, hm⟩
        rw [hd] at hm
        exact ok_some ⟨⟨a, rfl, hm⟩, ic, fr_mono fr (fun x hx => hx.2)⟩
      · refine ok_cal (m_placesOf hk hs) ?_
        rintro r5 s6 ⟨rfl, f6⟩
        rw [plc_srt hk htl1, q_1, y_bt hpl (by omega), hb, if_neg b_f1]
        refine ok_cal (m_fleeOfI (im_s i3 f6 (fun x hx => by omega)) hk s1 s3 hl hsg hq (by rw [plc_srt hk htl1]; exact hb)) ?_
        rintro r7 s8 ⟨⟨a, a0, a1⟩, a2, a3⟩
        rw [plc_srt hk htl1] at a1
        exact ok_some ⟨⟨a, a0, am_cg (fun q' hq' => hl_srt hl hk htl hq') a1⟩, a2, fr_trans f3 (fr_trans (fr_mono f6 (fun x hx => by omega)) (fm_ge a3 (fun x hx => by omega)))⟩
theorem st_play (hI : Inv σ n O c tx l p) (v1 v2 v3 v4 : Int32) {R : Type} {K : St → Option R} {Q : R → Prop} (hK : ∀ t p', Inv t n O c tx l p' → Ok (K t) Q) : Ok (cal (f_X9_play σ v1 v2 v3 v4) fun r s1 => cal (f_X10_play s1 v1 v2 v3 v4) fun r2 s2 => if r = r2 then K s2 else none) Q := by
  rcases stand hI.1 v1 v2 v3 v4 with ⟨e, c1, c2, c3⟩ | ⟨k, sp, q, hk, s1, s3, hq, ht, rfl, rfl, rfl, c1, c3⟩
  · refine both hI (A := fun x => x = e) (fun x y a b => a.trans b.symm) ?_ (fun t ht => c3 t _ ht) hI.2.2 (fun t ht => hK t p ht)
    unfold f_X9_play
    rw [c1, calP_s, q_0, if_neg c2]
    exact ok_some ⟨rfl, hI.1, fr_refl⟩
  · have hN := hI.1.nc.np
    have h8 := hN.h8
    have htl := tlR_vr h8 ht
    have htl1 := htl.1
    have hsg := sg_srt hk htl
    refine both hI (A := fun x => x = nI 1) (p' := (true, k, sp, srt (k + 1) (tlR v2 (k + 1)), q, 0)) (fun x y a b => a.trans b.symm) ?_ (fun t ht' => c3 t _ _ ht' (fun s3' i3 f3 => ?_)) (fun _ => ⟨hk, s1, s3, hsg, hq⟩) (fun t ht => hK t _ ht)
    · unfold f_X9_play f_X5_begin
      rw [c1, calP_s, q_0, q_1, if_pos rfl, e_sets hk, calP_s, ckN_s _ hk, calP_s, ckN_s _ hk, e_told hI.1.st hI.1.nc.z hk, calP_s, ht, if_pos rfl, e_rising hI.1.st hk htl1, calP_s, bd_s, bd_s, bd_s, bd_s, bd_s, bd_s, cal_s]
      have f : Fr (fun x => x = 13) σ (setI (setI (setI (setI (setI (setI σ 13 0 (nI 1)) 13 1 (nI (k + 1))) 13 2 (nI sp)) 13 3 (nI (srt (k + 1) (tlR v2 (k + 1))))) 13 4 (nI q)) 13 5 (nI 0)) := fr_setI (fr_setI (fr_setI (fr_setI (fr_setI (fr_setI fr_refl rfl) rfl) rfl) rfl) rfl) rfl
      refine ok_some ⟨rfl, ?_, fr_mono f (fun x hx => by omega)⟩
      refine ic_mk f hI.1 (fun x hx => by omega) (fun x h1 h2 => by omega) (tcx_eq hI.1.tc (by rw [f.1 6 (by omega)]) (f.1 7 (by omega))) (fun i hi => Or.inl (fun x h1 h2 => by omega)) (fun b => Or.inl (fun x h1 h2 => by omega)) (Or.inl (fun x h1 h2 => by omega)) (fun g hg => Or.inl (fun x h1 h2 => by omega)) ⟨?_, ?_, fun _ => ⟨?_, ?_, ?_, ?_⟩⟩
      · simp only [gsI_s]; rfl
      · simp only [gsI_s]; rfl
      · simp only [gsI_s]; rfl
      · simp only [gsI_s]; rfl
      · simp only [gsI_s]; rfl
      · simp only [gsI_s]; rfl
    · rw [bd_s, bd_s, bd_s, bd_s, bd_s, bd_s, q_0, q_1]
      have f : Fm noC (fun k => 19 ≤ k ∧ k ≤ 24) s3' (setI (setI (setI (setI (setI (setI s3' 100 24 (nI 1)) 100 19 (nI (k + 1))) 100 20 (nI sp)) 100 21 (nI (srt (k + 1) (tlR v2 (k + 1))))) 100 22 (nI q)) 100 23 (nI 0)) := fm_set (fm_set (fm_set (fm_set (fm_set (fm_set fm_refl (by omega)) (by omega)) (by omega)) (by omega)) (by omega)) (by omega)
      refine ok_some ⟨rfl, ?_, fr_trans f3 (fm_ge f (fun x hx => hx.elim))⟩
      refine im_mk f i3 (by omega) id (tm_fm i3.tm f (by omega) id) (Or.inl ⟨id, id⟩) (Or.inl ⟨id, id, id⟩) (Or.inl ⟨by omega, id, id⟩) ⟨?_, ?_, fun _ => ⟨?_, ?_, ?_, ?_⟩⟩
      · simp only [gsI_s]; rfl
      · simp only [gsI_s]; rfl
      · simp only [gsI_s]; rfl
      · simp only [gsI_s]; rfl
      · simp only [gsI_s]; rfl
      · simp only [gsI_s]; rfl
end CHD
