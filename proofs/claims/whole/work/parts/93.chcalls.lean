theorem am_cg {F n a : Nat} {v w : Nat → Nat} (e : ∀ q, q < n → v q = w q) (h : AM F v n a) : AM F w n a := by
  obtain ⟨h1, h2, h3, h4⟩ := h
  refine ⟨h1, h2, fun q hq hF => ?_, fun q hq hF => ?_⟩
  · rw [← e q hq, ← e a h1]; exact h3 q hq hF
  · rw [← e q (by omega), ← e a h1]; exact h4 q hq hF
section CHC
variable {σ s : St} {n c l : Nat} {O tx : Nat → Nat} {p : Pl} {lv : Nat → Nat → Nat} {k sp : Nat}
theorem m_bestOfI (h : IM σ n O tx l p) (hk : k < 3) (h1 : 1 ≤ sp) (h3 : sp ≤ 3) (hl : HL n O k sp lv) : Ok (f_X10_bestOf σ (nI (k + 1)) (nI sp)) (fun q => q.1 = bb n (k + 1) lv (8 ^ (k + 1)) ∧ MT q.2 n O k sp ∧ IM q.2 n O tx l p ∧ Fr (fun x => 100 ≤ x) σ q.2) := by
  unfold f_X10_bestOf
  refine ok_cal (m_reckonI h hk h1 h3) ?_
  rintro u s1 ⟨a1, a2, a3, a4⟩
  refine ok_mono (m_bestLoop a3.nm hk h1 h3 hl a1) ?_
  rintro q ⟨b1, b2⟩
  exact ⟨b1, mt_fr a1 (b2.1 105 (by decide)), im_s a3 b2 (fun x hx => by omega), fr_trans (fm_ge a4 (fun x hx => by omega)) (fr_mono b2 (fun x hx => by omega))⟩
theorem m_huntOfI (h : IM σ n O tx l p) (hk : k < 3) (h1 : 1 ≤ sp) (h3 : sp ≤ 3) (hl : HL n O k sp lv) {r q : Nat} (hr : Sg n (k + 1) r) (hq : q < n) : Ok (f_X10_huntOf σ (nI (k + 1)) (nI sp) (nI r) (nI q)) (fun x => (∃ out, x.1 = nI out ∧ HM n O sp k lv q r (8 ^ (k + 1)) out) ∧ IM x.2 n O tx l p ∧ Fm (fun c => 104 ≤ c ∧ c ≤ 109) (fun _ => False) σ x.2) := by
  unfold f_X10_huntOf
  refine ok_cal (m_reckonI h hk h1 h3) ?_
  rintro u s1 ⟨a1, a2, a3, a4⟩
  refine ok_mono (m_huntLoop a3.nm hk h1 h3 hl a1 a2 hr hq) ?_
  rintro x ⟨b1, b2⟩
  exact ⟨b1, im_s a3 b2 scr_ok, fm_frr a4 (fr_mono b2 (fun x hx => by unfold scr at hx; omega)) (by omega)⟩
theorem m_fleeOfI (h : IM σ n O tx l p) (hk : k < 3) (h1 : 1 ≤ sp) (h3 : sp ≤ 3) (hl : HL n O k sp lv) {r q : Nat} (hr : Sg n (k + 1) r) (hq : q < n) (hb : (plc (dgs (k + 1) r)).testBit q = false) : Ok (f_X10_fleeOf σ (nI (k + 1)) (nI sp) (nI r) (nI q)) (fun x => (∃ a, x.1 = nI a ∧ AM (flB O (plc (dgs (k + 1) r)) sp (2 ^ q)) (lv r) n a) ∧ IM x.2 n O tx l p ∧ Fm (fun c => 104 ≤ c ∧ c ≤ 109) (fun _ => False) σ x.2) := by
  have h8 := h.nm.np.h8
  have hn1 := h.nm.np.h1
  have h512 := p8_le k hk
  have hr1 := hr.1.1
  have hfl : flS O sp (k + 1) r q = flB O (plc (dgs (k + 1) r)) sp (2 ^ q) := by unfold flS; rw [hb, if_neg (by decide)]
  have hF8 : flB O (plc (dgs (k + 1) r)) sp (2 ^ q) < 256 := Nat.lt_of_lt_of_le (flB_lt h.nm.np _ sp (Nat.pow_lt_pow_right (by decide) hq)) (p256 h8)
  have hself : (flB O (plc (dgs (k + 1) r)) sp (2 ^ q)).testBit q = true := (flB_tb h.nm.np _ q sp q).mpr (pa_self h.nm.np hq hb sp)
  unfold f_X10_fleeOf
  refine ok_cal (m_reckonI h hk h1 h3) ?_
  rintro u s1 ⟨a1, a2, a3, a4⟩
  rw [show (8 : Int32) = nI 8 from rfl, pk_mul, nI_add, y_ck _ (by omega) (by omega), nI_clamp (by omega), a2 r q hr hq, hfl, bd_s, a3.nm.pl, show (nI n - (1 : Int32)) = nI (n - 1) from pk_sub hn1, bd_s]
  refine ok_mono (m_fleeLoop a3.nm hk h1 h3 hl a1 hr hF8 hq hself) ?_
  rintro x ⟨b1, b2⟩
  rw [b1]
  exact ⟨b2, a3, a4⟩
theorem st_rounds (hI : Inv σ n O c tx l p) (hc : c < 100000) (v1 v2 v3 v4 : Int32) {R : Type} {K : St → Option R} {Q : R → Prop} (hK : ∀ t, Inv t n O c tx l p → Ok (K t) Q) : Ok (cal (f_X9_rounds σ v1 v2 v3 v4) fun r s1 => cal (f_X10_rounds s1 v1 v2 v3 v4) fun r2 s2 => if r = r2 then K s2 else none) Q := by
  rcases stand hI.1 v1 v2 v3 v4 with ⟨e, c1, c2, c3⟩ | ⟨k, sp, q, hk, s1, s3, hq, ht, rfl, rfl, rfl, c1, c3⟩
  · refine both hI (A := fun x => x = e) (fun x y a b => a.trans b.symm) ?_ (fun t ht => c3 t _ ht) hI.2.2 hK
    unfold f_X9_rounds
    rw [c1, calP_s, q_0, if_neg c2]
    exact ok_some ⟨rfl, hI.1, fr_refl⟩
  · have hN := hI.1.nc.np
    have h8 := hN.h8
    obtain ⟨lv, hl⟩ := hl_ex hN hk sp
    have hd : (3 * k + sp - 1) / 3 = k := by omega
    have htl := tlR_vr h8 ht
    have hsg := sg_srt hk htl
    have h512 := p8_le k hk
    refine both hI (A := fun x => x = mv (lv (tlR v2 (k + 1)) q)) (fun x y a b => a.trans b.symm) ?_ (fun t ht' => c3 t _ _ ht' (fun s3' i3 f3 => ?_)) hI.2.2 hK
    · unfold f_X9_rounds
      rw [c1, calP_s, q_0, if_pos rfl]
      refine ok_cal (e_chase hI.1 hc hk s1 s3) ?_
      rintro i s3' ⟨rfl, cx, ct, ic, fr⟩
      rw [ckN_s _ (by omega), e_sets hk, calP_s, ckN_s _ hk, e_told ic.st ic.nc.z hk, calP_s, ht, if_pos rfl, e_roundsFrom cx (by rw [hd]; exact hl) ct (by rw [hd]; exact htl) hq, calP_s]
      exact ok_some ⟨rfl, ic, fr_mono fr (fun x hx => hx.2)⟩
    · refine ok_cal (m_reckonI i3 hk s1 s3) ?_
      rintro u s5 ⟨a1, a2, a3, a4⟩
      have hs := hsg.1.1
      rw [e_at hk s1 s3 (by omega) (by omega), calP_s, y_ck _ (by omega) (by omega), nI_clamp (by omega), mt_lv hl a1 hsg hq, hl_srt hl hk htl hq]
      exact ok_some ⟨rfl, a3, fr_trans f3 (fm_ge a4 (fun x hx => by omega))⟩
theorem st_worth (hI : Inv σ n O c tx l p) (hc : c < 100000) (v1 v2 v3 : Int32) {R : Type} {K : St → Option R} {Q : R → Prop} (hK : ∀ t, Inv t n O c tx l p → Ok (K t) Q) : Ok (cal (f_X9_worth σ v1 v2 v3) fun r s1 => cal (f_X10_worth s1 v1 v2 v3) fun r2 s2 => if r = r2 then K s2 else none) Q := by
  have hN := hI.1.nc.np
  have h8 := hN.h8
  rcases isch v1 v3 with ⟨⟨k, sp, hk, s1, s3, rfl, rfl⟩, c1, c2⟩ | ⟨c1, c2⟩
  · have h512 := p8_le k hk
    have hd : (3 * k + sp - 1) / 3 = k := by omega
    cases ht : tlB n v2 (k + 1) with
    | false =>
      refine both hI (A := fun x => x = M2) (fun x y a b => a.trans b.symm) ?_ (fun t ht' => ?_) hI.2.2 hK
      · unfold f_X9_worth
        rw [q_mm, c1, calP_s, q_0, if_neg b_10, e_sets hk, calP_s, ckN_s _ hk, e_told hI.1.st hI.1.nc.z hk, calP_s, ht, if_neg (show ¬ false = true by decide), if_pos rfl]
        exact ok_some ⟨rfl, hI.1, fr_refl⟩
      · unfold f_X10_worth
        rw [q_mm, c2, calP_s, q_0, if_neg b_10]
        refine ok_cal (m_told ht'.nm hk v2) ?_
        rintro r2 s3' ⟨rfl, f3⟩
        rw [ht, if_neg (show ¬ false = true by decide), if_pos rfl]
        exact ok_some ⟨rfl, im_s ht' f3 scr_ok, fr_sc f3 scr_ok⟩
    | true =>
      have htl := tlR_vr h8 ht
      have htl1 := htl.1
      have hsg := sg_srt hk htl
      have hs := hsg.1.1
      obtain ⟨lv, hl⟩ := hl_ex hN hk sp
      have hw : wt n lv (srt (k + 1) (tlR v2 (k + 1))) = wt n lv (tlR v2 (k + 1)) := by
        unfold wt
        have : ∀ m, m ≤ n → bmx (2 ^ n - 1) (lv (srt (k + 1) (tlR v2 (k + 1)))) m = bmx (2 ^ n - 1) (lv (tlR v2 (k + 1))) m := by
          intro m
          induction m with
          | zero => intro _; rfl
          | succ m ih => intro hm; rw [bmx, bmx, ih (by omega), hl_srt hl hk htl (by omega)]
        exact this n (Nat.le_refl _)
      refine both hI (A := fun x => x = mv (wt n lv (tlR v2 (k + 1)))) (fun x y a b => a.trans b.symm) ?_ (fun t ht' => ?_) hI.2.2 hK
      · unfold f_X9_worth
        rw [q_mm, c1, calP_s, q_0, if_neg b_10, e_sets hk, calP_s, ckN_s _ hk, e_told hI.1.st hI.1.nc.z hk, calP_s, ht, if_pos rfl, if_neg (nI_mm (by omega))]
        refine ok_cal (e_chase hI.1 hc hk s1 s3) ?_
        rintro i s3' ⟨rfl, cx, ct, ic, fr⟩
        rw [ckN_s _ (by omega), e_mostFrom cx (by rw [hd]; exact hl) ct (by rw [hd]; exact htl), calP_s]
        exact ok_some ⟨rfl, ic, fr_mono fr (fun x hx => hx.2)⟩
      · unfold f_X10_worth
        rw [q_mm, c2, calP_s, q_0, if_neg b_10]
        refine ok_cal (m_told ht'.nm hk v2) ?_
        rintro r2 s3' ⟨rfl, f3⟩
        have i3 := im_s ht' f3 scr_ok
        rw [ht, if_pos rfl, if_neg (nI_mm (by omega))]
        refine ok_cal (m_reckonI i3 hk s1 s3) ?_
        rintro u s4 ⟨a1, a2, a3, a4⟩
        rw [m_worthOf a3.nm hk s1 s3 hl a1 hsg, calP_s, hw]
        exact ok_some ⟨rfl, a3, fr_trans (fr_sc f3 scr_ok) (fm_ge a4 (fun x hx => by omega))⟩
  · refine both hI (A := fun x => x = M3) (fun x y a b => a.trans b.symm) ?_ (fun t ht' => ?_) hI.2.2 hK
    · unfold f_X9_worth
      rw [c1, calP_s, q_0, if_pos rfl]
      exact ok_some ⟨rfl, hI.1, fr_refl⟩
    · unfold f_X10_worth
      rw [c2, calP_s, q_0, if_pos rfl]
      exact ok_some ⟨rfl, ht', fr_refl⟩
theorem st_escapes (hI : Inv σ n O c tx l p) (hc : c < 100000) (v1 v2 : Int32) {R : Type} {K : St → Option R} {Q : R → Prop} (hK : ∀ t, Inv t n O c tx l p → Ok (K t) Q) : Ok (cal (f_X9_escapes σ v1 v2) fun r s1 => cal (f_X10_escapes s1 v1 v2) fun r2 s2 => if r = r2 then K s2 else none) Q := by
  have hN := hI.1.nc.np
  rcases isch v1 v2 with ⟨⟨k, sp, hk, s1, s3, rfl, rfl⟩, c1, c2⟩ | ⟨c1, c2⟩
  · have hd : (3 * k + sp - 1) / 3 = k := by omega
    obtain ⟨lv, hl⟩ := hl_ex hN hk sp
    refine both hI (A := fun x => x = nI (es n (k + 1) lv (8 ^ (k + 1)))) (fun x y a b => a.trans b.symm) ?_ (fun t ht' => ?_) hI.2.2 hK
    · unfold f_X9_escapes
      rw [c1, calP_s, q_0, if_neg b_10]
      refine ok_cal (e_chase hI.1 hc hk s1 s3) ?_
      rintro i s3' ⟨rfl, cx, ct, ic, fr⟩
      rw [ckN_s _ (by omega), e_countEndless cx (by rw [hd]; exact hl) ct, calP_s, hd]
      exact ok_some ⟨rfl, ic, fr_mono fr (fun x hx => hx.2)⟩
    · unfold f_X10_escapes
      rw [c2, calP_s, if_neg (show ¬ nI 1 = 0 by decide)]
      refine ok_cal (m_reckonI ht' hk s1 s3) ?_
      rintro u s4 ⟨a1, a2, a3, a4⟩
      refine ok_mono (m_escLoop a3.nm hk s1 s3 hl a1) ?_
      rintro q ⟨b1, b2⟩
      exact ⟨b1, im_s a3 b2 (fun x hx => by omega), fr_trans (fm_ge a4 (fun x hx => by omega)) (fr_mono b2 (fun x hx => by omega))⟩
  · refine both hI (A := fun x => x = M3) (fun x y a b => a.trans b.symm) ?_ (fun t ht' => ?_) hI.2.2 hK
    · unfold f_X9_escapes
      rw [c1, calP_s, q_0, if_pos rfl]
      exact ok_some ⟨rfl, hI.1, fr_refl⟩
    · unfold f_X10_escapes
      rw [c2, calP_s, if_pos (show nI 0 = 0 from rfl)]
      exact ok_some ⟨rfl, ht', fr_refl⟩
theorem st_best (hI : Inv σ n O c tx l p) (hc : c < 100000) (v1 v2 v3 : Int32) {R : Type} {K : St → Option R} {Q : R → Prop} (hK : ∀ t, Inv t n O c tx l p → Ok (K t) Q) : Ok (cal (f_X9_best σ v1 v2 v3) fun r s1 => cal (f_X10_best s1 v1 v2 v3) fun r2 s2 => if r = r2 then K s2 else none) Q := by
  have hN := hI.1.nc.np
  rcases isch v1 v2 with ⟨⟨k, sp, hk, s1, s3, rfl, rfl⟩, c1, c2⟩ | ⟨c1, c2⟩
  · have hd : (3 * k + sp - 1) / 3 = k := by omega
    have h512 := p8_le k hk
    obtain ⟨lv, hl⟩ := hl_ex hN hk sp
    rcases aR v3 (lo := 0) (hi := 1) (by decide) (by decide) with ⟨b, b1, b2, rfl⟩ | hv
    · have bi := bb_inv (n := n) (lv := lv) (k + 1) (8 ^ (k + 1))
      refine both hI (A := fun x => x = if b = 0 then bb n (k + 1) lv (8 ^ (k + 1)) else mv (bl n (k + 1) lv (8 ^ (k + 1)))) (fun x y a b => a.trans b.symm) ?_ (fun t ht' => ?_) hI.2.2 hK
      · unfold f_X9_best
        rw [q_mm, c1, calP_s, q_0, q_1, if_neg b_10, if_neg (nI_nlt (Nat.zero_le _) (by omega)), if_neg (nI_nlt b2 (by omega))]
        refine ok_cal (e_chase hI.1 hc hk s1 s3) ?_
        rintro i s3' ⟨rfl, cx, ct, ic, fr⟩
        rw [ckN_s _ (by omega), e_bestSetting cx (by rw [hd]; exact hl) ct, calP_s, hd]
        have fr' : Fr (fun x => x < 100) σ s3' := fr_mono fr (fun x hx => hx.2)
        rcases (show b = 0 ∨ b = 1 by omega) with rfl | rfl
        · rw [if_pos rfl]; exact ok_some ⟨by rw [if_pos rfl], ic, fr'⟩
        · rw [if_neg b_10]
          rcases bi with ⟨e1, e2⟩ | ⟨r, e1, e2, e3, e4, e5⟩
          · rw [e1, if_pos rfl]; exact ok_some ⟨by rw [if_neg (by decide), e2, mv_e], ic, fr'⟩
          · rw [e3, if_neg (nI_mm (by omega)), e_mostFrom cx (by rw [hd]; exact hl) ct (by rw [hd]; exact e2.1), calP_s]
            exact ok_some ⟨by rw [if_neg (by decide), e4]; rfl, ic, fr'⟩
      · unfold f_X10_best
        rw [q_mm, c2, calP_s, q_0, q_1, if_neg b_10, in_ok b1 b2 (by decide), calP_s, if_neg b_10]
        refine ok_cal (m_bestOfI ht' hk s1 s3 hl) ?_
        rintro r3 s4 ⟨rfl, a1, a2, a3⟩
        rcases (show b = 0 ∨ b = 1 by omega) with rfl | rfl
        · rcases bi with ⟨e1, e2⟩ | ⟨r, e1, e2, e3, e4, e5⟩
          · rw [e1, if_pos rfl]; exact ok_some ⟨by rw [if_pos rfl], a2, a3⟩
          · rw [e3, if_neg (nI_mm (by omega)), if_pos rfl]; exact ok_some ⟨by rw [if_pos rfl], a2, a3⟩
        · rcases bi with ⟨e1, e2⟩ | ⟨r, e1, e2, e3, e4, e5⟩
          · rw [e1, if_pos rfl]; exact ok_some ⟨by rw [if_neg (by decide), e2, mv_e], a2, a3⟩
          · rw [e3, if_neg (nI_mm (by omega)), if_neg b_10, m_worthOf a2.nm hk s1 s3 hl a1 e2, calP_s]
            exact ok_some ⟨by rw [if_neg (by decide), e4], a2, a3⟩
    · refine both hI (A := fun x => x = M3) (fun x y a b => a.trans b.symm) ?_ (fun t ht' => ?_) hI.2.2 hK
      · unfold f_X9_best
        rw [c1, calP_s, q_0, q_1, if_neg b_10]
        rcases hv with hv | ⟨hv1, hv2⟩
        · rw [if_pos hv]; exact ok_some ⟨rfl, hI.1, fr_refl⟩
        · rw [if_neg hv1, if_pos hv2]; exact ok_some ⟨rfl, hI.1, fr_refl⟩
      · unfold f_X10_best
        rw [c2, calP_s, q_0, q_1, if_neg b_10, in_out hv, calP_s, if_pos rfl]
        exact ok_some ⟨rfl, ht', fr_refl⟩
  · refine both hI (A := fun x => x = M3) (fun x y a b => a.trans b.symm) ?_ (fun t ht' => ?_) hI.2.2 hK
    · unfold f_X9_best
      rw [c1, calP_s, q_0, if_pos rfl]
      exact ok_some ⟨rfl, hI.1, fr_refl⟩
    · unfold f_X10_best
      rw [c2, calP_s, q_0, if_pos rfl]
      exact ok_some ⟨rfl, ht', fr_refl⟩
end CHC
