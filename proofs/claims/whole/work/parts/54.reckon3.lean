/-! the reference's chase is reckoned -/
section RECKON3
variable {σ : St} {n k s : Nat} {O : Nat → Nat}
theorem m_reckon (hN : NM σ n O) (hk : k < 3) (h1 : 1 ≤ s) (h3 : s ≤ 3) (hM : σ.1 104 (3 * k + s - 1) = nI 1 → MT σ n O k s) (hZ : σ.1 104 (3 * k + s - 1) = nI 0 ∨ σ.1 104 (3 * k + s - 1) = nI 1) : Ok (f_X10_reckon σ (nI (k + 1)) (nI s)) (fun q => MT q.2 n O k s ∧ FLT q.2 n O (k + 1) s ∧ q.2.1 104 (3 * k + s - 1) = nI 1 ∧ (∀ x, x ≠ 3 * k + s - 1 → q.2.1 104 x = σ.1 104 x) ∧ Ko (4096 * (3 * k + s - 1)) σ q.2 ∧ Fr (fun c => 104 ≤ c ∧ c ≤ 109) σ q.2) := by
  have h8 := hN.np.h8
  have h512 := p8_le k hk
  unfold f_X10_reckon
  refine ok_cal (m_findFlights hN hk h3) (fun _ s1 ⟨w1, w2⟩ => ?_)
  dsimp only at w1 w2
  have f1 : Fr (fun c => 104 ≤ c ∧ c ≤ 109) σ s1 := fr_mono w2 (fun c hc => by omega)
  have hix : nI 3 * (nI (k + 1) - nI 1) + nI s - nI 1 = nI (3 * k + s - 1) := by
    rw [pk_sub (by omega), pk_mul, nI_add, pk_sub (by omega), Nat.add_sub_cancel]
  have h104 : s1.1 104 = σ.1 104 := w2.1 _ (by omega)
  have h105 : s1.1 105 = σ.1 105 := w2.1 _ (by omega)
  rw [q_3, q_1, hix, y_ck _ (by omega) (by omega), nI_clamp (by omega), h104, q_0]
  rcases hZ with hz | hz
  · rw [if_pos hz, y_ck _ (by omega) (by omega), bd_s]
    have f2 : Fr (fun c => 104 ≤ c ∧ c ≤ 109) σ (setI s1 104 (3 * k + s - 1) (nI 1)) := fr_setI f1 (by omega)
    have hFL2 : FLT (setI s1 104 (3 * k + s - 1) (nI 1)) n O (k + 1) s := fun h p hs hp => by rw [gsI_o (by omega)]; exact w1 h p hs hp
    have hi1 : (setI s1 104 (3 * k + s - 1) (nI 1)).1 104 (3 * k + s - 1) = nI 1 := by rw [gsI_s, if_pos rfl]
    have hi2 : ∀ x, x ≠ 3 * k + s - 1 → (setI s1 104 (3 * k + s - 1) (nI 1)).1 104 x = σ.1 104 x := fun x hx => by rw [gsI_s, if_neg hx, h104]
    have hi5 : (setI s1 104 (3 * k + s - 1) (nI 1)).1 105 = σ.1 105 := by rw [gsI_o (by omega)]; exact h105
    generalize setI s1 104 (3 * k + s - 1) (nI 1) = s2 at *
    have hN2 := nm_fr hN f2 (by omega) (by omega)
    refine m_reck0 hN2 hk h1 h3 (K := fun s3 => lo3 FU _ s3 (nI 1) (nI 1)) (fun s3 i1 i2 i3 => ?_)
    obtain ⟨T, hT1, hT2⟩ := stat_ex (O := O) hN.np hk s
    refine lo3_ok (fun x b y => ∃ t v, ∃ bb : Bool, t ≤ T + 1 ∧ y = nI (t + 1) ∧ b = nI bb.toNat ∧ LFT x n k s v ∧ (∀ h p, Sg n (k + 1) h → p < n → LvT O s t (dgs (k + 1) h) p (v h p)) ∧ (bb = true → t ≤ T) ∧ (bb = false → ∀ t' h p, Sg n (k + 1) h → p < n → Su O s t' (dgs (k + 1) h) p → Su O s t (dgs (k + 1) h) p) ∧ Ko (4096 * (3 * k + s - 1)) s2 x ∧ Fr (fun c => c = 105 ∨ c = 107 ∨ c = 108 ∨ c = 109) s2 x) (fun x b y => 10000 - y.toNatClampNeg) ?_ FU _ _ _ ⟨0, fun h p => if p ∈ dgs (k + 1) h then 0 else 1048576, true, by omega, rfl, rfl, ?_, ?_, fun _ => Nat.zero_le _, (fun e => Bool.noConfusion e), i2, fr_mono i3 (fun c hc => by omega)⟩ (fu_lt (by omega))
    · rintro rec x b y ⟨t, v, bb, ht, rfl, rfl, hL, hv, hb1, hb0, hko, hF⟩ kk
      cases hbb : bb with
      | false =>
        rw [if_pos (show nI false.toNat = nI 0 from rfl)]
        refine ok_some ⟨fun h p hs hp => ⟨v h p, (hL h p hs hp).2, lvT_fin (by omega) (hv h p hs hp) (fun t' q => hb0 hbb t' h p hs hp q)⟩, fun h p hs hp => ?_, ?_, fun z hz => ?_, fun z hz => ?_, fr_trans f2 (fr_mono hF (fun c hc => by omega))⟩
        · show x.1 106 _ = _
          rw [hF.1 106 (by omega)]; exact hFL2 h p hs hp
        · show x.1 104 _ = _
          rw [hF.1 104 (by omega)]; exact hi1
        · show x.1 104 _ = _
          rw [hF.1 104 (by omega)]; exact hi2 z hz
        · show x.1 105 _ = _
          rw [hko z hz, hi5]
      | true =>
        have htT := hb1 hbb
        rw [if_neg (show ¬ nI true.toNat = nI 0 by decide), pk_sub (by omega), Nat.add_sub_cancel]
        have f3 : Fr (fun c => 104 ≤ c ∧ c ≤ 109) σ x := fr_trans f2 (fr_mono hF (fun c hc => by omega))
        have hNx := nm_fr hN f3 (by omega) (by omega)
        have hFx : FLT x n O (k + 1) s := fun h p hs hp => by rw [hF.1 106 (by omega)]; exact hFL2 h p hs hp
        refine ok_cal (m_findGood hNx hk h1 h3 (show t < 8192 by omega) hFx hL) (fun _ x2 ⟨g1, g2⟩ => ?_)
        dsimp only at g1 g2
        have f4 : Fr (fun c => 104 ≤ c ∧ c ≤ 109) σ x2 := fr_trans f3 (fr_mono g2 (fun c hc => by omega))
        have hN2' := nm_fr hN f4 (by omega) (by omega)
        have hL2 : LFT x2 n k s v := fun h p hs hp => by rw [g2.1 105 (by omega)]; exact hL h p hs hp
        refine m_level hN2' hk h1 h3 (t := t + 1) (by omega) hL2 (G := fun y => gdS n O s (k + 1) v t y n) g1 (fun z => gd_lt _ _ _ _ h8) (K := fun s23 x24 => rec s23 x24 (nI (t + 1) + nI 1)) (fun x3 b' l1 l2 l3 l4 l5 => ?_)
        rw [nI_add]
        have hstep := fun h p (hs : Sg n (k + 1) h) (hp : p < n) => lv_step (s := s) hN.np hk (show t < 8192 by omega) hs.1 hv hp
        have hinf : ∀ h p, Sg n (k + 1) h → p < n → (v h p = 1048576 ↔ ¬ Su O s t (dgs (k + 1) h) p) := fun h p hs hp => by
          rw [← lvT_iff (show t < 8192 by omega) (hv h p hs hp)]
          rcases hv h p hs hp with ⟨c1, -⟩ | ⟨c1, -⟩ <;> omega
        refine kk _ _ _ ⟨t + 1, _, b', by omega, rfl, rfl, l1, fun h p hs hp => ?_, fun hb' => ?_, fun hb' => ?_, ko_eq (fun z hz => ?_) rfl, fr_trans hF (fr_trans (fr_mono g2 (fun c hc => by omega)) (fr_mono l5 (fun c hc => by omega)))⟩ ?_
        · unfold nv
          by_cases q : (lU O k h (fun y => gdS n O s (k + 1) v t y n) (8 ^ (k + 1))).testBit p = true ∧ v h p = 1048576
          · rw [if_pos q]
            have c2 := (hinf h p hs hp).mp q.2
            exact Or.inl ⟨Nat.le_refl _, (hstep h p hs hp).mpr (Or.inr q.1), fun t' ht' e => c2 (su_le (by omega) e)⟩
          · rw [if_neg q]
            rcases hv h p hs hp with ⟨c1, c2, c3⟩ | ⟨c1, c2⟩
            · exact Or.inl ⟨by omega, c2, c3⟩
            · refine Or.inr ⟨c1, fun e => ?_⟩
              rcases (hstep h p hs hp).mp e with e | e
              · exact c2 e
              · exact q ⟨e, c1⟩
        · obtain ⟨h, p, hs, hp, q1, q2⟩ := l2 hb'
          rcases Nat.lt_or_ge t T with q | q
          · omega
          · have c2 := (hinf h p hs hp).mp q2
            exact (c2 (su_le q (hT2 (t + 1) h p hs.1 hp ((hstep h p hs hp).mpr (Or.inr q1))))).elim
        · have hno := l3 hb'
          have hst : ∀ r p, Vr n (k + 1) r → p < n → Su O s (t + 1) (dgs (k + 1) r) p → Su O s t (dgs (k + 1) r) p := by
            intro r p hr hp e
            have hsg := sg_srt hk hr
            have hpm := srt_perm (K := k + 1) (by omega) (by omega) hr.1
            refine su_perm t p hpm.symm ?_
            rcases (hstep _ p hsg hp).mp (su_perm (t + 1) p hpm e) with e | e
            · exact e
            · exact Classical.byContradiction (fun c2 => hno _ p hsg hp ⟨e, (hinf _ p hsg hp).mpr c2⟩)
          intro t' h p hs hp e
          exact Or.inl (stat hN.np hk hst t' h p hs.1 hp e)
        · rw [l4 z hz, g2.1 105 (by omega)]; exact hko z hz
        · rw [nI_clamp (by omega), nI_clamp (by omega)]; omega
    · intro h p hs hp
      dsimp only
      rw [i1 h p hs.1.1 (by omega)]
      by_cases q : p ∈ dgs (k + 1) h
      · rw [if_pos q, if_pos q]; exact ⟨by omega, rfl⟩
      · rw [if_neg q, if_neg q]; exact ⟨by omega, mv_e.symm⟩
    · intro h p hs hp
      dsimp only
      by_cases q : p ∈ dgs (k + 1) h
      · rw [if_pos q]; exact Or.inl ⟨Nat.le_refl _, q, fun t' ht' => by omega⟩
      · rw [if_neg q]; exact Or.inr ⟨rfl, q⟩
  · rw [if_neg (by rw [hz]; decide)]
    refine ok_some ⟨fun h p hs hp => ?_, w1, ?_, fun x _ => by rw [h104], fun x _ => by rw [h105], f1⟩
    · show ∃ v, s1.1 105 _ = _ ∧ _
      rw [h105]; exact hM hz h p hs hp
    · show s1.1 104 _ = _
      rw [h104]; exact hz
end RECKON3
