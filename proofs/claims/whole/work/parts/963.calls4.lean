theorem b255 (x : Int64) : ∃ b, b < 256 ∧ (x &&& (255 : Int64)).toInt32 = nI b := by
  refine ⟨(x &&& (255 : Int64)).toBitVec.toNat, ?_, ?_⟩
  · rw [Int64.toBitVec_and, BitVec.toNat_and]
    have h1 : (255 : Int64).toBitVec.toNat = 255 := by decide
    rw [h1]
    exact Nat.lt_of_le_of_lt Nat.and_le_right (by decide)
  · apply Int32.toBitVec_inj.1
    apply BitVec.eq_of_getLsbD_eq
    intro i hi
    show ((x &&& (255 : Int64)).toBitVec.signExtend 32).getLsbD i = (BitVec.ofNat 32 (x &&& (255 : Int64)).toBitVec.toNat).getLsbD i
    rw [BitVec.getLsbD_signExtend, BitVec.getLsbD_ofNat]
    have h64 : i < 64 := by omega
    rw [if_pos h64]
    rfl
noncomputable def byt (v : Int64) (i : Nat) : Nat := Classical.choose (b255 (v >>> (((8 : Int32) * nI i).toInt64 &&& 63)))
theorem byt_sp (v : Int64) (i : Nat) : byt v i < 256 ∧ ((v >>> (((8 : Int32) * nI i).toInt64 &&& 63)) &&& (255 : Int64)).toInt32 = nI (byt v i) := Classical.choose_spec (b255 (v >>> (((8 : Int32) * nI i).toInt64 &&& 63)))
section CALLS4
variable {σ s : St} {n c l : Nat} {O tx : Nat → Nat} {p : Pl}
noncomputable def txW (tx : Nat → Nat) (l : Nat) (v : Int64) (i : Nat) : Nat := if l ≤ i then byt v (i - l) else tx i
theorem ic_tx (hI : IC σ n O c tx l p) {P : Nat → Prop} (f : Fr P σ s) (hP : ∀ x, P x → x = 6 ∨ x = 7 ∨ x = 8 ∨ x = 9 ∨ x = 10) {tx' : Nat → Nat} {l' : Nat} (hT : TC s tx' l') : IC s n O c tx' l' p := by
  have hn : ∀ x, ¬ (x = 6 ∨ x = 7 ∨ x = 8 ∨ x = 9 ∨ x = 10) → ¬ P x := fun x hx w => hx (hP x w)
  exact ic_mk f hI (fun x hx => hn x (by omega)) (fun x h1 h2 => hn x (by omega)) hT (fun i hi => Or.inl (fun x h1 h2 => hn x (by omega))) (fun b => Or.inl (fun x h1 h2 => hn x (by omega))) (Or.inl (fun x h1 h2 => hn x (by omega))) (fun g hg => Or.inl (fun x h1 h2 => hn x (by omega))) (pc_eq hI.pl (f.1 13 (hn 13 (by omega))))
theorem im_tx (hI : IM σ n O tx l p) {P S : Nat → Prop} (f : Fm P S σ s) (hP : ∀ x, P x → x = 102 ∨ x = 103) (hS : ∀ k, S k → 2 ≤ k ∧ k ≤ 11) {tx' : Nat → Nat} {l' : Nat} (hT : TM s tx' l') : IM s n O tx' l' p := by
  have hn : ∀ x, ¬ (x = 102 ∨ x = 103) → ¬ P x := fun x hx w => hx (hP x w)
  have hm : ∀ k, ¬ (2 ≤ k ∧ k ≤ 11) → ¬ S k := fun k hk w => hk (hS k w)
  exact im_mk f hI (hm 0 (by omega)) (hn 101 (by omega)) hT (Or.inl ⟨hn 104 (by omega), hn 105 (by omega)⟩) (Or.inl ⟨hn 112 (by omega), hn 113 (by omega), hn 114 (by omega)⟩) (Or.inl ⟨hm 36 (by omega), hn 119 (by omega), hn 120 (by omega)⟩) (pm_eq hI.pl (fun k h1 h2 => f.2.1 k (hm k (by omega))))
theorem st_write (hI : Inv σ n O c tx l p) (w : Int64) (v : Int32) {R : Type} {K : St → Option R} {Q : R → Prop} (hK : ∀ t tx' l', Inv t n O c tx' l' p → Ok (K t) Q) : Ok (cal (f_X9_write σ w v) fun r s1 => cal (f_X10_write s1 w v) fun r2 s2 => if r = r2 then K s2 else none) Q := by
  have hl := hI.1.tc.h
  rcases aR v (lo := 1) (hi := 8) (by decide) (by decide) with ⟨m, m1, m2, rfl⟩ | hv
  · by_cases hf : 160 < l + m
    · refine both hI (A := fun x => x = M5) (fun x y a b => a.trans b.symm) ?_ (fun t ht' => ?_) hI.2.2 (fun t ht => hK t tx l ht)
      · unfold f_X9_write f_X7_append
        rw [q_0, q_1, q_8, q_160, if_neg (nI_nlt m1 (by omega)), if_neg (nI_nlt m2 (by omega)), if_neg (nI_nlt (Nat.zero_le _) (by omega)), hI.1.tc.l, pk_sub hl, if_pos (nI_lt (by omega) (by omega)), cal_s, if_pos rfl]
        exact ok_some ⟨rfl, hI.1, fr_refl⟩
      · unfold f_X10_write
        rw [q_0, q_1, q_8, q_160, in_ok m1 m2 (by decide), calP_s, if_neg b_10, ht'.tm.l, nI_add, if_pos (nI_lt hf (by omega))]
        exact ok_some ⟨rfl, ht', fr_refl⟩
    · refine both hI (A := fun x => x = nI (l + m)) (tx' := txW tx l w) (l' := l + m) (fun x y a b => a.trans b.symm) ?_ (fun t ht' => ?_) hI.2.2 (fun t ht => hK t _ _ ht)
      · unfold f_X9_write f_X7_append f_X7_length
        rw [q_0, q_1, if_neg (nI_nlt m1 (by omega)), if_neg (show ¬ (8 : Int32) < nI m from nI_nlt (a := 8) m2 (by omega)), if_neg (nI_nlt (Nat.zero_le _) (by omega)), q_160, hI.1.tc.l, pk_sub hl, if_neg (nI_nlt (by omega) (by omega))]
        have core : Ok (lo2 FU (fun rec3 (s1 : St) (x2 : Int32) =>
        (if x2 < nI m then
          ck ((s1.1 6 1) + x2) 160 <|
            bd (setI s1 7 ((s1.1 6 1) + x2).toNatClampNeg ((w >>> (((8 : Int32) * x2).toInt64 &&& 63)) &&& (255 : Int64)).toInt32) fun s5 =>
              rec3 s5 (x2 + nI 1)
           else
          bd (setI s1 6 1 ((s1.1 6 1) + nI m)) fun s6 =>
            some (nI 1, s6))) σ (nI 0)) (fun q => q.1 = nI 1 ∧ q.2.1 6 1 = nI (l + m) ∧ TC q.2 (txW tx l w) (l + m) ∧ Fr (fun x => x = 6 ∨ x = 7) σ q.2) := by
          refine lo2_for (fun i s => s.1 6 1 = nI l ∧ (∀ j, j < l + i → s.1 7 j = nI (txW tx l w j)) ∧ Fr (fun x => x = 6 ∨ x = 7) σ s) m ?_ ?_ FU 0 _ (Nat.zero_le _) (fu_lt (by omega)) ⟨hI.1.tc.l, fun j hj => by rw [hI.1.tc.b j (by omega)]; unfold txW; rw [if_neg (by omega)], fr_refl⟩
          · rintro rec i s hi ⟨i1, i2, i3⟩ kk
            rw [if_pos (nI_lt hi (by omega)), i1, nI_add, y_ck _ (by omega) (by omega), nI_clamp (by omega), (byt_sp w i).2, bd_s, nI_add]
            refine kk _ ⟨by rw [gsI_o (by decide)]; exact i1, fun j hj => ?_, fr_setI i3 (Or.inr rfl)⟩
            rw [gsI_s]
            by_cases e : j = l + i
            · rw [if_pos e]; unfold txW; rw [if_pos (by omega), show j - l = i by omega]
            · rw [if_neg e]; exact i2 j (by omega)
          · rintro rec s ⟨i1, i2, i3⟩
            rw [if_neg (nI_nlt (Nat.le_refl _) (by omega)), i1, nI_add, bd_s]
            refine ok_some ⟨rfl, by rw [gsI_s, if_pos rfl], ⟨by rw [gsI_s, if_pos rfl], by omega, fun j hj => ?_, fun j hj => ?_⟩, fr_setI i3 (Or.inl rfl)⟩
            · rw [gsI_o (by decide)]; exact i2 j hj
            · unfold txW
              by_cases g : l ≤ j
              · rw [if_pos g]; exact (byt_sp w _).1
              · rw [if_neg g]; exact hI.1.tc.u j (by omega)
        refine ok_cal core ?_
        rintro r1 s2 ⟨rfl, c2, c3, c4⟩
        rw [if_neg b_10, show s2.1 6 1 = nI (l + m) from c2, calP_s]
        exact ok_some ⟨rfl, ic_tx hI.1 c4 (fun x hx => by omega) c3, fr_mono c4 (fun x hx => by omega)⟩
      · unfold f_X10_write
        rw [q_0, q_1, show f_X10_in t (nI m) (nI 1) (8 : Int32) = some (nI 1) from in_ok m1 m2 (by decide), calP_s, if_neg b_10, q_160, ht'.tm.l, nI_add, if_neg (nI_nlt (by omega) (by omega))]
        refine lo2_for (fun i s => s.1 100 2 = nI l ∧ (∀ j, j < l + i → s.1 102 j = nI (txW tx l w j)) ∧ Fm (fun c => c = 102) (fun k => k = 2) t s) m ?_ ?_ FU 0 _ (Nat.zero_le _) (fu_lt (by omega)) ⟨ht'.tm.l, fun j hj => by rw [ht'.tm.b j (by omega)]; unfold txW; rw [if_neg (by omega)], fm_refl⟩
        · rintro rec i s hi ⟨i1, i2, i3⟩ kk
          rw [if_pos (nI_lt hi (by omega)), i1, nI_add, y_ck _ (by omega) (by omega), nI_clamp (by omega), (byt_sp w i).2, bd_s, nI_add]
          refine kk _ ⟨by rw [gsI_o (by decide)]; exact i1, fun j hj => ?_, fm_setI i3 rfl (by decide)⟩
          rw [gsI_s]
          by_cases e : j = l + i
          · rw [if_pos e]; unfold txW; rw [if_pos (by omega), show j - l = i by omega]
          · rw [if_neg e]; exact i2 j (by omega)
        · rintro rec s ⟨i1, i2, i3⟩
          rw [if_neg (nI_nlt (Nat.le_refl _) (by omega)), i1, nI_add, bd_s]
          have fm := fm_set (v := nI (l + m)) i3 (k := 2) rfl
          refine ok_some ⟨by rw [gsI_s, if_pos rfl], im_tx ht' fm (fun x hx => by omega) (fun k hk => by omega) ⟨by rw [gsI_s, if_pos rfl], by omega, fun j hj => ?_, fun j hj => ?_⟩, fm_ge fm (fun x hx => by omega)⟩
          · rw [gsI_o (by decide)]; exact i2 j hj
          · unfold txW
            by_cases g : l ≤ j
            · rw [if_pos g]; exact (byt_sp w _).1
            · rw [if_neg g]; exact ht'.tm.u j (by omega)
  · refine both hI (A := fun x => x = M3) (fun x y a b => a.trans b.symm) ?_ (fun t ht' => ?_) hI.2.2 (fun t ht => hK t tx l ht)
    · unfold f_X9_write
      rw [q_1, q_8]
      rcases hv with hv | ⟨hv1, hv2⟩
      · rw [if_pos hv]; exact ok_some ⟨rfl, hI.1, fr_refl⟩
      · rw [if_neg hv1, if_pos hv2]; exact ok_some ⟨rfl, hI.1, fr_refl⟩
    · unfold f_X10_write
      rw [q_0, q_1, q_8, in_out hv, calP_s, if_pos rfl]
      exact ok_some ⟨rfl, ht', fr_refl⟩
theorem st_erase (hI : Inv σ n O c tx l p) {R : Type} {K : St → Option R} {Q : R → Prop} (hK : ∀ t tx' l', Inv t n O c tx' l' p → Ok (K t) Q) : Ok (cal (f_X9_erase σ) fun r s1 => cal (f_X10_erase s1) fun r2 s2 => if r = r2 then K s2 else none) Q := by
  refine both hI (A := fun x => x = nI l) (tx' := tx) (l' := 0) (fun x y a b => a.trans b.symm) ?_ (fun t ht' => ?_) hI.2.2 (fun t ht => hK t _ _ ht)
  · unfold f_X9_erase f_X7_length f_X7_drop
    rw [hI.1.tc.l, calP_s, bd_s, cal_s, q_0]
    have f : Fr (fun x => x = 6) σ (setI σ 6 1 (nI 0)) := fr_setI fr_refl rfl
    exact ok_some ⟨rfl, ic_tx hI.1 f (fun x hx => by omega) ⟨by rw [gsI_s, if_pos rfl], by omega, fun j hj => absurd hj (Nat.not_lt_zero _), fun j hj => absurd hj (Nat.not_lt_zero _)⟩, fr_mono f (fun x hx => by omega)⟩
  · unfold f_X10_erase
    rw [ht'.tm.l, bd_s, bd_s, q_0]
    have f : Fm (fun _ => False) (fun k => k = 2) t (setI t 100 2 (nI 0)) := fm_set fm_refl rfl
    exact ok_some ⟨rfl, im_tx ht' f (fun x hx => hx.elim) (fun k hk => by omega) ⟨by rw [gsI_s, if_pos rfl], by omega, fun j hj => absurd hj (Nat.not_lt_zero _), fun j hj => absurd hj (Nat.not_lt_zero _)⟩, fm_ge f (fun x hx => hx.elim)⟩
theorem st_fault (hI : Inv σ n O c tx l p) {R : Type} {K : St → Option R} {Q : R → Prop} (hK : ∀ t, Inv t n O c tx l p → Ok (K t) Q) : Ok (cal (f_X9_fault σ) fun r s1 => cal (f_X10_fault s1) fun r2 s2 => if r = r2 then K s2 else none) Q := by
  have hn : 1 ≤ n ∧ n ≤ 8 := ⟨hI.1.nc.np.h1, hI.1.nc.np.h8⟩
  obtain ⟨z, hz⟩ : ∃ z, z = (if (rdA tx l n).1 = 999 then M1 else nI (rdA tx l n).1) := ⟨_, rfl⟩
  refine both hI (A := fun x => x = z) (fun x y a b => a.trans b.symm) ?_ (fun t ht' => ?_) hI.2.2 hK
  · unfold f_X9_fault f_X3_places
    rw [hI.1.nc.pl, calP_s]
    refine ok_cal (e_read hI.1.tc hn) ?_
    rintro r2 s3 ⟨f, e2, -⟩
    exact ok_some ⟨e2.trans hz.symm, ic_tx hI.1 f.1 (fun x hx => by omega) (tc_fl hI.1.tc f), fr_mono f.1 (fun x hx => by omega)⟩
  · unfold f_X10_fault
    refine ok_cal (m_isRead ht'.tm hn ht'.nm.pl) ?_
    rintro r1 s2 ⟨f, e1, e2⟩
    have im := im_tx ht' f (fun x hx => Or.inr hx) (fun k hk => by unfold rk at hk; omega) (tm_rk ht'.tm f)
    have fr := fm_ge f (fun x hx => by unfold c103 at hx; omega)
    rw [q_mm, q_0]
    by_cases g : (rdA tx l n).1 = 999
    · rw [show r1 = nI 1 from (e1 g).1, if_neg b_10]
      exact ok_some ⟨by rw [hz, if_pos g], im, fr⟩
    · rw [show r1 = nI 0 from (e2 g).1, if_pos rfl]
      exact ok_some ⟨by rw [hz, if_neg g]; exact (e2 g).2, im, fr⟩
end CALLS4
