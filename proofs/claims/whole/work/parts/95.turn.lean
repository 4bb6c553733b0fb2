section TURN
variable {σ s : St} {n c l : Nat} {O tx : Nat → Nat} {p : Pl} {k sp h q g : Nat}
theorem fl_out {H S sp q : Nat} (h : 1 ≤ sp) (hb : (flB O H sp S).testBit q = true) : H.testBit q = false := by
  cases sp with
  | zero => omega
  | succ j =>
    rw [flB, nd_tb, Bool.and_eq_true] at hb
    simpa using hb.2
theorem e_caught (hS : ST σ) (hk : k < 3) (e1 : σ.1 13 1 = nI (k + 1)) (e3 : σ.1 13 3 = nI h) (e4 : σ.1 13 4 = nI q) (hh : h < 8 ^ (k + 1)) (hq : q < 8) : f_X9_isCaught σ = some (nI ((plc (dgs (k + 1) h)).testBit q).toNat) := by
  unfold f_X9_isCaught f_X5_hunters f_X5_setting f_X5_place
  rw [e1, calP_s, e_sets hk, calP_s, ckN_s _ hk, e3, calP_s, e4, calP_s, e_holds hS hk hh (by omega), calP_s, y_ckZ]
theorem m_caught (hk : k < 3) (e1 : σ.1 100 19 = nI (k + 1)) (e3 : σ.1 100 21 = nI h) (e4 : σ.1 100 22 = nI q) (hh : h < 8 ^ (k + 1)) (hq : q < 8) : Ok (f_X10_isCaught σ) (fun x => x.1 = nI ((plc (dgs (k + 1) h)).testBit q).toNat ∧ Fr (fun c => c = 108) σ x.2) := by
  unfold f_X10_isCaught
  rw [e1, e3]
  refine ok_cal (m_placesOf hk hh) ?_
  rintro r s2 ⟨rfl, f2⟩
  have hpl : plc (dgs (k + 1) h) < 2 ^ 31 := Nat.lt_trans (plc_lt _) (by decide)
  rw [show s2.1 100 22 = nI q by rw [f2.1 100 (by decide)]; exact e4, q_0, q_1, y_bt hpl (by omega)]
  cases (plc (dgs (k + 1) h)).testBit q with
  | true => rw [if_pos b_t1]; exact ok_some ⟨rfl, f2⟩
  | false => rw [if_neg b_f1]; exact ok_some ⟨rfl, f2⟩
theorem in_m1 {v : Int32} (hn : 1 ≤ n) (hn8 : n ≤ 8) : (v = M1 ∨ ∃ q, q < n ∧ v = nI q) ∧ (∀ s, f_X10_in s v M1 (nI (n - 1)) = some (nI 1)) ∨ (¬ v = M1 ∧ (∀ q, q < n → ¬ v = nI q) ∧ ∀ s, f_X10_in s v M1 (nI (n - 1)) = some (nI 0)) := by
  by_cases h1 : v = M1
  · subst h1
    refine Or.inl ⟨Or.inl rfl, fun s => ?_⟩
    unfold f_X10_in
    rw [if_neg (show ¬ M1 < M1 by decide), if_neg (show ¬ nI (n - 1) < M1 from nlt_m1 (by omega))]; rfl
  · rcases i_cases v with h | ⟨q, hq, rfl⟩
    · refine Or.inr ⟨h1, fun q hq e => ?_, fun s => ?_⟩
      · rw [e] at h; exact absurd h (nI_nlt (Nat.zero_le _) (by omega))
      · unfold f_X10_in
        rw [if_pos]; · rfl
        rw [Int32.lt_iff_toInt_lt] at h ⊢
        have e1 : (nI 0).toInt = 0 := by decide
        have e2 : M1.toInt = -1 := by decide
        have e3 : ¬ v.toInt = -1 := fun w => h1 (Int32.toInt_inj.mp (w.trans e2.symm))
        omega
    · by_cases g : q < n
      · refine Or.inl ⟨Or.inr ⟨q, g, rfl⟩, fun s => ?_⟩
        unfold f_X10_in
        rw [if_neg (show ¬ nI q < M1 from nlt_m1 hq), if_neg (nI_nlt (by omega) (by omega))]; rfl
      · refine Or.inr ⟨h1, fun q' hq' e => g ?_, fun s => ?_⟩
        · rw [(nI_eq hq (by omega)).mp e]; exact hq'
        · unfold f_X10_in
          rw [if_neg (show ¬ nI q < M1 from nlt_m1 hq), if_pos (nI_lt (by omega) hq)]; rfl
/-- the class's play, gone on -/
theorem ic_go (hI : IC σ n O c tx l (true, k, sp, h, q, g)) {h2 fl : Nat} : IC (setI (setI (setI σ 13 3 (nI h2)) 13 4 (nI fl)) 13 5 (nI (g + 1))) n O c tx l (true, k, sp, h2, fl, g + 1) := by
  have f : Fr (fun x => x = 13) σ (setI (setI (setI σ 13 3 (nI h2)) 13 4 (nI fl)) 13 5 (nI (g + 1))) := fr_setI (fr_setI (fr_setI fr_refl rfl) rfl) rfl
  obtain ⟨a1, a2, a3⟩ := hI.pl
  obtain ⟨b1, b2, b3, b4⟩ := a3 rfl
  refine ic_mk f hI (fun x hx => by omega) (fun x h1 h2 => by omega) (tcx_eq hI.tc (by rw [f.1 6 (by omega)]) (f.1 7 (by omega))) (fun i hi => Or.inl (fun x h1 h2 => by omega)) (fun b => Or.inl (fun x h1 h2 => by omega)) (Or.inl (fun x h1 h2 => by omega)) (fun g hg => Or.inl (fun x h1 h2 => by omega)) ⟨?_, ?_, fun _ => ⟨?_, ?_, ?_, ?_⟩⟩
  · rw [gsI_s, if_neg (by decide), gsI_s, if_neg (by decide), gsI_s, if_neg (by decide)]; exact a1
  · rw [gsI_s, if_pos rfl]
  · rw [gsI_s, if_neg (by decide), gsI_s, if_neg (by decide), gsI_s, if_neg (by decide)]; exact b1
  · rw [gsI_s, if_neg (by decide), gsI_s, if_neg (by decide), gsI_s, if_neg (by decide)]; exact b2
  · rw [gsI_s, if_neg (by decide), gsI_s, if_neg (by decide), gsI_s, if_pos rfl]
  · rw [gsI_s, if_neg (by decide), gsI_s, if_pos rfl]
theorem im_go (hI : IM σ n O tx l (true, k, sp, h, q, g)) {h2 fl : Nat} : IM (setI (setI (setI σ 100 21 (nI h2)) 100 22 (nI fl)) 100 23 (nI (g + 1))) n O tx l (true, k, sp, h2, fl, g + 1) := by
  have f : Fm noC (fun k => 19 ≤ k ∧ k ≤ 24) σ (setI (setI (setI σ 100 21 (nI h2)) 100 22 (nI fl)) 100 23 (nI (g + 1))) := fm_set (fm_set (fm_set fm_refl (by omega)) (by omega)) (by omega)
  obtain ⟨a1, a2, a3⟩ := hI.pl
  obtain ⟨b1, b2, b3, b4⟩ := a3 rfl
  refine im_mk f hI (by omega) id (tm_fm hI.tm f (by omega) id) (Or.inl ⟨id, id⟩) (Or.inl ⟨id, id, id⟩) (Or.inl ⟨by omega, id, id⟩) ⟨?_, ?_, fun _ => ⟨?_, ?_, ?_, ?_⟩⟩
  · rw [gsI_s, if_neg (by decide), gsI_s, if_neg (by decide), gsI_s, if_neg (by decide)]; exact a1
  · rw [gsI_s, if_pos rfl]
  · rw [gsI_s, if_neg (by decide), gsI_s, if_neg (by decide), gsI_s, if_neg (by decide)]; exact b1
  · rw [gsI_s, if_neg (by decide), gsI_s, if_neg (by decide), gsI_s, if_neg (by decide)]; exact b2
  · rw [gsI_s, if_neg (by decide), gsI_s, if_neg (by decide), gsI_s, if_pos rfl]
  · rw [gsI_s, if_neg (by decide), gsI_s, if_pos rfl]
/-- what is told of the flight -/
def FLq (n : Nat) (O : Nat → Nat) (sp k : Nat) (lv : Nat → Nat → Nat) (h2 q : Nat) (v2 : Int32) (fl : Nat) : Prop := ((plc (dgs (k + 1) h2)).testBit q = true ∧ fl = q) ∨ ((plc (dgs (k + 1) h2)).testBit q = false ∧ fl < n ∧ (flB O (plc (dgs (k + 1) h2)) sp (2 ^ q)).testBit fl = true ∧ ((v2 = M1 ∧ AM (flB O (plc (dgs (k + 1) h2)) sp (2 ^ q)) (lv h2) n fl) ∨ v2 = nI fl))
theorem e_turnB (hI : IC σ n O c tx l (true, k, sp, h, q, g)) (hc : c < 100000) (hk : k < 3) (s1 : 1 ≤ sp) (s3 : sp ≤ 3) (hq : q < n) {lv : Nat → Nat → Nat} (hl : HL n O k sp lv) {h2 fl : Nat} (hh2 : Sg n (k + 1) h2) {v2 : Int32} (hf : FLq n O sp k lv h2 q v2 fl) : Ok (calP (f_X5_place σ) fun r9 =>
                              calP (f_X6_holds σ k (nI h2) r9) fun r10 =>
                                jn2 (fun jk13 =>
                                  (if r10 = nI 0 then
                                    cal (f_X9_placeBehind σ (nI h2) v2) fun r16 s17 =>
                                      jk13 s17 r16
                                     else
                                    calP (f_X5_place σ) fun r18 =>
                                      jk13 σ r18))
                                  (fun (s11 : St) (x12 : Int32) => 
                                  (if x12 = M1 then
                                      some (M4, s11)
                                       else
                                      cal (f_X5_go s11 (nI h2) x12) fun _ s14 =>
                                        calP (f_X9_isCaught s14) fun r15 =>
                                          (if r15 = nI 0 then
                                            some (nI 0, s14)
                                             else
                                            some (nI 1, s14))))) (fun x => x.1 = nI ((plc (dgs (k + 1) h2)).testBit q).toNat ∧ IC x.2 n O c tx l (true, k, sp, h2, fl, g + 1) ∧ Fr (fun x => x < 100) σ x.2) := by
  have h8 := hI.nc.np.h8
  have h512 := p8_le k hk
  have hh1 := hh2.1.1
  have hd : (3 * k + sp - 1) / 3 = k := by omega
  obtain ⟨a1, a2, a3⟩ := hI.pl
  obtain ⟨b1, b2, b3, b4⟩ := a3 rfl
  replace b4 : σ.1 13 4 = nI q := b4
  have fin : ∀ s11, IC s11 n O c tx l (true, k, sp, h, q, g) → Fr (fun x => x < 100) σ s11 → fl < n → ((plc (dgs (k + 1) h2)).testBit fl = (plc (dgs (k + 1) h2)).testBit q) → Ok (if nI fl = M1 then some (M4, s11) else cal (f_X5_go s11 (nI h2) (nI fl)) fun _ s14 => calP (f_X9_isCaught s14) fun r15 => (if r15 = nI 0 then some (nI 0, s14) else some (nI 1, s14))) (fun x => x.1 = nI ((plc (dgs (k + 1) h2)).testBit q).toNat ∧ IC x.2 n O c tx l (true, k, sp, h2, fl, g + 1) ∧ Fr (fun x => x < 100) σ x.2) := by
    intro s11 i1 i2 i3 i4
    obtain ⟨d1, d2, d3⟩ := i1.pl
    obtain ⟨e1, e2, e3, e4⟩ := d3 rfl
    have ic := ic_go i1 (h2 := h2) (fl := fl)
    have fr' : Fr (fun x => x < 100) σ (setI (setI (setI s11 13 3 (nI h2)) 13 4 (nI fl)) 13 5 (nI (g + 1))) := fr_setI (fr_setI (fr_setI i2 (by decide)) (by decide)) (by decide)
    unfold f_X5_go
    rw [if_neg (nI_mm (by omega)), bd_s, bd_s, gsI_s, if_neg (by decide), gsI_s, if_neg (by decide), show s11.1 13 5 = nI g from d2, q_1, nI_add, bd_s, cal_s, e_caught ic.st hk (k := k) (h := h2) (q := fl) (by rw [gsI_s, if_neg (by decide), gsI_s, if_neg (by decide), gsI_s, if_neg (by decide)]; exact e1) (by rw [gsI_s, if_neg (by decide), gsI_s, if_neg (by decide), gsI_s, if_pos rfl]) (by rw [gsI_s, if_neg (by decide), gsI_s, if_pos rfl]) hh1 (by omega), calP_s, i4]
    cases (plc (dgs (k + 1) h2)).testBit q with
    | true => rw [if_neg b_t0]; exact ok_some ⟨rfl, ic, fr'⟩
    | false => rw [if_pos b_f0]; exact ok_some ⟨rfl, ic, fr'⟩
  unfold f_X5_place
  rw [b4, calP_s, e_holds hI.st hk hh1 (by omega), calP_s, jn2]
  dsimp only
  rcases hf with ⟨f1, rfl⟩ | ⟨f1, f2, f3, f4⟩
  · have := fin σ hI fr_refl hq rfl
    rw [f1] at this ⊢
    rw [if_neg b_t0, calP_s]
    exact this
  · have hfo := fl_out s1 f3
    rw [f1, if_pos b_f0]
    unfold f_X9_placeBehind f_X5_hunters f_X5_speed f_X5_place
    rw [show σ.1 13 1 = nI (k + 1) from b1, calP_s, show σ.1 13 2 = nI sp from b2, calP_s]
    have fin' := fin
    rw [f1] at fin'
    have core : Ok (cal (f_X9_chase σ (nI (k + 1)) (nI sp)) fun r3 s4 =>
        ckN r3 9 <|
          (if v2 = (-1 : Int32) then
            calP (some (s4.1 13 4)) fun r5 =>
              calP (f_X0_bestFlight s4 r3 (nI h2) r5) fun r6 =>
                some (r6, s4)
             else
            calP (some (s4.1 13 4)) fun r7 =>
              calP (f_X0_flights s4 r3 (nI h2) r7) fun r8 =>
                calP (f_X9_has s4 r8 v2) fun r9 =>
                  (if r9 = 0 then
                    some ((-1 : Int32), s4)
                     else
                    some (v2, s4)))) (fun x => x.1 = nI fl ∧ IC x.2 n O c tx l (true, k, sp, h, q, g) ∧ Fr (fun x => x < 100) σ x.2) := by
      refine ok_cal (e_chase hI hc hk s1 s3) ?_
      rintro i s4 ⟨rfl, cx, ct, ic, fr⟩
      have fr' : Fr (fun x => x < 100) σ s4 := fr_mono fr (fun x hx => hx.2)
      obtain ⟨d1, d2, d3⟩ := ic.pl
      obtain ⟨e1, e2, e3, e4⟩ := d3 rfl
      rw [ckN_s _ (by omega), show s4.1 13 4 = nI q from e4, calP_s, calP_s, q_mm, q_0]
      rcases f4 with ⟨rfl, f5⟩ | rfl
      · rw [if_pos rfl]
        refine ok_calP (e_bestFlight cx (by rw [hd]; exact hl) ct (by rw [hd]; exact hh2.1) hq (by rw [hd]; exact (plc_mem hk (by omega)).mp f1)) ?_
        rintro r6 ⟨a, rfl, ha⟩
        rw [hd] at ha
        exact ok_some ⟨by rw [am_fun ha f5], ic, fr'⟩
      · have hFl : flB O (plc (dgs (k + 1) h2)) sp (2 ^ q) < 2 ^ 31 := Nat.lt_of_lt_of_le (flB_lt hI.nc.np _ sp (Nat.pow_lt_pow_right (by decide) hq)) (Nat.le_trans (p256 h8) (by decide))
        rw [if_neg (nI_mm (by omega)), e_flights cx (by rw [hd]; exact hh1) hq, calP_s, hd, e_has hFl (by omega), calP_s, f3, if_neg b_t0]
        exact ok_some ⟨rfl, ic, fr'⟩
    refine ok_cal core ?_
    rintro r16 s17 ⟨rfl, i1, i2⟩
    exact fin' s17 i1 i2 f2 hfo
end TURN
