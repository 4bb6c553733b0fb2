section TURN2
variable {σ s : St} {n c l : Nat} {O tx : Nat → Nat} {p : Pl} {k sp h q g : Nat}
def FLn (n : Nat) (O : Nat → Nat) (sp k h2 q : Nat) (v2 : Int32) : Prop := (plc (dgs (k + 1) h2)).testBit q = false ∧ ∃ p2, p2 < n ∧ v2 = nI p2 ∧ (flB O (plc (dgs (k + 1) h2)) sp (2 ^ q)).testBit p2 = false
theorem e_turnX (hI : IC σ n O c tx l (true, k, sp, h, q, g)) (hc : c < 100000) (hk : k < 3) (s1 : 1 ≤ sp) (s3 : sp ≤ 3) (hq : q < n) {h2 : Nat} (hh2 : Sg n (k + 1) h2) {v2 : Int32} (hf : FLn n O sp k h2 q v2) : Ok (calP (f_X5_place σ) fun r9 =>
                              calP (f_X6_holds σ k (nI h2) r9) fun r10 =>
                                jn2 (fun jk13 =>
                                  (if r10 = nI 0 then
                                    cal (f_X9_placeBehind σ (nI h2) v2) fun r16 s17 =>
                                      jk13 s17 r16
                                     else
                                    calP (f_X5_place σ) fun r18 =>
                                      jk13 σ r18))
                                  (fun (s11 : St) (x12 : Int32) => 
                                  (if x12 = M1 then
                                      some (M4, s11)
                                       else
                                      cal (f_X5_go s11 (nI h2) x12) fun _ s14 =>
                                        calP (f_X9_isCaught s14) fun r15 =>
                                          (if r15 = nI 0 then
                                            some (nI 0, s14)
                                             else
                                            some (nI 1, s14))))) (fun x => x.1 = M4 ∧ IC x.2 n O c tx l (true, k, sp, h, q, g) ∧ Fr (fun x => x < 100) σ x.2) := by
  have h8 := hI.nc.np.h8
  have hh1 := hh2.1.1
  have hd : (3 * k + sp - 1) / 3 = k := by omega
  obtain ⟨a1, a2, a3⟩ := hI.pl
  obtain ⟨b1, b2, b3, b4⟩ := a3 rfl
  replace b4 : σ.1 13 4 = nI q := b4
  obtain ⟨f1, p2, f2, rfl, f3⟩ := hf
  unfold f_X5_place
  rw [b4, calP_s, e_holds hI.st hk hh1 (by omega), calP_s, jn2, f1]
  dsimp only
  rw [if_pos b_f0]
  unfold f_X9_placeBehind f_X5_hunters f_X5_speed f_X5_place
  rw [show σ.1 13 1 = nI (k + 1) from b1, calP_s, show σ.1 13 2 = nI sp from b2, calP_s]
  have core : Ok (cal (f_X9_chase σ (nI (k + 1)) (nI sp)) fun r3 s4 =>
        ckN r3 9 <|
          (if nI p2 = (-1 : Int32) then
            calP (some (s4.1 13 4)) fun r5 =>
              calP (f_X0_bestFlight s4 r3 (nI h2) r5) fun r6 =>
                some (r6, s4)
             else
            calP (some (s4.1 13 4)) fun r7 =>
              calP (f_X0_flights s4 r3 (nI h2) r7) fun r8 =>
                calP (f_X9_has s4 r8 (nI p2)) fun r9 =>
                  (if r9 = 0 then
                    some ((-1 : Int32), s4)
                     else
                    some (nI p2, s4)))) (fun x => x.1 = M1 ∧ IC x.2 n O c tx l (true, k, sp, h, q, g) ∧ Fr (fun x => x < 100) σ x.2) := by
    refine ok_cal (e_chase hI hc hk s1 s3) ?_
    rintro i s4 ⟨rfl, cx, ct, ic, fr⟩
    obtain ⟨d1, d2, d3⟩ := ic.pl
    obtain ⟨e1, e2, e3, e4⟩ := d3 rfl
    have hFl : flB O (plc (dgs (k + 1) h2)) sp (2 ^ q) < 2 ^ 31 := Nat.lt_of_lt_of_le (flB_lt hI.nc.np _ sp (Nat.pow_lt_pow_right (by decide) hq)) (Nat.le_trans (p256 h8) (by decide))
    rw [ckN_s _ (by omega), show s4.1 13 4 = nI q from e4, calP_s, calP_s, q_mm, q_0, if_neg (nI_mm (by omega)), e_flights cx (by rw [hd]; exact hh1) hq, calP_s, hd, e_has hFl (by omega), calP_s, f3, if_pos b_f0]
    exact ok_some ⟨rfl, ic, fr_mono fr (fun x hx => hx.2)⟩
  refine ok_cal core ?_
  rintro r16 s17 ⟨rfl, i1, i2⟩
  rw [if_pos rfl]
  exact ok_some ⟨rfl, i1, i2⟩
theorem im_pl (hI : IM σ n O tx l p) {p' : Pl} (f : Fm noC (fun k => 19 ≤ k ∧ k ≤ 24) σ s) (h : PlM s p') : IM s n O tx l p' := im_mk f hI (by omega) id (tm_fm hI.tm f (by omega) id) (Or.inl ⟨id, id⟩) (Or.inl ⟨id, id, id⟩) (Or.inl ⟨by omega, id, id⟩) h
def MTail (s9 : St) (x10 v2 : Int32) : Option (Int32 × St) :=
                        cal (f_X10_placesOf s9 (s9.1 100 19) x10) fun r12 s13 =>
                          bd (if ((r12 >>> ((s13.1 100 22) &&& 31)) &&& (1 : Int32)) = (1 : Int32) then (1 : Int32) else (0 : Int32)) fun x14 =>
                            cal (f_X10_reckon s13 (s13.1 100 19) (s13.1 100 20)) fun _ s16 =>
                              jn0 (fun jk17 =>
                                (if x14 = 0 then
                                  (if v2 = (-1 : Int32) then
                                    jk17
                                     else
                                    ck (((8 : Int32) * x10) + (s16.1 100 22)) 4096 <|
                                      (if (((s16.1 106 (((8 : Int32) * x10) + (s16.1 100 22)).toNatClampNeg) >>> (v2 &&& 31)) &&& (1 : Int32)) = 0 then
                                        some ((-4 : Int32), s16)
                                         else
                                        jk17))
                                   else
                                  jk17))
                                (
                                bd (setI s16 100 21 x10) fun s18 =>
                                    jn2 (fun jk21 =>
                                      (if x14 = 0 then
                                        (if v2 = (-1 : Int32) then
                                          cal (f_X10_fleeOf s18 (s18.1 100 19) (s18.1 100 20) x10 (s18.1 100 22)) fun r24 s25 =>
                                            jk21 s25 r24
                                           else
                                          jk21 s18 v2)
                                         else
                                        jk21 s18 (s18.1 100 22)))
                                      (fun (s19 : St) (x20 : Int32) => 
                                      bd (setI s19 100 22 x20) fun s22 =>
                                          bd (setI s22 100 23 ((s22.1 100 23) + (1 : Int32))) fun s23 =>
                                            (if x14 = 0 then
                                              some ((0 : Int32), s23)
                                               else
                                              some ((1 : Int32), s23))))
theorem m_tail (hI : IM σ n O tx l (true, k, sp, h, q, g)) (hk : k < 3) (s1 : 1 ≤ sp) (s3 : sp ≤ 3) (hq : q < n) {lv : Nat → Nat → Nat} (hl : HL n O k sp lv) {h2 fl : Nat} (hh2 : Sg n (k + 1) h2) {v2 : Int32} (hf : FLq n O sp k lv h2 q v2 fl) : Ok (MTail σ (nI h2) v2) (fun x => x.1 = nI ((plc (dgs (k + 1) h2)).testBit q).toNat ∧ IM x.2 n O tx l (true, k, sp, h2, fl, g + 1) ∧ Fr (fun x => 100 ≤ x) σ x.2) := by
  have h8 := hI.nm.np.h8
  have h512 := p8_le k hk
  have hh1 := hh2.1.1
  have hpl : plc (dgs (k + 1) h2) < 2 ^ 31 := Nat.lt_trans (plc_lt _) (by decide)
  obtain ⟨a1, a2, a3⟩ := hI.pl
  obtain ⟨b1, b2, b3, b4⟩ := a3 rfl
  unfold MTail
  rw [show σ.1 100 19 = nI (k + 1) from b1]
  refine ok_cal (m_placesOf hk hh1) ?_
  rintro r12 s13 ⟨rfl, f13⟩
  have e13 : s13.1 100 = σ.1 100 := f13.1 100 (by decide)
  have i13 : IM s13 n O tx l (true, k, sp, h, q, g) := im_s hI f13 (fun x hx => by omega)
  have hx14 : (if nI ((plc (dgs (k + 1) h2)).testBit q).toNat = nI 1 then nI 1 else nI 0) = nI ((plc (dgs (k + 1) h2)).testBit q).toNat := by
    cases (plc (dgs (k + 1) h2)).testBit q <;> rfl
  rw [e13, show σ.1 100 22 = nI q from b4, show σ.1 100 19 = nI (k + 1) from b1, show σ.1 100 20 = nI sp from b2, q_mm, q_0, q_1, q_8, y_bt hpl (by omega), hx14, bd_s]
  refine ok_cal (m_reckonI i13 hk s1 s3) ?_
  rintro u s16 ⟨c1, c2, c3, c4⟩
  have e16 : ∀ j, s16.1 100 j = σ.1 100 j := fun j => by rw [c4.2.1 j id, e13]
  have f16 : Fr (fun x => 100 ≤ x) σ s16 := fr_trans (fr_mono f13 (fun x hx => by omega)) (fm_ge c4 (fun x hx => by omega))
  have hflt := c2 h2 q hh2 hq
  rw [jn0, e16 22, show σ.1 100 22 = nI q from b4, pk_mul, nI_add, y_ck _ (by omega) (by omega), nI_clamp (by omega), hflt]
  have f18 : Fm noC (fun k => 19 ≤ k ∧ k ≤ 24) s16 (setI s16 100 21 (nI h2)) := fm_set fm_refl (by omega)
  have i18 : IM (setI s16 100 21 (nI h2)) n O tx l (true, k, sp, h2, q, g) := by
    refine im_pl c3 f18 ⟨?_, ?_, fun _ => ⟨?_, ?_, ?_, ?_⟩⟩
    · rw [gsI_s, if_neg (by decide), e16]; exact a1
    · rw [gsI_s, if_neg (by decide), e16]; exact a2
    · rw [gsI_s, if_neg (by decide), e16]; exact b1
    · rw [gsI_s, if_neg (by decide), e16]; exact b2
    · rw [gsI_s, if_pos rfl]
    · rw [gsI_s, if_neg (by decide), e16]; exact b4
  have fr18 : Fr (fun x => 100 ≤ x) σ (setI s16 100 21 (nI h2)) := fr_setI f16 (by decide)
  have last : ∀ s19, IM s19 n O tx l (true, k, sp, h2, q, g) → Fr (fun x => 100 ≤ x) σ s19 → Ok (bd (setI s19 100 22 (nI fl)) fun s22 => bd (setI s22 100 23 ((s22.1 100 23) + nI 1)) fun s23 => (if nI ((plc (dgs (k + 1) h2)).testBit q).toNat = nI 0 then some (nI 0, s23) else some (nI 1, s23))) (fun x => x.1 = nI ((plc (dgs (k + 1) h2)).testBit q).toNat ∧ IM x.2 n O tx l (true, k, sp, h2, fl, g + 1) ∧ Fr (fun x => 100 ≤ x) σ x.2) := by
    intro s19 j1 j2
    obtain ⟨d1, d2, d3⟩ := j1.pl
    obtain ⟨e1, e2, e3, e4⟩ := d3 rfl
    rw [bd_s, gsI_s, if_neg (by decide), show s19.1 100 23 = nI g from d2, nI_add, bd_s]
    have f : Fm noC (fun k => 19 ≤ k ∧ k ≤ 24) s19 (setI (setI s19 100 22 (nI fl)) 100 23 (nI (g + 1))) := fm_set (fm_set fm_refl (by omega)) (by omega)
    have im : IM (setI (setI s19 100 22 (nI fl)) 100 23 (nI (g + 1))) n O tx l (true, k, sp, h2, fl, g + 1) := by
      refine im_pl j1 f ⟨?_, ?_, fun _ => ⟨?_, ?_, ?_, ?_⟩⟩
      · rw [gsI_s, if_neg (by decide), gsI_s, if_neg (by decide)]; exact d1
      · rw [gsI_s, if_pos rfl]
      · rw [gsI_s, if_neg (by decide), gsI_s, if_neg (by decide)]; exact e1
      · rw [gsI_s, if_neg (by decide), gsI_s, if_neg (by decide)]; exact e2
      · rw [gsI_s, if_neg (by decide), gsI_s, if_neg (by decide)]; exact e3
      · rw [gsI_s, if_neg (by decide), gsI_s, if_pos rfl]
    have fr' : Fr (fun x => 100 ≤ x) σ (setI (setI s19 100 22 (nI fl)) 100 23 (nI (g + 1))) := fr_setI (fr_setI j2 (by decide)) (by decide)
    cases (plc (dgs (k + 1) h2)).testBit q with
    | true => rw [if_neg b_t0]; exact ok_some ⟨rfl, im, fr'⟩
    | false => rw [if_pos b_f0]; exact ok_some ⟨rfl, im, fr'⟩
  obtain ⟨z1, z2, z3⟩ := i18.pl
  obtain ⟨y1, y2, y3, y4⟩ := z3 rfl
  rw [bd_s, show (setI s16 100 21 (nI h2)).1 100 19 = nI (k + 1) from y1, show (setI s16 100 21 (nI h2)).1 100 20 = nI sp from y2, show (setI s16 100 21 (nI h2)).1 100 22 = nI q from y4, jn2]
  dsimp only
  rcases hf with ⟨f1, rfl⟩ | ⟨f1, f2, f3, f4⟩
  · have lt := last _ i18 fr18
    rw [f1] at lt ⊢
    rw [if_neg b_t0, if_neg b_t0]
    exact lt
  · have last' := last
    rw [f1] at last' ⊢
    have hfl : flS O sp (k + 1) h2 q = flB O (plc (dgs (k + 1) h2)) sp (2 ^ q) := by unfold flS; rw [f1, if_neg (by decide)]
    have hFl : flB O (plc (dgs (k + 1) h2)) sp (2 ^ q) < 2 ^ 31 := Nat.lt_of_lt_of_le (flB_lt hI.nm.np _ sp (Nat.pow_lt_pow_right (by decide) hq)) (Nat.le_trans (p256 h8) (by decide))
    rw [if_pos b_f0, if_pos b_f0]
    rcases f4 with ⟨rfl, f5⟩ | rfl
    · rw [if_pos rfl, if_pos rfl]
      refine ok_cal (m_fleeOfI i18 hk s1 s3 hl hh2 hq f1) ?_
      rintro r24 s25 ⟨⟨a, rfl, ha⟩, j1, j2⟩
      rw [am_fun ha f5]
      exact last' s25 j1 (fr_trans fr18 (fm_ge j2 (fun x hx => by omega)))
    · rw [if_neg (nI_mm (by omega)), if_neg (nI_mm (by omega)), hfl, y_bt hFl (by omega), f3, if_neg b_t0]
      exact last' _ i18 fr18
theorem m_tailX (hI : IM σ n O tx l (true, k, sp, h, q, g)) (hk : k < 3) (s1 : 1 ≤ sp) (s3 : sp ≤ 3) (hq : q < n) {h2 : Nat} (hh2 : Sg n (k + 1) h2) {v2 : Int32} (hf : FLn n O sp k h2 q v2) : Ok (MTail σ (nI h2) v2) (fun x => x.1 = M4 ∧ IM x.2 n O tx l (true, k, sp, h, q, g) ∧ Fr (fun x => 100 ≤ x) σ x.2) := by
  have h8 := hI.nm.np.h8
  have h512 := p8_le k hk
  have hh1 := hh2.1.1
  have hpl : plc (dgs (k + 1) h2) < 2 ^ 31 := Nat.lt_trans (plc_lt _) (by decide)
  obtain ⟨a1, a2, a3⟩ := hI.pl
  obtain ⟨b1, b2, b3, b4⟩ := a3 rfl
  obtain ⟨f1, p2, f2, rfl, f3⟩ := hf
  have hfl : flS O sp (k + 1) h2 q = flB O (plc (dgs (k + 1) h2)) sp (2 ^ q) := by unfold flS; rw [f1, if_neg (by decide)]
  have hFl : flB O (plc (dgs (k + 1) h2)) sp (2 ^ q) < 2 ^ 31 := Nat.lt_of_lt_of_le (flB_lt hI.nm.np _ sp (Nat.pow_lt_pow_right (by decide) hq)) (Nat.le_trans (p256 h8) (by decide))
  unfold MTail
  rw [show σ.1 100 19 = nI (k + 1) from b1]
  refine ok_cal (m_placesOf hk hh1) ?_
  rintro r12 s13 ⟨rfl, f13⟩
  have e13 : s13.1 100 = σ.1 100 := f13.1 100 (by decide)
  have i13 : IM s13 n O tx l (true, k, sp, h, q, g) := im_s hI f13 (fun x hx => by omega)
  rw [e13, show σ.1 100 22 = nI q from b4, show σ.1 100 19 = nI (k + 1) from b1, show σ.1 100 20 = nI sp from b2, q_mm, q_0, q_1, q_8, y_bt hpl (by omega), f1, if_neg b_f1, bd_s]
  refine ok_cal (m_reckonI i13 hk s1 s3) ?_
  rintro u s16 ⟨c1, c2, c3, c4⟩
  have e16 : ∀ j, s16.1 100 j = σ.1 100 j := fun j => by rw [c4.2.1 j id, e13]
  have f16 : Fr (fun x => 100 ≤ x) σ s16 := fr_trans (fr_mono f13 (fun x hx => by omega)) (fm_ge c4 (fun x hx => by omega))
  rw [jn0, if_pos rfl, if_neg (nI_mm (by omega)), e16 22, show σ.1 100 22 = nI q from b4, pk_mul, nI_add, y_ck _ (by omega) (by omega), nI_clamp (by omega), c2 h2 q hh2 hq, hfl, y_bt hFl (by omega), f3, if_pos b_f0]
  exact ok_some ⟨rfl, c3, f16⟩
end TURN2
