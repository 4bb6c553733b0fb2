section CALLS
variable {σ s : St} {n c l : Nat} {O tx : Nat → Nat} {p : Pl}
theorem bothPM {R : Type} {f : Option Int32} {g : Option (Int32 × St)} {K : St → Option R} {Q : R → Prop} {A : Int32 → Prop} (hI : Inv σ n O c tx l p) (ha : ∀ x y, A x → A y → x = y) (h1 : Ok f A) (h2 : Ok g (fun q => A q.1 ∧ IM q.2 n O tx l p ∧ Fr (fun x => 100 ≤ x) σ q.2)) (hK : ∀ t, Inv t n O c tx l p → Ok (K t) Q) : Ok (calP f fun r => cal g fun r2 s2 => if r = r2 then K s2 else none) Q := by
  refine ok_calP h1 ?_
  intro r a1
  refine ok_cal h2 ?_
  rintro r2 s2 ⟨b1, b2, b3⟩
  rw [if_pos (ha _ _ a1 b1)]
  exact hK s2 ⟨ic_out hI.1 b3 (fun x hx => by omega), b2, hI.2.2⟩
theorem bothPP {R : Type} {f g : Option Int32} {K : Option R} {Q : R → Prop} {x : Int32} (h1 : f = some x) (h2 : g = some x) (hK : Ok K Q) : Ok (calP f fun r => calP g fun r2 => if r = r2 then K else none) Q := by
  rw [h1, h2, calP_s, calP_s, if_pos rfl]; exact hK
theorem ge_m1 (v : Int32) : v < M1 ∨ (¬ v < M1 ∧ (v = M1 ∨ ∃ i, i < 2 ^ 31 ∧ v = nI i)) := by
  by_cases h : v < M1
  · exact Or.inl h
  · refine Or.inr ⟨h, ?_⟩
    rcases i_cases v with h1 | h1
    · left
      rw [Int32.lt_iff_toInt_lt] at h h1
      have e1 : (nI 0).toInt = 0 := by decide
      have e2 : M1.toInt = -1 := by decide
      exact Int32.toInt_inj.mp (by omega)
    · exact Or.inr h1
theorem st_steps (hI : Inv σ n O c tx l p) (v : Int32) {R : Type} {K : Option R} {Q : R → Prop} (hK : Ok K Q) : Ok (calP (f_X9_steps σ v) fun r => calP (f_X10_steps σ v) fun r2 => if r = r2 then K else none) Q := by
  rcases place_dich hI.1.nc.z v with ⟨q, hq, rfl, k1⟩ | ⟨k1, k2⟩
  · have h8 := hI.1.nc.np.h8
    refine bothPP (x := nI (O q)) ?_ ?_ hK
    · unfold f_X9_steps
      rw [k1, calP_s, q_0, if_neg b_10, e_outOf hI.1.nc.z (by omega), calP_s]
    · unfold f_X10_steps
      rw [e_isPlace hI.2.1.nm (by omega), calP_s, decide_eq_true hq, q_0, if_neg b_t0, e_stepsOf hI.2.1.nm hq, calP_s]
  · refine bothPP (x := M2) ?_ ?_ hK
    · unfold f_X9_steps
      rw [k1, calP_s, q_0, if_pos rfl]; rfl
    · unfold f_X10_steps
      rw [k2 σ hI.2.1.nm, calP_s, q_0, if_pos rfl]; rfl
theorem st_far (hI : Inv σ n O c tx l p) (v1 v2 : Int32) {R : Type} {K : Option R} {Q : R → Prop} (hK : Ok K Q) : Ok (calP (f_X9_far σ v1 v2) fun r => calP (f_X10_far σ v1 v2) fun r2 => if r = r2 then K else none) Q := by
  have h8 := hI.1.nc.np.h8
  rcases place_dich hI.1.nc.z v1 with ⟨a, ha, rfl, k1⟩ | ⟨k1, k2⟩
  · rcases place_dich hI.1.nc.z v2 with ⟨b, hb, rfl, l1⟩ | ⟨l1, l2⟩
    · refine bothPP ?_ (e_far hI.2.1.nm ha hb) hK
      unfold f_X9_far
      rw [k1, calP_s, q_0, if_neg b_10, l1, calP_s, if_neg b_10, e_distance hI.1.nc ha hb, calP_s]
    · refine bothPP (x := M2) ?_ ?_ hK
      · unfold f_X9_far
        rw [k1, calP_s, q_0, if_neg b_10, l1, calP_s, if_pos rfl]; rfl
      · unfold f_X10_far
        rw [e_isPlace hI.2.1.nm (by omega), calP_s, decide_eq_true ha, q_0, if_neg b_t0, l2 σ hI.2.1.nm, calP_s, if_pos rfl]; rfl
  · refine bothPP (x := M2) ?_ ?_ hK
    · unfold f_X9_far
      rw [k1, calP_s, q_0, if_pos rfl]; rfl
    · unfold f_X10_far
      rw [k2 σ hI.2.1.nm, calP_s, q_0, if_pos rfl]; rfl
theorem st_count (hI : Inv σ n O c tx l p) (v : Int32) {R : Type} {K : Option R} {Q : R → Prop} (hK : Ok K Q) : Ok (calP (f_X9_count σ v) fun r => calP (f_X10_count σ v) fun r2 => if r = r2 then K else none) Q := by
  by_cases h0 : v = nI 0
  · subst h0
    refine bothPP (x := nI n) ?_ ?_ hK
    · unfold f_X9_count f_X3_places
      rw [q_0, if_pos rfl, hI.1.nc.pl, calP_s]
    · unfold f_X10_count
      rw [q_0, if_pos rfl, hI.2.1.nm.pl]
  · by_cases h1 : v = nI 1
    · subst h1
      refine bothPP ?_ (e_countM hI.2.1.nm) hK
      unfold f_X9_count
      rw [q_0, if_neg h0, q_1, if_pos rfl, e_pairs hI.1.nc.z, calP_s]
    · by_cases h2 : v = nI 2
      · subst h2
        refine bothPP (x := nI l) ?_ ?_ hK
        · unfold f_X9_count f_X7_length
          rw [q_0, if_neg h0, q_1, if_neg h1, q_2, if_pos rfl, hI.1.tc.l, calP_s]
        · unfold f_X10_count
          rw [q_0, if_neg h0, q_1, if_neg h1, q_2, if_pos rfl, hI.2.1.tm.l]
      · by_cases h3 : v = nI 3
        · subst h3
          refine bothPP (x := nI p.2.2.2.2.2) ?_ ?_ hK
          · unfold f_X9_count f_X5_gone
            rw [q_0, if_neg h0, q_1, if_neg h1, q_2, if_neg h2, q_3, if_pos rfl, hI.1.pl.2.1, calP_s]
          · unfold f_X10_count
            rw [q_0, if_neg h0, q_1, if_neg h1, q_2, if_neg h2, q_3, if_pos rfl, hI.2.1.pl.2.1]
        · refine bothPP (x := M3) ?_ ?_ hK
          · unfold f_X9_count
            rw [if_neg (show ¬ v = 0 from h0), if_neg (show ¬ v = 1 from h1), if_neg (show ¬ v = 2 from h2), if_neg (show ¬ v = 3 from h3)]; rfl
          · unfold f_X10_count
            rw [if_neg (show ¬ v = 0 from h0), if_neg (show ¬ v = 1 from h1), if_neg (show ¬ v = 2 from h2), if_neg (show ¬ v = 3 from h3)]; rfl
theorem st_least (hI : Inv σ n O c tx l p) (v : Int32) {R : Type} {K : Option R} {Q : R → Prop} (hK : Ok K Q) : Ok (calP (f_X9_least σ v) fun r => calP (f_X10_least σ v) fun r2 => if r = r2 then K else none) Q := by
  rcases aR v (lo := 0) (hi := 1) (by decide) (by decide) with ⟨b, b1, b2, rfl⟩ | h
  · rcases (show b = 0 ∨ b = 1 by omega) with rfl | rfl
    · refine bothPP ?_ (m_least hI.2.1.nm true) hK
      unfold f_X9_least
      rw [q_0, q_1, if_neg (show ¬ nI 0 < nI 0 by decide), if_neg (show ¬ nI 1 < nI 0 by decide), if_pos rfl, show nI 1 = nI true.toNat from rfl, e_leastSet hI.1.nc true, calP_s]
    · refine bothPP ?_ (m_least hI.2.1.nm false) hK
      unfold f_X9_least
      rw [q_0, q_1, if_neg (show ¬ nI 1 < nI 0 by decide), if_neg (show ¬ nI 1 < nI 1 by decide), if_neg b_10, show nI 0 = nI false.toNat from rfl, e_leastSet hI.1.nc false, calP_s]
  · refine bothPP (x := M3) ?_ ?_ hK
    · unfold f_X9_least
      rw [q_0, q_1]
      rcases h with h | ⟨h1, h2⟩
      · rw [if_pos h]; rfl
      · rw [if_neg h1, if_pos h2]; rfl
    · unfold f_X10_least
      rw [q_0, q_1, in_out h, calP_s, if_pos rfl]; rfl
theorem st_away (hI : Inv σ n O c tx l p) (v : Int32) {R : Type} {K : St → Option R} {Q : R → Prop} (hK : ∀ t, Inv t n O c tx l p → Ok (K t) Q) : Ok (calP (f_X9_away σ v) fun r => cal (f_X10_away σ v) fun r2 s2 => if r = r2 then K s2 else none) Q := by
  rcases ge_m1 v with h | ⟨h, hv⟩
  · refine bothPM hI (A := fun x => x = M3) (fun x y a b => a.trans b.symm) ?_ ?_ hK
    · unfold f_X9_away
      rw [q_mm, if_pos h]; exact ok_some rfl
    · unfold f_X10_away
      rw [if_pos (show v < -1 from h)]; exact ok_some ⟨rfl, hI.2.1, fr_refl⟩
  · refine bothPM hI (A := AW n O v) (fun x y => aw_fun) ?_ ?_ hK
    · unfold f_X9_away
      rw [q_mm, if_neg h]
      exact ok_calP (e_takenAway hI.1.nc.z hv) (fun x hx => ok_some hx)
    · refine ok_mono (m_away hI.2.1.nm hv) ?_
      rintro q ⟨q1, q2⟩
      exact ⟨q1, im_mk q2 hI.2.1 (by omega) (by omega) (tm_fm hI.2.1.tm q2 (by omega) (by omega)) (Or.inl ⟨by omega, by omega⟩) (Or.inl ⟨by omega, by omega, by omega⟩) (Or.inl ⟨by omega, by omega, by omega⟩) (pm_eq hI.2.1.pl (fun k h1 h2 => q2.2.1 k (by omega))), fm_ge q2 (fun x hx => by omega)⟩
theorem st_now (hI : Inv σ n O c tx l p) (v : Int32) {R : Type} {K : St → Option R} {Q : R → Prop} (hK : ∀ t, Inv t n O c tx l p → Ok (K t) Q) : Ok (calP (f_X9_now σ v) fun r => cal (f_X10_now σ v) fun r2 s2 => if r = r2 then K s2 else none) Q := by
  obtain ⟨on, k, sp, h, q, g⟩ := p
  have h8 := hI.1.nc.np.h8
  obtain ⟨a1, a2, a3⟩ := hI.1.pl
  obtain ⟨m1, m2, m3⟩ := hI.2.1.pl
  rcases aR v (lo := 0) (hi := 3) (by decide) (by decide) with ⟨b, b1, b2, rfl⟩ | hv
  · cases on with
    | false =>
      refine bothPM hI (A := fun x => x = M4) (fun x y a b => a.trans b.symm) ?_ ?_ hK
      · unfold f_X9_now f_X5_isOn
        rw [q_0, q_3, if_neg (nI_nlt (Nat.zero_le _) (by omega)), if_neg (nI_nlt b2 (by omega)), show σ.1 13 0 = nI false.toNat from a1, y_ckZ, calP_s, if_pos b_f0]
        exact ok_some rfl
      · unfold f_X10_now
        rw [q_0, q_3, in_ok b1 b2 (by decide), calP_s, if_neg b_10, show σ.1 100 24 = nI false.toNat from m1, if_pos b_f0]
        exact ok_some ⟨rfl, hI.2.1, fr_refl⟩
    | true =>
      obtain ⟨hk, s1, s3, hsg, hq⟩ := hI.2.2 rfl
      replace hk : k < 3 := hk
      replace hsg : Sg n (k + 1) h := hsg
      replace hq : q < n := hq
      obtain ⟨c1, c2, c3, c4⟩ := a3 rfl
      obtain ⟨o1, o2, o3, o4⟩ := m3 rfl
      refine bothPM hI (A := fun x => x = if b = 0 then nI h else if b = 1 then nI q else if b = 2 then nI g else nI ((plc (dgs (k + 1) h)).testBit q).toNat) (fun x y a b => a.trans b.symm) ?_ ?_ hK
      · unfold f_X9_now f_X5_isOn f_X5_setting f_X5_place f_X5_gone
        rw [q_0, q_3, if_neg (nI_nlt (Nat.zero_le _) (by omega)), if_neg (nI_nlt b2 (by omega)), show σ.1 13 0 = nI true.toNat from a1, y_ckZ, calP_s, if_neg b_t0, q_1, q_2, show σ.1 13 3 = nI h from c3, show σ.1 13 4 = nI q from c4, show σ.1 13 5 = nI g from a2, e_caught hI.1.st hk c1 c3 c4 hsg.1.1 (by show q < 8; omega)]
        rcases (show b = 0 ∨ b = 1 ∨ b = 2 ∨ b = 3 by omega) with rfl | rfl | rfl | rfl
        · rw [if_pos rfl, calP_s]; exact ok_some rfl
        · rw [if_neg b_10, if_pos rfl, calP_s]; exact ok_some rfl
        · rw [if_neg (by decide), if_neg (by decide), if_pos rfl, calP_s]; exact ok_some rfl
        · rw [if_neg (by decide), if_neg (by decide), if_neg (by decide), calP_s]
          show Ok (if nI ((plc (dgs (k + 1) h)).testBit q).toNat = nI 0 then some (nI 0) else some (nI 1)) _
          cases (plc (dgs (k + 1) h)).testBit q with
          | true => rw [if_neg b_t0]; exact ok_some rfl
          | false => rw [if_pos b_f0]; exact ok_some rfl
      · unfold f_X10_now
        rw [q_0, q_3, in_ok b1 b2 (by decide), calP_s, if_neg b_10, show σ.1 100 24 = nI true.toNat from m1, if_neg b_t0, q_1, q_2, show σ.1 100 21 = nI h from o3, show σ.1 100 22 = nI q from o4, show σ.1 100 23 = nI g from m2]
        rcases (show b = 0 ∨ b = 1 ∨ b = 2 ∨ b = 3 by omega) with rfl | rfl | rfl | rfl
        · rw [if_pos rfl]; exact ok_some ⟨rfl, hI.2.1, fr_refl⟩
        · rw [if_neg b_10, if_pos rfl]; exact ok_some ⟨rfl, hI.2.1, fr_refl⟩
        · rw [if_neg (by decide), if_neg (by decide), if_pos rfl]; exact ok_some ⟨rfl, hI.2.1, fr_refl⟩
        · rw [if_neg (by decide), if_neg (by decide), if_neg (by decide)]
          refine ok_cal (m_caught hk o1 o3 o4 hsg.1.1 (by show q < 8; omega)) ?_
          rintro r2 s3' ⟨rfl, f3⟩
          have i3 := im_s hI.2.1 f3 (fun x hx => by omega)
          have fr3 : Fr (fun x => 100 ≤ x) σ s3' := fr_mono f3 (fun x hx => by omega)
          show Ok (if nI ((plc (dgs (k + 1) h)).testBit q).toNat = nI 0 then some (nI 0, s3') else some (nI 1, s3')) _
          cases (plc (dgs (k + 1) h)).testBit q with
          | true => rw [if_neg b_t0]; exact ok_some ⟨rfl, i3, fr3⟩
          | false => rw [if_pos b_f0]; exact ok_some ⟨rfl, i3, fr3⟩
  · refine bothPM hI (A := fun x => x = M3) (fun x y a b => a.trans b.symm) ?_ ?_ hK
    · unfold f_X9_now
      rw [q_0, q_3]
      rcases hv with hv | ⟨hv1, hv2⟩
      · rw [if_pos hv]; exact ok_some rfl
      · rw [if_neg hv1, if_pos hv2]; exact ok_some rfl
    · unfold f_X10_now
      rw [q_0, q_3, in_out hv, calP_s, if_pos rfl]
      exact ok_some ⟨rfl, hI.2.1, fr_refl⟩
end CALLS
