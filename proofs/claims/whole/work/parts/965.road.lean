section ROAD
variable {σ s : St} {n c l : Nat} {O tx : Nat → Nat} {p : Pl}
theorem st_road (hI : Inv σ n O c tx l p) (hc : c < 100000) (v1 v2 : Int32) (bo is : Bool) {R : Type} {K : St → Option R} {Q : R → Prop} (hK : ∀ t O' c' p', c' ≤ c + 1 → Inv t n O' c' tx l p' → Ok (K t) Q) : Ok (cal (f_X9_road σ v1 v2 (nI bo.toNat) (nI is.toNat)) fun r s1 => cal (f_X10_road s1 v1 v2 (nI bo.toNat) (nI is.toNat)) fun r2 s2 => if r = r2 then K s2 else none) Q := by
  have h8 := hI.1.nc.np.h8
  have bad : f_X9_road σ v1 v2 (nI bo.toNat) (nI is.toNat) = some (M2, σ) → (∀ t, IM t n O tx l p → f_X10_road t v1 v2 (nI bo.toNat) (nI is.toNat) = some (M2, t)) → Ok (cal (f_X9_road σ v1 v2 (nI bo.toNat) (nI is.toNat)) fun r s1 => cal (f_X10_road s1 v1 v2 (nI bo.toNat) (nI is.toNat)) fun r2 s2 => if r = r2 then K s2 else none) Q := by
    intro w1 w2
    refine both hI (A := fun x => x = M2) (fun x y a b => a.trans b.symm) ?_ (fun t ht' => ?_) hI.2.2 (fun t ht => hK t O c p (by omega) ht)
    · rw [w1]; exact ok_some ⟨rfl, hI.1, fr_refl⟩
    · rw [w2 t ht']; exact ok_some ⟨rfl, ht', fr_refl⟩
  rcases place_dich hI.1.nc.z v1 with ⟨a, ha, rfl, k1⟩ | ⟨k1, k2⟩
  · rcases place_dich hI.1.nc.z v2 with ⟨b, hb, rfl, l1⟩ | ⟨l1, l2⟩
    · by_cases hab : a = b
      · refine bad ?_ (fun t ht' => ?_)
        · unfold f_X9_road
          rw [k1, calP_s, q_0, if_neg b_10, l1, calP_s, if_neg b_10, if_pos (by rw [hab])]; rfl
        · unfold f_X10_road
          rw [e_isPlace ht'.nm (by omega), calP_s, decide_eq_true ha, q_0, if_neg b_t0, e_isPlace ht'.nm (by omega), calP_s, decide_eq_true hb, if_neg b_t0, if_pos (by rw [hab])]; rfl
      · have hba : b ≠ a := fun w => hab w.symm
        have hbit1 : (sO O a b is a).testBit b = is := by rw [sO_tb, if_pos ⟨rfl, rfl⟩]
        have hbit2 : (sO (sO O a b is) b a is a).testBit b = is := by rw [sO_tb, if_neg (fun w => hab w.1)]; exact hbit1
        refine both hI (A := fun x => x = nI is.toNat) (O' := if bo = true then sO (sO O a b is) b a is else sO O a b is) (c' := c + 1) (p' := P0) (fun x y a b => a.trans b.symm) ?_ (fun t ht' => ?_) (fun w => by cases w) (fun t ht => hK t _ _ _ (Nat.le_refl _) ht)
        · unfold f_X9_road
          rw [k1, calP_s, q_0, q_1, if_neg b_10, l1, calP_s, if_neg b_10, if_neg (nI_ne (by omega) (by omega) hab)]
          refine ok_cal (e_set hI.1.nc.z ha hb hab is) ?_
          rintro u s3 ⟨m1, m2⟩
          have c3 : s3.1 1 1 = nI c := by rw [m2.1 1 (by omega)]; exact hI.1.nc.ch
          have fin : ∀ s4 O', N0 s4 n O' → s4.1 1 1 = nI c → Fr (fun x => x ≤ 5) σ s4 → (O' a).testBit b = is → Ok (cal (f_X3_settle s4) fun _ s6 => cal (f_X5_end s6) fun _ s7 => calP (f_X3_outOf s7 (nI a)) fun r8 => calP (f_X9_has s7 r8 (nI b)) fun r9 => (if r9 = nI 0 then some (nI 0, s7) else some (nI 1, s7))) (fun x => x.1 = nI is.toNat ∧ IC x.2 n O' (c + 1) tx l P0 ∧ Fr (fun x => x < 100) σ x.2) := by
            intro s4 O' w1 w2 w3 w4
            refine ok_cal (e_settle w1 w2) ?_
            rintro u s6 ⟨y1, y2⟩
            unfold f_X5_end
            rw [bd_s, bd_s, cal_s, q_0]
            have n7 : NC (setI (setI s6 13 0 (nI 0)) 13 5 (nI 0)) n O' (c + 1) := nc_fr y1 (P := fun x => x = 13) (fr_setI (fr_setI fr_refl rfl) rfl) (fun x hx => by omega)
            have fB : Fr (fun x => x ≤ 5 ∨ x = 13) σ (setI (setI s6 13 0 (nI 0)) 13 5 (nI 0)) := fr_setI (fr_setI (fr_trans (fr_mono w3 (fun x hx => Or.inl hx)) (fr_mono y2 (fun x hx => by omega))) (Or.inr rfl)) (Or.inr rfl)
            have hOl := n7.np.lt8 a
            rw [e_outOf n7.z (by omega), calP_s, e_has (by omega) (by omega), calP_s, w4]
            have ic : IC (setI (setI s6 13 0 (nI 0)) 13 5 (nI 0)) n O' (c + 1) tx l P0 := by
              refine ic_new fB hI.1 hc n7 (fun x hx => by omega) (tcx_eq hI.1.tc (by rw [fB.1 6 (by omega)]) (fB.1 7 (by omega))) ⟨?_, ?_, fun w => by cases w⟩
              · rw [gsI_s, if_neg (by decide), gsI_s, if_pos rfl]; rfl
              · rw [gsI_s, if_pos rfl]; rfl
            have fr' : Fr (fun x => x < 100) σ (setI (setI s6 13 0 (nI 0)) 13 5 (nI 0)) := fr_mono fB (fun x hx => by omega)
            cases is with
            | true => rw [if_neg b_t0]; exact ok_some ⟨rfl, ic, fr'⟩
            | false => rw [if_pos b_f0]; exact ok_some ⟨rfl, ic, fr'⟩
          rw [jn1]
          cases bo with
          | false =>
            rw [if_pos b_f0]
            exact fin s3 _ m1 c3 (fr_mono m2 (fun x hx => by omega)) hbit1
          | true =>
            rw [if_neg b_t0]
            refine ok_cal (e_set m1 hb ha hba is) ?_
            rintro u s10 ⟨o1, o2⟩
            exact fin s10 _ o1 (by rw [o2.1 1 (by omega)]; exact c3) (fr_trans (fr_mono m2 (fun x hx => by omega)) (fr_mono o2 (fun x hx => by omega))) hbit2
        · unfold f_X10_road
          rw [e_isPlace ht'.nm (by omega), calP_s, decide_eq_true ha, q_mm, q_0, q_1, if_neg b_t0, e_isPlace ht'.nm (by omega), calP_s, decide_eq_true hb, if_neg b_t0, if_neg (nI_ne (by omega) (by omega) hab), jn1]
          dsimp only
          rw [y_ck _ (show a < 8 by omega) (by omega), y_ck _ (show a < 8 by omega) (by omega), nI_clamp (show a < 2 ^ 31 by omega), ht'.nm.r a (by omega), y_pw (show b < 8 by omega), y_nd, z_or]
          have fin : ∀ s6 O', NM s6 n O' → Fm (fun c => c = 101) (fun _ => False) t s6 → (O' a).testBit b = is → Ok (cal (f_X10_forget s6) fun _ s8 => ck (nI a) 8 <| some ((((s8.1 101 a) >>> (nI b &&& 31)) &&& nI 1), s8)) (fun x => x.1 = nI is.toNat ∧ IM x.2 n O' tx l P0 ∧ Fr (fun x => 100 ≤ x) t x.2) := by
            intro s6 O' w1 w2 w3
            refine ok_cal (im_new w1 (tm_fm ht'.tm w2 id (by omega))) ?_
            rintro u s8 ⟨y1, y2, y3⟩
            rw [y_ck _ (by omega) (by omega), y2.r a (by omega), y_bt (Nat.lt_trans (nd_lt (y2.np.lt8 a)) (by decide)) (by omega), nd_tb, tb_pow, decide_eq_false hab, w3, Bool.not_false, Bool.and_true]
            exact ok_some ⟨rfl, y1, fr_trans (fm_ge w2 (fun x hx => by omega)) y3⟩
          have sec : ∀ v, v = nI (if is = true then nd (O a) (2 ^ a) ||| 2 ^ b else nd (nd (O a) (2 ^ a)) (2 ^ b)) → Ok (bd (setI t 101 a v) fun s5 =>
                    jn1 (fun jk7 =>
                      (if nI bo.toNat = nI 0 then
                        jk7 s5
                         else
                        (if nI is.toNat = nI 0 then
                          ck (nI b) 8 <|
                            ck (nI b) 8 <|
                              bd (setI s5 101 (nI b).toNatClampNeg ((s5.1 101 (nI b).toNatClampNeg) &&& ((nI 1 <<< (nI a &&& 31)) ^^^ M1))) fun s9 =>
                                jk7 s9
                           else
                          ck (nI b) 8 <|
                            ck (nI b) 8 <|
                              bd (setI s5 101 (nI b).toNatClampNeg ((s5.1 101 (nI b).toNatClampNeg) ||| (nI 1 <<< (nI a &&& 31)))) fun s10 =>
                                jk7 s10)))
                      (fun (s6 : St) => 
                      cal (f_X10_forget s6) fun _ s8 =>
                          ck (nI a) 8 <|
                            some ((((s8.1 101 a) >>> (nI b &&& 31)) &&& nI 1), s8))) (fun x => x.1 = nI is.toNat ∧ IM x.2 n (if bo = true then sO (sO O a b is) b a is else sO O a b is) tx l P0 ∧ Fr (fun x => 100 ≤ x) t x.2) := by
            intro v hv
            have n5 := nm_set ht'.nm ha hb hab is hv
            have f5 : Fm (fun c => c = 101) (fun _ => False) t (setI t 101 a v) := fm_setI fm_refl rfl (by decide)
            rw [bd_s, jn1]
            generalize setI t 101 a v = s5 at n5 f5 ⊢
            dsimp only
            cases bo with
            | false => rw [if_pos b_f0]; exact fin s5 _ n5 f5 hbit1
            | true =>
              rw [if_neg b_t0, y_ck _ (by omega) (by omega), y_ck _ (by omega) (by omega), nI_clamp (show b < 2 ^ 31 by omega), n5.r b (by omega), y_pw (show a < 8 by omega), y_nd, z_or, bd_s, bd_s]
              cases is with
              | true =>
                rw [if_neg b_t0, y_ck _ (by omega) (by omega), y_ck _ (by omega) (by omega)]
                exact fin _ _ (nm_set n5 hb ha hba true (by rw [if_pos rfl])) (fm_setI f5 rfl (by decide)) hbit2
              | false =>
                rw [if_pos b_f0]
                exact fin _ _ (nm_set n5 hb ha hba false (by rw [if_neg (by decide)])) (fm_setI f5 rfl (by decide)) hbit2
          cases is with
          | true => rw [if_neg b_t0, y_ck _ (by omega) (by omega), y_ck _ (by omega) (by omega)]; exact sec _ (by rw [if_pos rfl])
          | false => rw [if_pos b_f0]; exact sec _ (by rw [if_neg (by decide)])
    · refine bad ?_ (fun t ht' => ?_)
      · unfold f_X9_road
        rw [k1, calP_s, q_0, if_neg b_10, l1, calP_s, if_pos rfl]; rfl
      · unfold f_X10_road
        rw [e_isPlace ht'.nm (by omega), calP_s, decide_eq_true ha, q_0, if_neg b_t0, l2 t ht'.nm, calP_s, if_pos rfl]; rfl
  · refine bad ?_ (fun t ht' => ?_)
    · unfold f_X9_road
      rw [k1, calP_s, q_0, if_pos rfl]; rfl
    · unfold f_X10_road
      rw [k2 t ht'.nm, calP_s, q_0, if_pos rfl]; rfl
end ROAD
