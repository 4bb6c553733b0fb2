/-! the reference's chase: its levels -/
section LEVELS
variable {σ : St} {n k s : Nat} {O : Nat → Nat}
/-- the rounds when a level is done -/
def nv (v : Nat → Nat → Nat) (L : Nat → Nat) (t h p : Nat) : Nat := if (L h).testBit p = true ∧ v h p = 1048576 then t else v h p
theorem m_level (hN : NM σ n O) (hk : k < 3) (h1 : 1 ≤ s) (h3 : s ≤ 3) {v : Nat → Nat → Nat} {t : Nat} (ht : t < 8000) (hL : LFT σ n k s v) {G : Nat → Nat} (hG : ∀ x, Sg n (k + 1) x → σ.1 107 x = nI (G x)) (hG8 : ∀ x, G x < 256) {R : Type} {K : St → Int32 → Option R} {Q : R → Prop} (hK : ∀ x, ∀ b : Bool, LFT x n k s (nv v (fun h => lU O k h G (8 ^ (k + 1))) t) → (b = true → ∃ h p, Sg n (k + 1) h ∧ p < n ∧ (lU O k h G (8 ^ (k + 1))).testBit p = true ∧ v h p = 1048576) → (b = false → ∀ h p, Sg n (k + 1) h → p < n → ¬ ((lU O k h G (8 ^ (k + 1))).testBit p = true ∧ v h p = 1048576)) → Ko (4096 * (3 * k + s - 1)) σ x → Fr (fun c => c = 105 ∨ c = 108 ∨ c = 109) σ x → Ok (K x (nI b.toNat)) Q) : Ok (lo3 FU (fun rec26 (s23 : St) (x24 : Int32) (x25 : Int32) =>
                          calP (f_X10_powerOf s23 (nI (k + 1))) fun r28 =>
                            (if x25 < r28 then
                              cal (f_X10_isSetting s23 (nI (k + 1)) x25) fun r29 s30 =>
                                jn2 (fun jk33 =>
                                  (if r29 = 0 then
                                    jk33 s30 (0 : Int32)
                                     else
                                    cal (f_X10_leavable s30 (nI (k + 1)) x25) fun r42 s43 =>
                                      jk33 s43 r42))
                                  (fun (s31 : St) (x32 : Int32) => 
                                  lo3 FU (fun rec37 (s34 : St) (x35 : Int32) (x36 : Int32) =>
                                      (if x36 < (s34.1 100 0) then
                                        (if ((x32 >>> (x36 &&& 31)) &&& (1 : Int32)) = (1 : Int32) then
                                          calP (f_X10_at s34 (nI (k + 1)) (nI s) x25 x36) fun r39 =>
                                            ck r39 36864 <|
                                              (if (s34.1 105 r39.toNatClampNeg) = (-1 : Int32) then
                                                calP (f_X10_at s34 (nI (k + 1)) (nI s) x25 x36) fun r40 =>
                                                  ck r40 36864 <|
                                                    bd (setI s34 105 r40.toNatClampNeg (nI t)) fun s41 =>
                                                      rec37 s41 (1 : Int32) (x36 + 1)
                                                 else
                                                rec37 s34 x35 (x36 + 1))
                                           else
                                          rec37 s34 x35 (x36 + 1))
                                         else
                                        rec26 s34 x35 (x25 + 1))) s31 x24 (0 : Int32))
                               else
                              K s23 x24)) σ (0 : Int32) (0 : Int32)) Q := by
  have h512 := p8_le k hk
  have h8 := hN.np.h8
  have hLl : ∀ h, lU O k h G (8 ^ (k + 1)) < 256 := fun h => lt_tb (n := 8) (fun i hi => by
    cases hb : (lU O k h G (8 ^ (k + 1))).testBit i with
    | false => rfl
    | true =>
      obtain ⟨r, -, -, q⟩ := (lU_tb (k := k) (O := O) h i G (8 ^ (k + 1))).mp hb
      rw [tb_ge (n := 8) (hG8 _) hi] at q
      cases q)
  rw [q_0]
  refine lo3_for (fun j x y => (∃ b : Bool, y = nI b.toNat ∧ (b = true → ∃ h p, Sg n (k + 1) h ∧ p < n ∧ (lU O k h G (8 ^ (k + 1))).testBit p = true ∧ v h p = 1048576) ∧ (b = false → ∀ h p, h < j → Sg n (k + 1) h → p < n → ¬ ((lU O k h G (8 ^ (k + 1))).testBit p = true ∧ v h p = 1048576))) ∧ LFT x n k s (fun h p => if h < j then nv v (fun h => lU O k h G (8 ^ (k + 1))) t h p else v h p) ∧ Ko (4096 * (3 * k + s - 1)) σ x ∧ Fr (fun c => c = 105 ∨ c = 108 ∨ c = 109) σ x) (8 ^ (k + 1)) ?_ ?_ FU 0 _ _ (Nat.zero_le _) (fu_lt (by omega)) ⟨⟨false, rfl, (fun e => Bool.noConfusion e), fun _ h p hh => by omega⟩, ?_, fun _ _ => rfl, fr_refl⟩
  · rintro rec h x y hh ⟨⟨b, rfl, b1, b2⟩, e1, e2, e3⟩ kk
    have hx := nm_fr hN e3 (by omega) (by omega)
    rw [e_power hk, calP_s, if_pos (nI_lt hh (by omega))]
    refine ok_cal (m_isSetting hx hk hh) (fun w s1 ⟨w1, w2⟩ => ?_)
    dsimp only at w1 w2
    subst w1
    have f1 : Fr (fun c => c = 105 ∨ c = 108 ∨ c = 109) σ s1 := fr_trans e3 (fr_mono w2 (fun c hc => Or.inr (Or.inl hc)))
    have hx1 := nm_fr hN f1 (by omega) (by omega)
    have hc1 : s1.1 105 = x.1 105 := w2.1 _ (by omega)
    rw [jn2]
    -- the walk over the places, for the set L
    have walk : ∀ (s2 : St) (L : Nat), L < 256 → (Sg n (k + 1) h → L = lU O k h G (8 ^ (k + 1))) → (¬ Sg n (k + 1) h → L = 0) → s2.1 105 = x.1 105 → Fr (fun c => c = 105 ∨ c = 108 ∨ c = 109) σ s2 → Ok (lo3 FU (fun rec37 (s34 : St) (x35 : Int32) (x36 : Int32) =>
                                      (if x36 < (s34.1 100 0) then
                                        (if ((nI L >>> (x36 &&& 31)) &&& (1 : Int32)) = (1 : Int32) then
                                          calP (f_X10_at s34 (nI (k + 1)) (nI s) (nI h) x36) fun r39 =>
                                            ck r39 36864 <|
                                              (if (s34.1 105 r39.toNatClampNeg) = (-1 : Int32) then
                                                calP (f_X10_at s34 (nI (k + 1)) (nI s) (nI h) x36) fun r40 =>
                                                  ck r40 36864 <|
                                                    bd (setI s34 105 r40.toNatClampNeg (nI t)) fun s41 =>
                                                      rec37 s41 (1 : Int32) (x36 + 1)
                                                 else
                                                rec37 s34 x35 (x36 + 1))
                                           else
                                          rec37 s34 x35 (x36 + 1))
                                         else
                                        rec s34 x35 (nI h + 1))) s2 (nI b.toNat) (nI 0)) Q := by
      intro s2 L hLL hLs hLn hc2 f2
      refine lo3_for (fun j x y => (∃ b : Bool, y = nI b.toNat ∧ (b = true → ∃ h p, Sg n (k + 1) h ∧ p < n ∧ (lU O k h G (8 ^ (k + 1))).testBit p = true ∧ v h p = 1048576) ∧ (b = false → ∀ h' p, (h' < h ∨ h' = h ∧ p < j) → Sg n (k + 1) h' → p < n → ¬ ((lU O k h' G (8 ^ (k + 1))).testBit p = true ∧ v h' p = 1048576))) ∧ LFT x n k s (fun h' p => if h' < h ∨ h' = h ∧ p < j then nv v (fun h => lU O k h G (8 ^ (k + 1))) t h' p else v h' p) ∧ Ko (4096 * (3 * k + s - 1)) σ x ∧ Fr (fun c => c = 105 ∨ c = 108 ∨ c = 109) σ x) n ?_ ?_ FU 0 _ _ (by omega) (fu_lt (by omega)) ⟨⟨b, rfl, b1, fun e h' p hh' hs hp => b2 e h' p (by omega) hs hp⟩, ?_, ko_eq e2 hc2, f2⟩
      · rintro rec2 p x y hp ⟨⟨b, rfl, b1, b2⟩, g1, g2, g3⟩ k2
        have hy := nm_fr hN g3 (by omega) (by omega)
        have hbit : (nI L >>> (nI p &&& 31)) &&& (1 : Int32) = nI (L.testBit p).toNat := by
          simp (disch := omega) only [q_0, q_1, q_2, q_3, q_4, q_5, q_6, q_7, q_8, q_9, q_15, q_16, q_31, q_32, q_48, q_57, q_59, q_63, q_64, q_97, q_100, q_122, q_127, q_160, q_255, q_256, q_512, q_1024, q_2816, q_4096, q_16384, q_1048576, q_m1, q_m2, q_m3, q_m4, q_m5, bd_s, calP_s, cal_s, nI_add, pk_mul, pk_sub, z_and, z_or, z_xor, y_nd, y_shl, y_shr, y_tb, y_ck, nI_ltI, nI_eq, nI_clamp, y_m1a, y_m1b, y_m1c, y_m1d, y_m1e, y_b0, y_b1, y_and255, gsI_o, gsI_s, gsI_2, gsR_o, gsR_s, gsR_2, gsL_1, gsL_o, gsL_s, jn0, jn1, jn2, jn3, jn4, jn5, ↓reduceIte, if_true, if_false, ite_self, ne_eq, not_true_eq_false, not_false_eq_true, and_true, true_and, and_false, false_and, Nat.reduceAdd, Nat.reduceMul, Nat.reduceSub, Nat.reducePow, Nat.reduceLT, Nat.reduceEqDiff, Nat.reduceLeDiff, Nat.not_lt_zero, Nat.add_sub_cancel, Nat.add_zero, Nat.zero_add, pk_div, y_dn, Nat.one_mul, Nat.mul_one, reduceCtorEq]
        have skip : (Sg n (k + 1) h → ¬ ((lU O k h G (8 ^ (k + 1))).testBit p = true ∧ v h p = 1048576)) → Ok (rec2 x (nI b.toNat) (nI (p + 1))) Q := fun hz => k2 _ _ ⟨⟨b, rfl, b1, fun e h' p' hh' hs hp' => by
            by_cases q : h' = h ∧ p' = p
            · obtain ⟨rfl, rfl⟩ := q; exact hz hs
            · exact b2 e h' p' (by omega) hs hp'⟩, fun h' p' hs hp' => by
            have g := g1 h' p' hs hp'
            by_cases q : h' = h ∧ p' = p
            · obtain ⟨rfl, rfl⟩ := q
              have hn : nv v (fun h => lU O k h G (8 ^ (k + 1))) t h' p' = v h' p' := if_neg (hz hs)
              simp only [hn, ite_self] at g ⊢
              exact g
            · have e : (h' < h ∨ h' = h ∧ p' < p + 1) ↔ (h' < h ∨ h' = h ∧ p' < p) := by omega
              simp only [e]
              exact g, g2, g3⟩
        rw [hy.pl, if_pos (nI_lt hp (by omega)), hbit, q_mm, q_1, nI_add]
        cases hb : L.testBit p with
        | false =>
          rw [if_neg (show ¬ nI false.toNat = nI 1 by decide)]
          exact skip (fun hs q => by rw [← hLs hs, hb] at q; exact Bool.noConfusion q.1)
        | true =>
          by_cases hsg : Sg n (k + 1) h
          · have g := g1 h p hsg hp
            dsimp only at g
            rw [if_neg (by omega)] at g
            have hLe := hLs hsg
            rw [if_pos (show nI true.toNat = nI 1 from rfl), e_at hk h1 h3 (by omega) (by omega), calP_s, y_ck _ (by omega) (by omega), nI_clamp (by omega), g.2]
            by_cases q : v h p = 1048576
            · rw [if_pos ((mv_m1 g.1).mpr q), calP_s, y_ck _ (by omega) (by omega), bd_s, nI_clamp (by omega)]
              refine k2 _ _ ⟨⟨true, rfl, fun _ => ⟨h, p, hsg, hp, by rw [← hLe]; exact hb, q⟩, (fun e => Bool.noConfusion e)⟩, fun h' p' hs hp' => ?_, ko_set g2 (by omega) (by omega), fr_setI g3 (Or.inl rfl)⟩
              have hh' := hs.1.1
              have g' := g1 h' p' hs hp'
              dsimp only at g' ⊢
              rw [gsI_s]
              by_cases q2 : h' = h ∧ p' = p
              · obtain ⟨rfl, rfl⟩ := q2
                have hn : nv v (fun h => lU O k h G (8 ^ (k + 1))) t h' p' = t := if_pos ⟨(show (lU O k h' G (8 ^ (k + 1))).testBit p' = true by rw [← hLe]; exact hb), q⟩
                rw [if_pos rfl, if_pos (by omega), hn, mv_n (by omega)]
                exact ⟨by omega, rfl⟩
              · have e : (h' < h ∨ h' = h ∧ p' < p + 1) ↔ (h' < h ∨ h' = h ∧ p' < p) := by omega
                have e2 : ¬ (4096 * (3 * k + s - 1) + 8 * h' + p' = 4096 * (3 * k + s - 1) + 8 * h + p) := by omega
                rw [if_neg e2]
                simp only [e]
                exact g'
            · rw [if_neg (fun e => q ((mv_m1 g.1).mp e))]
              exact skip (fun _ e => q e.2)
          · rw [hLn hsg] at hb
            simp at hb
      · rintro rec2 x y ⟨⟨b, rfl, b1, b2⟩, g1, g2, g3⟩
        have hy := nm_fr hN g3 (by omega) (by omega)
        rw [hy.pl, if_neg (nI_nlt (Nat.le_refl _) (by omega)), q_1, nI_add]
        refine kk _ _ ⟨⟨b, rfl, b1, fun e h' p hh' hs hp => b2 e h' p (by omega) hs hp⟩, fun h' p hs hp => ?_, g2, g3⟩
        have g := g1 h' p hs hp
        have e : (h' < h ∨ h' = h ∧ p < n) ↔ h' < h + 1 := by omega
        simp only [e] at g
        exact g
      · intro h' p hs hp
        have g := e1 h' p hs hp
        have e : (h' < h ∨ h' = h ∧ p < 0) ↔ h' < h := by omega
        simp only [e]
        rw [hc2]
        exact g
    cases hb : (vrB n (k + 1) h && decide (srt (k + 1) h = h)) with
    | false =>
      rw [if_pos (show nI false.toNat = nI 0 from rfl)]
      exact walk s1 0 (by decide) (fun hs => by rw [sg_iff.mpr hs] at hb; cases hb) (fun _ => rfl) hc1 f1
    | true =>
      have hsg := sg_iff.mp hb
      rw [if_neg (show ¬ nI true.toNat = nI 0 by decide)]
      refine ok_cal (m_leavable hx1 hk hsg.1 (G := G) (fun z hz => by rw [f1.1 107 (by omega)]; exact hG z hz)) (fun w s2 ⟨w3, w4⟩ => ?_)
      dsimp only at w3 w4
      subst w3
      exact walk s2 _ (hLl h) (fun _ => rfl) (fun e => (e hsg).elim) ((w4.1 105 (by unfold scr; omega)).trans hc1) (fr_trans f1 (fr_mono w4 (fun c hc => by unfold scr at hc; omega)))
  · rintro rec x y ⟨⟨b, rfl, b1, b2⟩, e1, e2, e3⟩
    rw [e_power hk, calP_s, if_neg (nI_nlt (Nat.le_refl _) (by omega))]
    refine hK x b (fun h p hs hp => ?_) b1 (fun e h p hs hp => b2 e h p hs.1.1 hs hp) e2 e3
    have g := e1 h p hs hp
    have := hs.1.1
    simp only [this, if_true] at g
    exact g
  · intro h p hs hp
    have g := hL h p hs hp
    simp only [Nat.not_lt_zero, if_false]
    exact g
end LEVELS
