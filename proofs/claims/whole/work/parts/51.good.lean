/-! the reference's chase: the good ones, those that can be left -/
section GOOD
variable {σ : St} {n k s : Nat} {O : Nat → Nat}
/-- the reference's rounds, by numbers v -/
def LFT (x : St) (n k s : Nat) (v : Nat → Nat → Nat) : Prop := ∀ h p, Sg n (k + 1) h → p < n → v h p ≤ 1048576 ∧ x.1 105 (4096 * (3 * k + s - 1) + 8 * h + p) = mv (v h p)
def gdS (n : Nat) (O : Nat → Nat) (s K : Nat) (v : Nat → Nat → Nat) (t h : Nat) : Nat → Nat
  | 0 => 0
  | p + 1 => gdS n O s K v t h p ||| (if bmx (flS O s K h p) (v h) n ≤ t then 2 ^ p else 0)
theorem gd_tb (K : Nat) (v : Nat → Nat → Nat) (t h i : Nat) : ∀ m, (gdS n O s K v t h m).testBit i = true ↔ i < m ∧ bmx (flS O s K h i) (v h) n ≤ t := by
  intro m
  induction m with
  | zero => simp [gdS]
  | succ m ih =>
    rw [gdS, Nat.testBit_or, Bool.or_eq_true, ih]
    constructor
    · rintro (⟨h1, h2⟩ | h1)
      · exact ⟨by omega, h2⟩
      · by_cases q : bmx (flS O s K h m) (v h) n ≤ t
        · rw [if_pos q, tb_pow, decide_eq_true_iff] at h1
          subst h1
          exact ⟨by omega, q⟩
        · rw [if_neg q] at h1; simp at h1
    · rintro ⟨h1, h2⟩
      rcases Nat.lt_succ_iff_lt_or_eq.mp h1 with q | rfl
      · exact Or.inl ⟨q, h2⟩
      · refine Or.inr ?_
        rw [if_pos h2, tb_pow]
        simp
theorem gd_lt (K : Nat) (v : Nat → Nat → Nat) (t h : Nat) (h8 : n ≤ 8) : gdS n O s K v t h n < 256 := lt_tb (n := 8) (fun i hi => by
  cases hb : (gdS n O s K v t h n).testBit i with
  | false => rfl
  | true => have := ((gd_tb K v t h i n).mp hb).1; omega)
theorem flS_lt (h : NP n O) {K x p : Nat} (hp : p < n) : flS O s K x p < 256 := by
  unfold flS
  split
  · decide
  · exact Nat.lt_of_lt_of_le (flB_lt h _ s (Nat.pow_lt_pow_right (by decide) hp)) (p256 h.h8)
theorem m_findGood (hN : NM σ n O) (hk : k < 3) (h1 : 1 ≤ s) (h3 : s ≤ 3) {v : Nat → Nat → Nat} {t : Nat} (ht : t < 8192) (hF : FLT σ n O (k + 1) s) (hL : LFT σ n k s v) : Ok (f_X10_findGood σ (nI (k + 1)) (nI s) (nI t)) (fun q => (∀ h, Sg n (k + 1) h → q.2.1 107 h = nI (gdS n O s (k + 1) v t h n)) ∧ Fr (fun c => c = 107 ∨ c = 108) σ q.2) := by
  have h8 := hN.np.h8
  have hn1 := hN.np.h1
  have h512 := p8_le k hk
  unfold f_X10_findGood
  rw [q_0]
  refine lo2_for (fun j x => (∀ h, h < j → Sg n (k + 1) h → x.1 107 h = nI (gdS n O s (k + 1) v t h n)) ∧ Fr (fun c => c = 107 ∨ c = 108) σ x) (8 ^ (k + 1)) ?_ ?_ FU 0 _ (Nat.zero_le _) (fu_lt (by omega)) ⟨fun h hh => by omega, fr_refl⟩
  · rintro rec h x hh ⟨e1, e2⟩ kk
    rw [e_power hk, calP_s, if_pos (nI_lt hh (by omega)), y_ck _ (by omega) (by omega), bd_s, nI_clamp (by omega), q_1, nI_add]
    refine lo2_for (fun j y => (∀ h', h' < h → Sg n (k + 1) h' → y.1 107 h' = nI (gdS n O s (k + 1) v t h' n)) ∧ (j = 0 ∨ Sg n (k + 1) h) ∧ y.1 107 h = nI (gdS n O s (k + 1) v t h j) ∧ Fr (fun c => c = 107 ∨ c = 108) σ y) n ?_ ?_ FU 0 _ (by omega) (fu_lt (by omega)) ⟨fun h' hh' hs => ?_, Or.inl rfl, ?_, fr_setI e2 (Or.inl rfl)⟩
    · rintro rec2 p y hp ⟨g1, -, g2, g3⟩ k2
      have hy := nm_fr hN g3 (by omega) (by omega)
      rw [hy.pl, if_pos (nI_lt hp (by omega))]
      refine ok_cal (m_isSetting hy hk hh) (fun w s1 ⟨w1, w2⟩ => ?_)
      dsimp only at w1 w2
      subst w1
      have f1 : Fr (fun c => c = 107 ∨ c = 108) σ s1 := fr_trans g3 (fr_mono w2 (fun c hc => Or.inr hc))
      have hs1 : s1.1 107 = y.1 107 := w2.1 _ (by omega)
      cases hb : (vrB n (k + 1) h && decide (srt (k + 1) h = h)) with
      | false =>
        rw [if_pos (show nI false.toNat = nI 0 from rfl)]
        refine kk _ ⟨fun h' hh' hs => ?_, f1⟩
        rcases Nat.lt_succ_iff_lt_or_eq.mp hh' with q | rfl
        · rw [hs1]; exact g1 h' q hs
        · rw [sg_iff.mpr hs] at hb; cases hb
      | true =>
        have hsg := sg_iff.mp hb
        rw [if_neg (show ¬ nI true.toNat = nI 0 by decide)]
        have hx1 := nm_fr hN f1 (by omega) (by omega)
        have b1 : s1.1 106 (8 * h + p) = nI (flS O s (k + 1) h p) := by rw [f1.1 _ (by omega)]; exact hF h p hsg hp
        have b2 : ∀ q, q < n → v h q ≤ 1048576 ∧ s1.1 105 (4096 * (3 * k + s - 1) + 8 * h + q) = mv (v h q) := fun q hq => by rw [f1.1 _ (by omega)]; exact hL h q hsg hq
        have hbm : bmx (flS O s (k + 1) h p) (v h) n ≤ 1048576 := bmx_le.mpr (fun q hq _ => (b2 q hq).1)
        rw [m_behind hx1 hk h1 h3 (by omega) (by omega) b1 (flS_lt hN.np hp) b2, calP_s, y_ck _ (by omega) (by omega), hs1, g2, q_m1, nI_add]
        have put : ∀ w, w = (if bmx (flS O s (k + 1) h p) (v h) n ≤ t then 2 ^ p else 0) → Ok (rec2 (setI s1 107 h (nI (gdS n O s (k + 1) v t h p) ||| nI w)) (nI (p + 1))) _ := fun w hw => k2 _ ⟨fun h' hh' hs => by
            rw [gsI_s, if_neg (by omega), hs1]; exact g1 h' hh' hs, Or.inr hsg, by rw [gsI_s, if_pos rfl, z_or, gdS, hw], fr_setI f1 (Or.inl rfl)⟩
        by_cases q1 : bmx (flS O s (k + 1) h p) (v h) n = 1048576
        · rw [q1, mv_e, if_pos rfl, y_ck _ (by omega) (by omega), bd_s]
          exact put 0 (by rw [if_neg (by omega)])
        · rw [if_neg (fun e => q1 ((mv_m1 hbm).mp e)), mv_n (by omega)]
          by_cases q2 : t < bmx (flS O s (k + 1) h p) (v h) n
          · rw [if_pos (nI_lt q2 (by omega)), y_ck _ (by omega) (by omega), bd_s]
            exact put 0 (by rw [if_neg (by omega)])
          · rw [if_neg (nI_nlt (by omega) (by omega)), y_ck _ (by omega) (by omega), bd_s]
            have hpw : nI 1 <<< (nI p &&& 31) = nI (2 ^ p) := by
              simp (disch := omega) only [q_0, q_1, q_2, q_3, q_4, q_5, q_6, q_7, q_8, q_9, q_15, q_16, q_31, q_32, q_48, q_57, q_59, q_63, q_64, q_97, q_100, q_122, q_127, q_160, q_255, q_256, q_512, q_1024, q_2816, q_4096, q_16384, q_1048576, q_m1, q_m2, q_m3, q_m4, q_m5, bd_s, calP_s, cal_s, nI_add, pk_mul, pk_sub, z_and, z_or, z_xor, y_nd, y_shl, y_shr, y_tb, y_ck, nI_ltI, nI_eq, nI_clamp, y_m1a, y_m1b, y_m1c, y_m1d, y_m1e, y_b0, y_b1, y_and255, gsI_o, gsI_s, gsI_2, gsR_o, gsR_s, gsR_2, gsL_1, gsL_o, gsL_s, jn0, jn1, jn2, jn3, jn4, jn5, ↓reduceIte, if_true, if_false, ite_self, ne_eq, not_true_eq_false, not_false_eq_true, and_true, true_and, and_false, false_and, Nat.reduceAdd, Nat.reduceMul, Nat.reduceSub, Nat.reducePow, Nat.reduceLT, Nat.reduceEqDiff, Nat.reduceLeDiff, Nat.not_lt_zero, Nat.add_sub_cancel, Nat.add_zero, Nat.zero_add, pk_div, y_dn, Nat.one_mul, Nat.mul_one, reduceCtorEq, y_pow]
            rw [hpw]
            exact put (2 ^ p) (by rw [if_pos (by omega)])
    · rintro rec2 y ⟨g1, g0, g2, g3⟩
      have hy := nm_fr hN g3 (by omega) (by omega)
      rw [hy.pl, if_neg (nI_nlt (Nat.le_refl _) (by omega))]
      refine kk _ ⟨fun h' hh' hs => ?_, g3⟩
      rcases Nat.lt_succ_iff_lt_or_eq.mp hh' with q | rfl
      · exact g1 h' q hs
      · exact g2
    · rw [gsI_s, if_neg (by omega)]; exact e1 h' hh' hs
    · rw [gsI_s, if_pos rfl]; rfl
  · rintro rec x ⟨e1, e2⟩
    rw [e_power hk, calP_s, if_neg (nI_nlt (Nat.le_refl _) (by omega))]
    exact ok_some ⟨fun h hs => e1 h hs.1.1 hs, e2⟩
/-- what can be reached by the steps to the rows below m -/
def lU (O : Nat → Nat) (k h : Nat) (G : Nat → Nat) : Nat → Nat
  | 0 => 0
  | r + 1 => lU O k h G r ||| (if stB O k h r (k + 1) = true then G (srt (k + 1) r) else 0)
theorem lU_tb (h i : Nat) (G : Nat → Nat) : ∀ m, (lU O k h G m).testBit i = true ↔ ∃ r, r < m ∧ stB O k h r (k + 1) = true ∧ (G (srt (k + 1) r)).testBit i = true := by
  intro m
  induction m with
  | zero => simp [lU]
  | succ m ih =>
    rw [lU, Nat.testBit_or, Bool.or_eq_true, ih]
    constructor
    · rintro (⟨r, h1, h2⟩ | h1)
      · exact ⟨r, by omega, h2⟩
      · by_cases q : stB O k h m (k + 1) = true
        · rw [if_pos q] at h1; exact ⟨m, by omega, q, h1⟩
        · rw [if_neg q] at h1; simp at h1
    · rintro ⟨r, h1, h2, h3⟩
      rcases Nat.lt_succ_iff_lt_or_eq.mp h1 with q | rfl
      · exact Or.inl ⟨r, q, h2, h3⟩
      · exact Or.inr (by rw [if_pos h2]; exact h3)
theorem st_vr (h : NP n O) (hk : k < 3) {r r' : Nat} (hr' : r' < 8 ^ (k + 1)) (hs : stB O k r r' (k + 1) = true) : Vr n (k + 1) r' := by
  refine (vr_fg hk).mpr ⟨hr', fun m hm => ?_⟩
  cases hb : (O (fg k m r)).testBit (fg k m r') with
  | true => exact (np_lt8 h hb).2
  | false => rw [stB_false hb (k + 1) (by omega)] at hs; cases hs
theorem sg_srt (hk : k < 3) {r : Nat} (h : Vr n (k + 1) r) : Sg n (k + 1) (srt (k + 1) r) := ⟨srt_vr (by omega) (by omega) h, srt_srt (by omega) (by omega) h.1⟩
theorem m_leavable (hN : NM σ n O) (hk : k < 3) {h : Nat} (hh : Vr n (k + 1) h) {G : Nat → Nat} (hG : ∀ x, Sg n (k + 1) x → σ.1 107 x = nI (G x)) : Ok (f_X10_leavable σ (nI (k + 1)) (nI h)) (fun q => q.1 = nI (lU O k h G (8 ^ (k + 1))) ∧ Fr scr σ q.2) := by
  have h512 := p8_le k hk
  unfold f_X10_leavable
  rw [q_0]
  refine lo3_for (fun j x y => y = nI (lU O k h G j) ∧ Fr scr σ x) (8 ^ (k + 1)) ?_ ?_ FU 0 _ _ (Nat.zero_le _) (fu_lt (by omega)) ⟨rfl, fr_refl⟩
  · rintro rec r x y hr ⟨rfl, e2⟩ kk
    have hx := nm_fr hN e2 (by unfold scr; omega) (by unfold scr; omega)
    rw [e_power hk, calP_s, if_pos (nI_lt hr (by omega))]
    refine ok_cal (m_moved hx hk hh hr) (fun w s1 ⟨w1, w2⟩ => ?_)
    dsimp only at w1 w2
    have f1 : Fr scr σ s1 := fr_trans e2 w2
    rw [q_mm, q_1, nI_add]
    by_cases q : stB O k h r (k + 1) = true
    · rw [if_pos q] at w1
      have hsg := sg_srt hk (st_vr hN.np hk hr q)
      have hl := hsg.1.1
      rw [w1, if_neg (show ¬ nI (srt (k + 1) r) = M1 from nI_m1 (by omega)), y_ck _ (by omega) (by omega), bd_s, nI_clamp (by omega), f1.1 107 (by unfold scr; omega), hG _ hsg, z_or]
      exact kk _ _ ⟨by rw [lU, if_pos q], f1⟩
    · rw [if_neg q] at w1
      rw [w1, if_pos rfl, bd_s, z_or]
      exact kk _ _ ⟨by rw [lU, if_neg q], f1⟩
  · rintro rec x y ⟨rfl, e2⟩
    rw [e_power hk, calP_s, if_neg (nI_nlt (Nat.le_refl _) (by omega))]
    exact ok_some ⟨rfl, e2⟩
end GOOD
