/-! the reference's chase is reckoned -/
section RECKON
variable {σ : St} {n k s : Nat} {O : Nat → Nat}
def seqS (n k : Nat) (O : Nat → Nat) (s : Nat) : Nat → Nat → Nat
  | 0 => fun r => plc (dgs (k + 1) r)
  | t + 1 => fun r => seqS n k O s t r ||| wid n k O (fun r => tpS n O s (k + 1) r (seqS n k O s t r)) (k + 1) r
theorem seq_tb (h : NP n O) (hk : k < 3) : ∀ t, TB n O s (k + 1) t (seqS n k O s t) := by
  intro t
  have h8 := h.h8
  induction t with
  | zero =>
    intro r hr p
    rw [seqS, plc_tb, Bool.and_eq_true, decide_eq_true_iff, decide_eq_true_iff]
    constructor
    · rintro ⟨-, q⟩; exact ⟨hr.2 p q, q⟩
    · rintro ⟨q1, q2⟩; exact ⟨by omega, q2⟩
  | succ t ih => exact tb_next h hk ih
theorem seq_cnt (h : NP n O) (hk : k < 3) : ∀ t, (∃ T, T < t ∧ ∀ r p, Vr n (k + 1) r → p < n → Su O s (T + 1) (dgs (k + 1) r) p → Su O s T (dgs (k + 1) r) p) ∨ t ≤ cntS n (k + 1) (seqS n k O s t) := by
  intro t
  have h8 := h.h8
  induction t with
  | zero => exact Or.inr (Nat.zero_le _)
  | succ t ih =>
    rcases ih with ⟨T, h1, h2⟩ | ih
    · exact Or.inl ⟨T, by omega, h2⟩
    · by_cases q : ∃ r, Vr n (k + 1) r ∧ nd (wid n k O (fun r => tpS n O s (k + 1) r (seqS n k O s t r)) (k + 1) r) (seqS n k O s t r) ≠ 0
      · obtain ⟨r, r1, r2⟩ := q
        refine Or.inr ?_
        have hwl := wid_lt h hk (T := fun r => tpS n O s (k + 1) r (seqS n k O s t r)) (fun r _ => nd_lt (all_lt h)) (k + 1) (Nat.le_refl _)
        have := cnt_lt (k + 1) (S := seqS n k O s t) (W := wid n k O (fun r => tpS n O s (k + 1) r (seqS n k O s t r)) (k + 1)) r1 (hwl r r1) r2
        rw [seqS]
        omega
      · refine Or.inl ⟨t, by omega, fun r p hr hp hs => ?_⟩
        have a1 := (tb_next h hk (seq_tb h hk t) r hr p).mpr ⟨hp, hs⟩
        dsimp only at a1
        have z : nd (wid n k O (fun r => tpS n O s (k + 1) r (seqS n k O s t r)) (k + 1) r) (seqS n k O s t r) = 0 := Classical.byContradiction (fun e => q ⟨r, hr, e⟩)
        rw [← or_nd, z, Nat.or_zero] at a1
        exact ((seq_tb h hk t r hr p).mp a1).2
theorem stat_ex (h : NP n O) (hk : k < 3) (s : Nat) : ∃ T, T ≤ 4096 ∧ ∀ t' r p, Vr n (k + 1) r → p < n → Su O s t' (dgs (k + 1) r) p → Su O s T (dgs (k + 1) r) p := by
  have h512 := p8_le k hk
  rcases seq_cnt (s := s) h hk 4097 with ⟨T, h1, h2⟩ | h1
  · exact ⟨T, by omega, stat h hk h2⟩
  · have := cnt_le n (k + 1) (seqS n k O s 4097)
    omega
theorem lvT_iff {t p v : Nat} {l : List Nat} (ht : t < 8192) (h : LvT O s t l p v) : v ≤ t ↔ Su O s t l p := by
  rcases h with ⟨h1, h2, h3⟩ | ⟨h1, h2⟩
  · exact ⟨fun q => su_le q h2, fun _ => h1⟩
  · exact ⟨fun q => by omega, fun q => (h2 q).elim⟩
theorem lvT_le {t p v : Nat} {l : List Nat} (ht : t < 8192) (h : LvT O s t l p v) : v ≤ 1048576 := by
  rcases h with ⟨h1, -⟩ | ⟨h1, -⟩ <;> omega
theorem gd_iff (h : NP n O) (hk : k < 3) {v : Nat → Nat → Nat} {t x : Nat} (ht : t < 8192) (hx : Sg n (k + 1) x) (hv : ∀ p, p < n → LvT O s t (dgs (k + 1) x) p (v x p)) (p : Nat) : (gdS n O s (k + 1) v t x n).testBit p = true ↔ p < n ∧ (p ∈ dgs (k + 1) x ∨ ∀ q, Pa O (plc (dgs (k + 1) x)) s p q → Su O s t (dgs (k + 1) x) q) := by
  have h8 := h.h8
  rw [gd_tb, bmx_le]
  have hpl : (plc (dgs (k + 1) x)).testBit p = true ↔ p ∈ dgs (k + 1) x := by
    rw [plc_tb, Bool.and_eq_true, decide_eq_true_iff, decide_eq_true_iff]
    exact ⟨fun q => q.2, fun q => ⟨dgs_lt8 _ _ _ q, q⟩⟩
  constructor
  · rintro ⟨h1, h2⟩
    refine ⟨h1, ?_⟩
    by_cases hm : p ∈ dgs (k + 1) x
    · exact Or.inl hm
    · refine Or.inr (fun q hq => ?_)
      have hqn := pa_n h s p q h1 hq
      refine (lvT_iff ht (hv q hqn)).mp (h2 q hqn ?_)
      unfold flS
      rw [if_neg (fun e => hm (hpl.mp e)), flB_tb h]
      exact hq
  · rintro ⟨h1, h2⟩
    refine ⟨h1, fun q hq hF => ?_⟩
    unfold flS at hF
    by_cases hm : p ∈ dgs (k + 1) x
    · rw [if_pos (hpl.mpr hm)] at hF; simp at hF
    · rw [if_neg (fun e => hm (hpl.mp e)), flB_tb h] at hF
      rcases h2 with h2 | h2
      · exact (hm h2).elim
      · exact (lvT_iff ht (hv q hq)).mpr (h2 q hF)
theorem lv_step (h : NP n O) (hk : k < 3) {v : Nat → Nat → Nat} {t x : Nat} (ht : t < 8192) (hx : Vr n (k + 1) x) (hv : ∀ x p, Sg n (k + 1) x → p < n → LvT O s t (dgs (k + 1) x) p (v x p)) {p : Nat} (hp : p < n) : Su O s (t + 1) (dgs (k + 1) x) p ↔ Su O s t (dgs (k + 1) x) p ∨ (lU O k x (fun y => gdS n O s (k + 1) v t y n) (8 ^ (k + 1))).testBit p = true := by
  rw [lU_tb]
  constructor
  · rintro (q | ⟨l', q1, q2⟩)
    · exact Or.inl q
    · obtain ⟨r, g1, rfl⟩ := row_of (by omega) (by omega) h q1
      have hsg := sg_srt hk g1
      have hpm := srt_perm (K := k + 1) (by omega) (by omega) g1.1
      refine Or.inr ⟨r, g1.1, (stB_iff hk).mpr q1, (gd_iff h hk ht hsg (fun p hp => hv _ p hsg hp) p).mpr ⟨hp, ?_⟩⟩
      rcases q2 with q2 | q2
      · exact Or.inl (hpm.mem_iff.mp q2)
      · refine Or.inr (fun q hq => su_perm t q hpm (q2 q ?_))
        rw [plc_perm hpm]; exact hq
  · rintro (q | ⟨r, g1, g2, g3⟩)
    · exact Or.inl q
    · have hV := st_vr h hk g1 g2
      have hsg := sg_srt hk hV
      have hpm := srt_perm (K := k + 1) (by omega) (by omega) g1
      obtain ⟨-, q2⟩ := (gd_iff h hk ht hsg (fun p hp => hv _ p hsg hp) p).mp g3
      refine Or.inr ⟨dgs (k + 1) r, (stB_iff hk).mp g2, ?_⟩
      rcases q2 with q2 | q2
      · exact Or.inl (hpm.mem_iff.mpr q2)
      · refine Or.inr (fun q hq => su_perm t q hpm.symm (q2 q ?_))
        rw [← plc_perm hpm]; exact hq
/-- the reference's table of a chase -/
def MT (x : St) (n : Nat) (O : Nat → Nat) (k s : Nat) : Prop := ∀ h p, Sg n (k + 1) h → p < n → ∃ v, x.1 105 (4096 * (3 * k + s - 1) + 8 * h + p) = mv v ∧ Lv O s (dgs (k + 1) h) p v
/-- another table is left as it was -/
def Ko (B : Nat) (σ x : St) : Prop := ∀ y, y < B ∨ B + 4096 ≤ y → x.1 105 y = σ.1 105 y
theorem ko_set {B : Nat} {σ x : St} {j : Nat} {w : Int32} (h : Ko B σ x) (h1 : B ≤ j) (h2 : j < B + 4096) : Ko B σ (setI x 105 j w) := fun y hy => by
  rw [gsI_s, if_neg (by omega)]; exact h y hy
theorem ko_eq {B : Nat} {σ x y : St} (h : Ko B σ x) (e : y.1 105 = x.1 105) : Ko B σ y := fun z hz => by rw [e]; exact h z hz
def rkC (c : Nat) : Prop := 105 ≤ c ∧ c ≤ 109
/-- nothing is known yet -/
theorem m_reck0 (hN : NM σ n O) (hk : k < 3) (h1 : 1 ≤ s) (h3 : s ≤ 3) {R : Type} {K : St → Option R} {Q : R → Prop} (hK : ∀ x, (∀ h p, h < 8 ^ (k + 1) → p < 8 → x.1 105 (4096 * (3 * k + s - 1) + 8 * h + p) = if p ∈ dgs (k + 1) h then nI 0 else M1) → Ko (4096 * (3 * k + s - 1)) σ x → Fr (fun c => c = 105 ∨ c = 108) σ x → Ok (K x) Q) : Ok (lo2 FU (fun rec5 (s3 : St) (x4 : Int32) =>
              calP (f_X10_powerOf s3 (nI (k + 1))) fun r7 =>
                (if x4 < r7 then
                  cal (f_X10_placesOf s3 (nI (k + 1)) x4) fun r8 s9 =>
                    lo2 FU (fun rec12 (s10 : St) (x11 : Int32) =>
                      (if x11 < (8 : Int32) then
                        calP (f_X10_at s10 (nI (k + 1)) (nI s) x4 x11) fun r14 =>
                          (if ((r8 >>> (x11 &&& 31)) &&& (1 : Int32)) = (1 : Int32) then
                            ck r14 36864 <|
                              bd (setI s10 105 r14.toNatClampNeg (0 : Int32)) fun s15 =>
                                rec12 s15 (x11 + 1)
                             else
                            ck r14 36864 <|
                              bd (setI s10 105 r14.toNatClampNeg (-1 : Int32)) fun s16 =>
                                rec12 s16 (x11 + 1))
                         else
                        rec5 s10 (x4 + 1))) s9 (0 : Int32)
                   else
                  K s3)) σ (0 : Int32)) Q := by
  have h512 := p8_le k hk
  rw [q_0]
  refine lo2_for (fun j x => (∀ h p, h < j → p < 8 → x.1 105 (4096 * (3 * k + s - 1) + 8 * h + p) = if p ∈ dgs (k + 1) h then nI 0 else M1) ∧ Ko (4096 * (3 * k + s - 1)) σ x ∧ Fr (fun c => c = 105 ∨ c = 108) σ x) (8 ^ (k + 1)) ?_ ?_ FU 0 _ (Nat.zero_le _) (fu_lt (by omega)) ⟨fun h p hh => by omega, fun _ _ => rfl, fr_refl⟩
  · rintro rec h x hh ⟨e1, e2, e3⟩ kk
    rw [e_power hk, calP_s, if_pos (nI_lt hh (by omega))]
    refine ok_cal (m_placesOf hk hh) (fun w s1 ⟨w1, w2⟩ => ?_)
    dsimp only at w1 w2
    subst w1
    have hc : s1.1 105 = x.1 105 := w2.1 _ (by omega)
    have hpl := plc_lt (dgs (k + 1) h)
    refine lo2_for (fun j y => (∀ h' p, (h' < h ∨ h' = h ∧ p < j) → p < 8 → y.1 105 (4096 * (3 * k + s - 1) + 8 * h' + p) = if p ∈ dgs (k + 1) h' then nI 0 else M1) ∧ Ko (4096 * (3 * k + s - 1)) σ y ∧ Fr (fun c => c = 105 ∨ c = 108) σ y) 8 ?_ ?_ FU 0 _ (by omega) (fu_lt (by omega)) ⟨fun h' p hh' hp => ?_, ko_eq e2 hc, fr_trans e3 (fr_mono w2 (fun c hc => Or.inr hc))⟩
    · rintro rec2 p y hp ⟨g1, g2, g3⟩ k2
      have hbit : (nI (plc (dgs (k + 1) h)) >>> (nI p &&& 31)) &&& (1 : Int32) = nI ((plc (dgs (k + 1) h)).testBit p).toNat := by
        simp (disch := omega) only [q_0, q_1, q_2, q_3, q_4, q_5, q_6, q_7, q_8, q_9, q_15, q_16, q_31, q_32, q_48, q_57, q_59, q_63, q_64, q_97, q_100, q_122, q_127, q_160, q_255, q_256, q_512, q_1024, q_2816, q_4096, q_16384, q_1048576, q_m1, q_m2, q_m3, q_m4, q_m5, bd_s, calP_s, cal_s, nI_add, pk_mul, pk_sub, z_and, z_or, z_xor, y_nd, y_shl, y_shr, y_tb, y_ck, nI_ltI, nI_eq, nI_clamp, y_m1a, y_m1b, y_m1c, y_m1d, y_m1e, y_b0, y_b1, y_and255, gsI_o, gsI_s, gsI_2, gsR_o, gsR_s, gsR_2, gsL_1, gsL_o, gsL_s, jn0, jn1, jn2, jn3, jn4, jn5, ↓reduceIte, if_true, if_false, ite_self, ne_eq, not_true_eq_false, not_false_eq_true, and_true, true_and, and_false, false_and, Nat.reduceAdd, Nat.reduceMul, Nat.reduceSub, Nat.reducePow, Nat.reduceLT, Nat.reduceEqDiff, Nat.reduceLeDiff, Nat.not_lt_zero, Nat.add_sub_cancel, Nat.add_zero, Nat.zero_add, pk_div, y_dn, Nat.one_mul, Nat.mul_one, reduceCtorEq]
      have put : ∀ w, w = (if p ∈ dgs (k + 1) h then nI 0 else M1) → Ok (rec2 (setI y 105 (4096 * (3 * k + s - 1) + 8 * h + p) w) (nI (p + 1))) Q := fun w hw => k2 _ ⟨fun h' p' hh' hp' => by
        rw [gsI_s]
        by_cases e : 4096 * (3 * k + s - 1) + 8 * h' + p' = 4096 * (3 * k + s - 1) + 8 * h + p
        · obtain rfl : h' = h := by omega
          obtain rfl : p' = p := by omega
          rw [if_pos rfl, hw]
        · rw [if_neg e]; exact g1 h' p' (by omega) hp', ko_set g2 (by omega) (by omega), fr_setI g3 (Or.inl rfl)⟩
      rw [q_8, if_pos (nI_lt hp (by omega)), e_at hk h1 h3 (by omega) hp, calP_s, hbit, q_mm, q_1, nI_add, plc_tb]
      by_cases hm : p ∈ dgs (k + 1) h
      · rw [if_pos (by simp [hm, hp]), y_ck _ (by omega) (by omega), bd_s, nI_clamp (by omega)]
        exact put _ (by rw [if_pos hm])
      · rw [if_neg (by simp [hm]; decide), y_ck _ (by omega) (by omega), bd_s, nI_clamp (by omega)]
        exact put _ (by rw [if_neg hm])
    · rintro rec2 y ⟨g1, g2, g3⟩
      rw [q_8, if_neg (nI_nlt (Nat.le_refl _) (by omega)), q_1, nI_add]
      exact kk _ ⟨fun h' p hh' hp => g1 h' p (by omega) hp, g2, g3⟩
    · rw [hc]; exact e1 h' p (by omega) hp
  · rintro rec x ⟨e1, e2, e3⟩
    rw [e_power hk, calP_s, if_neg (nI_nlt (Nat.le_refl _) (by omega))]
    exact hK x e1 e2 e3
end RECKON
