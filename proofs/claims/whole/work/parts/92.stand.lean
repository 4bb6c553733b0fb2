/-! what is told: stands -/
theorem aR (v : Int32) {lo hi : Nat} (hlo : lo < 2 ^ 31) (hhi : hi < 2 ^ 31) : (∃ k, lo ≤ k ∧ k ≤ hi ∧ v = nI k) ∨ v < nI lo ∨ (¬ v < nI lo ∧ nI hi < v) := by
  rcases i_cases v with h | ⟨q, hq, rfl⟩
  · exact Or.inr (Or.inl (i_neg h hlo))
  · by_cases h1 : q < lo
    · exact Or.inr (Or.inl (nI_lt h1 hlo))
    · by_cases h2 : hi < q
      · exact Or.inr (Or.inr ⟨nI_nlt (by omega) hq, nI_lt h2 hq⟩)
      · exact Or.inl ⟨q, by omega, by omega, rfl⟩
theorem in_out {s : St} {v a b : Int32} (h : v < a ∨ (¬ v < a ∧ b < v)) : f_X10_in s v a b = some (nI 0) := by
  unfold f_X10_in
  rcases h with h | ⟨h1, h2⟩
  · rw [if_pos h]; rfl
  · rw [if_neg h1, if_pos h2]; rfl
theorem in_ok {s : St} {k lo hi : Nat} (h1 : lo ≤ k) (h2 : k ≤ hi) (hh : hi < 2 ^ 31) : f_X10_in s (nI k) (nI lo) (nI hi) = some (nI 1) := by
  rw [e_in (by omega) (by omega) hh, decide_eq_true ⟨h1, h2⟩]; rfl
theorem clampI : ∀ i, i < 9 → (if (0 : Int32) < (if ((9 : Int32) - (1 : Int32)) < nI i then ((9 : Int32) - (1 : Int32)) else nI i) then (if ((9 : Int32) - (1 : Int32)) < nI i then ((9 : Int32) - (1 : Int32)) else nI i) else (0 : Int32)) = nI i := by decide +kernel
theorem sets_all : ∀ k, k < 3 → f_X9_settings σ0 (nI (k + 1)) = some k := by decide +kernel
theorem e_sets {s : St} {k : Nat} (hk : k < 3) : f_X9_settings s (nI (k + 1)) = some k := sets_all k hk
theorem isch (v1 v3 : Int32) : ((∃ k sp, k < 3 ∧ 1 ≤ sp ∧ sp ≤ 3 ∧ v1 = nI (k + 1) ∧ v3 = nI sp) ∧ (∀ s, f_X9_isChase s v1 v3 = some (nI 1)) ∧ ∀ s, f_X10_isChase s v1 v3 = some (nI 1)) ∨ ((∀ s, f_X9_isChase s v1 v3 = some (nI 0)) ∧ ∀ s, f_X10_isChase s v1 v3 = some (nI 0)) := by
  rcases aR v1 (lo := 1) (hi := 3) (by decide) (by decide) with ⟨k, k1, k2, rfl⟩ | h
  · rcases aR v3 (lo := 1) (hi := 3) (by decide) (by decide) with ⟨sp, s1, s2, rfl⟩ | h
    · refine Or.inl ⟨⟨k - 1, sp, by omega, s1, s2, by rw [Nat.sub_add_cancel k1], rfl⟩, fun s => ?_, fun s => ?_⟩
      · unfold f_X9_isChase
        rw [q_0, q_1, q_3, if_neg (nI_nlt k1 (by omega)), if_neg (nI_nlt k2 (by omega)), if_neg (nI_nlt s1 (by omega)), if_neg (nI_nlt s2 (by omega))]
      · unfold f_X10_isChase
        rw [q_0, q_1, q_3, in_ok k1 k2 (by decide), calP_s, if_neg b_10, in_ok s1 s2 (by decide), calP_s, if_neg b_10]
    · refine Or.inr ⟨fun s => ?_, fun s => ?_⟩
      · unfold f_X9_isChase
        rw [q_0, q_1, q_3, if_neg (nI_nlt k1 (by omega)), if_neg (nI_nlt k2 (by omega))]
        rcases h with h | ⟨h1, h2⟩
        · rw [if_pos h]
        · rw [if_neg h1, if_pos h2]
      · unfold f_X10_isChase
        rw [q_0, q_1, q_3, in_ok k1 k2 (by decide), calP_s, if_neg b_10, in_out h, calP_s, if_pos rfl]
  · refine Or.inr ⟨fun s => ?_, fun s => ?_⟩
    · unfold f_X9_isChase
      rw [q_0, q_1, q_3]
      rcases h with h | ⟨h1, h2⟩
      · rw [if_pos h]
      · rw [if_neg h1, if_pos h2]
    · unfold f_X10_isChase
      rw [q_0, q_1, q_3, in_out h, calP_s, if_pos rfl]
section STAND
variable {σ s : St} {n c l : Nat} {O tx : Nat → Nat} {p : Pl}
theorem im_s {P : Nat → Prop} (h : IM σ n O tx l p) (f : Fr P σ s) (hP : ∀ x, P x → (106 ≤ x ∧ x ≤ 111) ∨ (115 ≤ x ∧ x ≤ 118)) : IM s n O tx l p := by
  have f' : Fm P (fun _ => False) σ s := fm_fr f (fun w => by have := hP _ w; omega)
  refine im_mk f' h id (fun w => by have := hP _ w; omega) (tm_fm h.tm f' id (fun w => by have := hP _ w; omega)) (Or.inl ⟨fun w => by have := hP _ w; omega, fun w => by have := hP _ w; omega⟩) (Or.inl ⟨fun w => by have := hP _ w; omega, fun w => by have := hP _ w; omega, fun w => by have := hP _ w; omega⟩) (Or.inl ⟨id, fun w => by have := hP _ w; omega, fun w => by have := hP _ w; omega⟩) (pm_eq h.pl (fun k _ _ => f'.2.1 k id))
theorem fr_sc {P : Nat → Prop} (f : Fr P σ s) (hP : ∀ x, P x → (106 ≤ x ∧ x ≤ 111) ∨ (115 ≤ x ∧ x ≤ 118)) : Fr (fun x => 100 ≤ x) σ s := fr_mono f (fun x hx => by have := hP x hx; omega)
theorem scr_ok : ∀ x, scr x → (106 ≤ x ∧ x ≤ 111) ∨ (115 ≤ x ∧ x ≤ 118) := fun x hx => by unfold scr at hx; omega
theorem e_chase (h : IC σ n O c tx l p) (hc : c < 100000) {k sp : Nat} (hk : k < 3) (h1 : 1 ≤ sp) (h3 : sp ≤ 3) : Ok (f_X9_chase σ (nI (k + 1)) (nI sp)) (fun q => q.1 = 3 * k + sp - 1 ∧ CX q.2 n O c (3 * k + sp - 1) sp ∧ CT q.2 n O (3 * k + sp - 1) sp ∧ IC q.2 n O c tx l p ∧ Fr (fun x => 40 ≤ x ∧ x < 100) σ q.2) := by
  have hi : 3 * k + sp - 1 < 9 := by omega
  have hm : (3 * k + sp - 1) % 3 + 1 = sp := by omega
  have hd : (3 * k + sp - 1) / 3 = k := by omega
  have hx : ((nI (k + 1) - (1 : Int32)) * (3 : Int32) + nI sp) - (1 : Int32) = nI (3 * k + sp - 1) := by
    rw [q_1, q_3, pk_sub (by omega), pk_mul, nI_add, pk_sub (by omega)]
    exact congrArg nI (by omega)
  unfold f_X9_chase
  rw [hx, bd_s, clampI _ hi, y_ck _ hi (by omega), nI_clamp (by omega), bd_s]
  have hh := h.ch _ hi
  rw [ChI, hm] at hh
  have cx : CX σ n O c (3 * k + sp - 1) sp := ⟨h.nc, h.st, hh.1, hi, h3⟩
  refine ok_cal (e_solve cx hc hh.2.2) ?_
  rintro u s3 ⟨a1, a2, a3, a4⟩
  have hN := nc_fr h.nc a4 (fun x hx => by omega)
  have hS := st_fr h.st a4 (fun x h1 h2 => by omega)
  refine ok_some ⟨rfl, ⟨hN, hS, a3, hi, h3⟩, a1, ?_, fr_mono a4 (fun x hx => by omega)⟩
  refine ic_mk a4 h (fun x hx => by omega) (fun x h1 h2 => by omega) (tcx_eq h.tc (by rw [a4.1 6 (by omega)]) (a4.1 7 (by omega))) (fun i hi' => ?_) (fun b => Or.inl (fun x h1 h2 => by cases b <;> simp at h2 <;> omega)) (Or.inl (fun x h1 h2 => by omega)) (fun g hg => Or.inl (fun x h1 h2 => by omega)) (pc_eq h.pl (a4.1 13 (by omega)))
  by_cases e : i = 3 * k + sp - 1
  · subst e
    right
    rw [ChI, hm]
    exact ⟨a3, Or.inr ⟨c, Nat.le_refl _, a2⟩, fun _ => a1⟩
  · left; intro x h1 h2; omega
theorem m_reckonI (h : IM σ n O tx l p) {k sp : Nat} (hk : k < 3) (h1 : 1 ≤ sp) (h3 : sp ≤ 3) : Ok (f_X10_reckon σ (nI (k + 1)) (nI sp)) (fun q => MT q.2 n O k sp ∧ FLT q.2 n O (k + 1) sp ∧ IM q.2 n O tx l p ∧ Fm (fun c => 104 ≤ c ∧ c ≤ 109) (fun _ => False) σ q.2) := by
  obtain ⟨z, hM⟩ := h.rk k sp hk h1 h3
  refine ok_mono (m_reckon h.nm hk h1 h3 hM z) ?_
  rintro q ⟨a1, a2, a3, a4, a5, a6⟩
  have f' : Fm (fun c => 104 ≤ c ∧ c ≤ 109) (fun _ => False) σ q.2 := fm_fr a6 (by omega)
  refine ⟨a1, a2, ?_, f'⟩
  refine im_mk f' h id (by omega) (tm_fm h.tm f' id (by omega)) (Or.inr (fun k' sp' b1 b2 b3 => ?_)) (Or.inl ⟨by omega, by omega, by omega⟩) (Or.inl ⟨id, by omega, by omega⟩) (pm_eq h.pl (fun k _ _ => f'.2.1 k id))
  by_cases e : 3 * k' + sp' - 1 = 3 * k + sp - 1
  · have e1 : k' = k := by omega
    have e2 : sp' = sp := by omega
    rw [e1, e2]
    exact ⟨Or.inr a3, fun _ => a1⟩
  · rw [a4 _ e]
    obtain ⟨y1, y2⟩ := h.rk k' sp' b1 b2 b3
    refine ⟨y1, fun w r q' hr hq => ?_⟩
    obtain ⟨v, v1, v2⟩ := y2 w r q' hr hq
    have hr8 : r < 512 := Nat.lt_of_lt_of_le hr.1.1 (p8_le k' b1)
    have hn8 := h.nm.np.h8
    exact ⟨v, by rw [a5 _ (by omega)]; exact v1, v2⟩
def MPre (t : St) (v1 v2 v3 v4 : Int32) (B : Int32 → St → Option (Int32 × St)) : Option (Int32 × St) :=
  calP (f_X10_isChase t v1 v3) fun r1 =>
    (if r1 = 0 then
      some ((-3 : Int32), t)
       else
      cal (f_X10_told t v1 v2) fun r2 s3 =>
        (if r2 = (-1 : Int32) then
          some ((-2 : Int32), s3)
           else
          calP (f_X10_isPlace s3 v4) fun r4 =>
            (if r4 = 0 then
              some ((-2 : Int32), s3)
               else
              B r2 s3)))
theorem place_dich (hC : N0 σ n O) (v : Int32) : (∃ q, q < n ∧ v = nI q ∧ f_X3_known σ v = some (nI 1)) ∨ (f_X3_known σ v = some (nI 0) ∧ ∀ t, NM t n O → f_X10_isPlace t v = some (nI 0)) := by
  rcases i_cases v with h | ⟨q, hq, rfl⟩
  · exact Or.inr ⟨e_known_neg hC.pl h, fun t ht => e_isPlace_neg ht h⟩
  · by_cases g : q < n
    · exact Or.inl ⟨q, g, rfl, by rw [e_known hC hq, decide_eq_true g]; rfl⟩
    · exact Or.inr ⟨by rw [e_known hC hq, decide_eq_false g]; rfl, fun t ht => by rw [e_isPlace ht hq, decide_eq_false g]; rfl⟩
theorem stand (h : IC σ n O c tx l p) (v1 v2 v3 v4 : Int32) : (∃ e, f_X9_refuseStand σ v1 v2 v3 v4 = some e ∧ ¬ e = nI 0 ∧ ∀ t B, IM t n O tx l p → Ok (MPre t v1 v2 v3 v4 B) (fun q => q.1 = e ∧ IM q.2 n O tx l p ∧ Fr (fun x => 100 ≤ x) t q.2)) ∨ (∃ k sp q, k < 3 ∧ 1 ≤ sp ∧ sp ≤ 3 ∧ q < n ∧ tlB n v2 (k + 1) = true ∧ v1 = nI (k + 1) ∧ v3 = nI sp ∧ v4 = nI q ∧ f_X9_refuseStand σ v1 v2 v3 v4 = some (nI 0) ∧ ∀ t B (Q : Int32 × St → Prop), IM t n O tx l p → (∀ s3, IM s3 n O tx l p → Fr (fun x => 100 ≤ x) t s3 → Ok (B (nI (srt (k + 1) (tlR v2 (k + 1)))) s3) Q) → Ok (MPre t v1 v2 v3 v4 B) Q) := by
  have h8 := h.nc.np.h8
  rcases isch v1 v3 with ⟨⟨k, sp, hk, s1, s3, rfl, rfl⟩, c1, c2⟩ | ⟨c1, c2⟩
  · cases ht : tlB n v2 (k + 1) with
    | false =>
      refine Or.inl ⟨M2, ?_, by decide, fun t B ht' => ?_⟩
      · unfold f_X9_refuseStand
        rw [q_mm, c1, calP_s, q_0, if_neg b_10, e_sets hk, calP_s, ckN_s _ hk, e_told h.st h.nc.z hk, calP_s, ht, if_neg (show ¬ false = true by decide), if_pos rfl]
        rfl
      · unfold MPre
        rw [q_mm, c2, calP_s, q_0, if_neg b_10]
        refine ok_cal (m_told ht'.nm hk v2) ?_
        rintro r2 s3 ⟨rfl, f3⟩
        rw [ht, if_neg (show ¬ false = true by decide), if_pos rfl]
        exact ok_some ⟨rfl, im_s ht' f3 scr_ok, fr_sc f3 scr_ok⟩
    | true =>
      have htl := tlR_vr h8 ht
      have hsl := (srt_vr (by omega) (by omega) htl).1
      have h512 := p8_le k hk
      have htl1 := htl.1
      rcases place_dich h.nc.z v4 with ⟨q, hq, rfl, kq⟩ | ⟨k1, k2⟩
      · refine Or.inr ⟨k, sp, q, hk, s1, s3, hq, ht, rfl, rfl, rfl, ?_, fun t B Q ht' hB => ?_⟩
        · unfold f_X9_refuseStand
          rw [q_mm, c1, calP_s, q_0, if_neg b_10, e_sets hk, calP_s, ckN_s _ hk, e_told h.st h.nc.z hk, calP_s, ht, if_pos rfl, if_neg (nI_mm (by omega)), kq, calP_s, if_neg b_10]
        · unfold MPre
          rw [q_mm, c2, calP_s, q_0, if_neg b_10]
          refine ok_cal (m_told ht'.nm hk v2) ?_
          rintro r2 s3 ⟨rfl, f3⟩
          have i3 := im_s ht' f3 scr_ok
          rw [ht, if_pos rfl, if_neg (nI_mm (by omega)), e_isPlace i3.nm (by omega), calP_s, decide_eq_true hq, if_neg b_t0]
          exact hB s3 i3 (fr_sc f3 scr_ok)
      · refine Or.inl ⟨M2, ?_, by decide, fun t B ht' => ?_⟩
        · unfold f_X9_refuseStand
          rw [q_mm, c1, calP_s, q_0, if_neg b_10, e_sets hk, calP_s, ckN_s _ hk, e_told h.st h.nc.z hk, calP_s, ht, if_pos rfl, if_neg (nI_mm (by omega)), k1, calP_s, if_pos rfl]
          rfl
        · unfold MPre
          rw [q_mm, c2, calP_s, q_0, if_neg b_10]
          refine ok_cal (m_told ht'.nm hk v2) ?_
          rintro r2 s3 ⟨rfl, f3⟩
          have i3 := im_s ht' f3 scr_ok
          rw [ht, if_pos rfl, if_neg (nI_mm (by omega)), k2 s3 i3.nm, calP_s, if_pos rfl]
          exact ok_some ⟨rfl, i3, fr_sc f3 scr_ok⟩
  · refine Or.inl ⟨M3, ?_, by decide, fun t B ht' => ?_⟩
    · unfold f_X9_refuseStand
      rw [c1, calP_s, q_0, if_pos rfl]
      rfl
    · unfold MPre
      rw [c2, calP_s, q_0, if_pos rfl]
      exact ok_some ⟨rfl, ht', fr_refl⟩
end STAND
