/-! the class's chase is solved -/
section SOLVE2
variable {σ : St} {n c i sp : Nat} {O : Nat → Nat}
theorem wid_lt (h : NP n O) {k : Nat} (hk : k < 3) {T : Nat → Nat} (hT : ∀ r, Vr n (k + 1) r → T r < 256) : ∀ j, j ≤ k + 1 → ∀ r, Vr n (k + 1) r → wid n k O T j r < 256 := by
  intro j hj r hr
  refine lt_tb (n := 8) (fun i hi => ?_)
  cases hb : (wid n k O T j r).testBit i with
  | false => rfl
  | true =>
    obtain ⟨r', h1, -, -, h2⟩ := (wid_tb h hk T i j hj r hr).mp hb
    rw [tb_ge (n := 8) (hT r' h1) hi] at h2
    cases h2
theorem e_widens (h : CX σ n O c i sp) {T : Nat → Nat} (hT : ∀ r, Vr n (i / 3 + 1) r → σ.1 (43 + 5 * i) r = nI (T r)) {R : Type} {K : St → Option R} {Q : R → Prop} (hK : ∀ s, (∀ r, Vr n (i / 3 + 1) r → s.1 (43 + 5 * i) r = nI (wid n (i / 3) O T (i / 3 + 1) r)) → Fr (fun c => c = 43 + 5 * i ∨ c = 44 + 5 * i) σ s → Ok (K s) Q) : Ok (lo2 FU (fun rec13 (s11 : St) (x12 : Int32) =>
                      calP (f_X6_hunters s11 (i / 3)) fun r15 =>
                        (if x12 < r15 then
                          cal (f_X0_widen s11 i x12) fun _ s16 =>
                            rec13 s16 (x12 + 1)
                           else
                          K s11)) σ (0 : Int32)) Q := by
  have hi := h.hi
  have hk : i / 3 < 3 := by omega
  rw [q_0]
  refine lo2_for (fun j s => (∀ r, Vr n (i / 3 + 1) r → s.1 (43 + 5 * i) r = nI (wid n (i / 3) O T j r)) ∧ Fr (fun c => c = 43 + 5 * i ∨ c = 44 + 5 * i) σ s) (i / 3 + 1) ?_ ?_ FU 0 _ (by omega) (fu_lt (by omega)) ⟨hT, fr_refl⟩
  · rintro rec j s hj ⟨e1, e2⟩ kk
    have hx : CX s n O c i sp := cx_fr h (fr_mono e2 (fun c hc => by unfold inC; omega))
    have hh := (hx.st (i / 3) hk).1
    unfold f_X6_hunters
    rw [hh, calP_s, if_pos (nI_lt hj (by omega))]
    refine ok_cal (e_widen hx (show j ≤ i / 3 by omega) e1) (fun _ s' ⟨g1, g2⟩ => ?_)
    dsimp only at g1 g2
    rw [q_1, nI_add]
    exact kk _ ⟨g1, fr_trans e2 g2⟩
  · rintro rec s ⟨e1, e2⟩
    have hx : CX s n O c i sp := cx_fr h (fr_mono e2 (fun c hc => by unfold inC; omega))
    have hh := (hx.st (i / 3) hk).1
    unfold f_X6_hunters
    rw [hh, calP_s, if_neg (nI_nlt (Nat.le_refl _) (by omega))]
    exact hK s e1 e2
theorem vr0 (h : NP n O) {k : Nat} (hk : k < 3) : Vr n (k + 1) 0 := (vr_fg hk).mpr ⟨Nat.pow_pos (by decide), fun m _ => by have := h.h1; unfold fg; simp; omega⟩
theorem e_solve (h : CX σ n O c i sp) (hc : c < 100000) (hcl : σ.1 (40 + 5 * i) 7 = nI c → CT σ n O i sp) : Ok (f_X0_solve σ i) (fun q => CT q.2 n O i sp ∧ q.2.1 (40 + 5 * i) 7 = nI c ∧ q.2.1 (40 + 5 * i) 2 = nI sp ∧ Fr (fun x => 40 + 5 * i ≤ x ∧ x ≤ 44 + 5 * i) σ q.2) := by
  have hi := h.hi
  have hk : i / 3 < 3 := by omega
  have hz := sz_eq (i / 3) hk
  have h512 := p8_le (i / 3) hk
  have h8 := h.nc.np.h8
  have hnp := h.nc.np
  unfold f_X0_solve f_X3_changes
  rw [h.nc.ch, calP_s]
  by_cases hs : σ.1 (40 + 5 * i) 7 = nI c
  · rw [if_pos hs]
    exact ok_some ⟨hcl hs, hs, h.sp, fr_refl⟩
  · rw [if_neg hs, calP_s, bd_s]
    have f0 : Fr (fun x => x = 40 + 5 * i) σ (setI σ (40 + 5 * i) 7 (nI c)) := fr_setI fr_refl rfl
    have hx0 : CX (setI σ (40 + 5 * i) 7 (nI c)) n O c i sp := ⟨nc_fr h.nc f0 (fun x hx => by omega), st_fr h.st f0 (fun x h1 h2 => by omega), by rw [gsI_s, if_neg (by decide)]; exact h.sp, hi, h.s3⟩
    have h7 : (setI σ (40 + 5 * i) 7 (nI c)).1 (40 + 5 * i) 7 = nI c := by rw [gsI_s, if_pos rfl]
    generalize setI σ (40 + 5 * i) 7 (nI c) = σ1 at *
    refine ok_cal (e_begin hx0) (fun _ s4 ⟨b1, b2, b3⟩ => ?_)
    dsimp only at b1 b2 b3
    rw [hz]
    refine lo3_ok (fun s x y => ∃ t S, ∃ b : Bool, t ≤ 8 * 8 ^ (i / 3 + 1) ∧ y = nI (t + 1) ∧ x = nI b.toNat ∧ TB n O sp (i / 3 + 1) t S ∧ (∀ r, Vr n (i / 3 + 1) r → s.1 (42 + 5 * i) r = nI (S r)) ∧ (∀ r p, Vr n (i / 3 + 1) r → p < n → ∃ v, s.1 (41 + 5 * i) (r * 8 + p) = nI v ∧ LvT O sp t (dgs (i / 3 + 1) r) p v) ∧ (b = true → t + 1 ≤ cntS n (i / 3 + 1) S) ∧ (b = false → ∀ t' r p, Vr n (i / 3 + 1) r → p < n → Su O sp t' (dgs (i / 3 + 1) r) p → Su O sp t (dgs (i / 3 + 1) r) p) ∧ Fr (inC i) σ1 s) (fun s x y => 10000 - y.toNatClampNeg) ?_ FU _ _ _ ⟨0, fun r => plc (dgs (i / 3 + 1) r), true, by omega, rfl, rfl, ?_, fun r hr => b1 r hr.1, ?_, ?_, (fun e => Bool.noConfusion e), fr_mono b3 (fun c hc => by unfold inC; omega)⟩ (fu_lt (by omega))
    · rintro rec s x y ⟨t, S, b, ht, rfl, rfl, hT, hS, hL, hb1, hb0, hF⟩ kk
      have fin : b = false → Ok (some ((), s)) (fun q : Unit × St => CT q.2 n O i sp ∧ q.2.1 (40 + 5 * i) 7 = nI c ∧ q.2.1 (40 + 5 * i) 2 = nI sp ∧ Fr (fun x => 40 + 5 * i ≤ x ∧ x ≤ 44 + 5 * i) σ q.2) := by
        intro hb
        have hst := hb0 hb
        refine ok_some ⟨⟨fun r hr => ⟨S r, Nat.lt_of_lt_of_le (tb_lt8 hnp hT hr) (p256 h8), hS r hr, fun p => ?_⟩, fun r p hr hp => ?_⟩, ?_, ?_, ?_⟩
        · rw [hT r hr p]
          constructor
          · rintro ⟨q1, q2⟩; exact ⟨q1, t, q2⟩
          · rintro ⟨q1, t', q2⟩; exact ⟨q1, hst t' r p hr q1 q2⟩
        · obtain ⟨v, v1, v2⟩ := hL r p hr hp
          exact ⟨v, v1, lvT_fin (by omega) v2 (fun t' q => hst t' r p hr hp q)⟩
        · show s.1 (40 + 5 * i) 7 = nI c
          rw [hF.1 _ (by unfold inC; omega)]; exact h7
        · show s.1 (40 + 5 * i) 2 = nI sp
          rw [hF.1 _ (by unfold inC; omega)]; exact hx0.sp
        · exact fr_trans (fr_mono f0 (fun x hx => by omega)) (fr_mono hF (fun x hx => by unfold inC at hx; omega))
      have hx : CX s n O c i sp := cx_fr hx0 hF
      by_cases hlim : 8 * 8 ^ (i / 3 + 1) < t + 1
      · rw [if_pos (nI_lt hlim (by omega))]
        cases hbb : b with
        | false => exact fin hbb
        | true =>
          have := hb1 hbb
          have := cnt_le n (i / 3 + 1) S
          omega
      · rw [if_neg (nI_nlt (by omega) (by omega))]
        cases hbb : b with
        | false => rw [if_pos (show nI false.toNat = 0 from rfl)]; exact fin hbb
        | true =>
          rw [if_neg (by decide)]
          refine ok_cal (e_trap hx hS) (fun _ s1 ⟨t1, t2⟩ => ?_)
          dsimp only at t1 t2
          have hF1 : Fr (inC i) σ1 s1 := fr_trans hF (fr_mono t2 (fun c hc => by unfold inC; omega))
          have hx1 : CX s1 n O c i sp := cx_fr hx0 hF1
          refine e_widens hx1 t1 (fun s2 w1 w2 => ?_)
          have hF2 : Fr (inC i) σ1 s2 := fr_trans hF1 (fr_mono w2 (fun c hc => by unfold inC; omega))
          have hx2 : CX s2 n O c i sp := cx_fr hx0 hF2
          have hS2 : ∀ r, Vr n (i / 3 + 1) r → s2.1 (42 + 5 * i) r = nI (S r) := fun r hr => by
            rw [w2.1 _ (by omega), t2.1 _ (by omega)]; exact hS r hr
          have hL2 : s2.1 (41 + 5 * i) = s.1 (41 + 5 * i) := by rw [w2.1 _ (by omega), t2.1 _ (by omega)]
          have hwl := wid_lt hnp hk (T := fun r => tpS n O sp (i / 3 + 1) r (S r)) (fun r _ => nd_lt (all_lt hnp)) (i / 3 + 1) (Nat.le_refl _)
          have hTn := tb_next hnp hk hT
          refine ok_cal (e_note hx2 (nI (t + 1)) hS2 (fun r hr => ⟨w1 r hr, hwl r hr⟩)) (fun m s3 ⟨⟨b', n1, n2, n3⟩, n4, n5, n6⟩ => ?_)
          dsimp only at n1 n4 n5 n6
          subst n1
          rw [q_1, nI_add]
          have hF3 : Fr (inC i) σ1 s3 := fr_trans hF2 (fr_mono n6 (fun c hc => by unfold inC; omega))
          generalize hW : wid n (i / 3) O (fun r => tpS n O sp (i / 3 + 1) r (S r)) (i / 3 + 1) = W at *
          refine kk _ _ _ ⟨t + 1, fun r => S r ||| W r, b', by omega, rfl, rfl, hTn, n4, fun r p hr hp => ?_, fun hb' => ?_, fun hb' => ?_, hF3⟩ ?_
          · rw [n5 r p hr (by omega), hL2]
            obtain ⟨v, v1, v2⟩ := hL r p hr hp
            have hbit : (nd (W r) (S r)).testBit p = true ↔ Su O sp (t + 1) (dgs (i / 3 + 1) r) p ∧ ¬ Su O sp t (dgs (i / 3 + 1) r) p := by
              have a1 := hTn r hr p
              have a2 := hT r hr p
              dsimp only at a1
              rw [Nat.testBit_or] at a1
              rw [nd_tb]
              cases c1 : (W r).testBit p <;> cases c2 : (S r).testBit p <;> rw [c1, c2] at a1 <;> rw [c2] at a2 <;> simp [hp] at a1 a2 ⊢ <;> simp [a1, a2]
            by_cases hf : (nd (W r) (S r)).testBit p = true
            · rw [if_pos hf]
              obtain ⟨c1, c2⟩ := hbit.mp hf
              exact ⟨t + 1, rfl, Or.inl ⟨Nat.le_refl _, c1, fun t' ht' q => c2 (su_le (by omega) q)⟩⟩
            · rw [if_neg hf]
              refine ⟨v, v1, ?_⟩
              rcases v2 with ⟨c1, c2, c3⟩ | ⟨c1, c2⟩
              · exact Or.inl ⟨by omega, c2, c3⟩
              · refine Or.inr ⟨c1, fun q => hf (hbit.mpr ⟨q, c2⟩)⟩
          · obtain ⟨r, r1, r2⟩ := n2 hb'
            have := cnt_lt (i / 3 + 1) (S := S) (W := W) r1 (hwl r r1) r2
            have := hb1 hbb
            omega
          · have hz0 := n3 hb'
            have hstep : ∀ r p, Vr n (i / 3 + 1) r → p < n → Su O sp (t + 1) (dgs (i / 3 + 1) r) p → Su O sp t (dgs (i / 3 + 1) r) p := by
              intro r p hr hp q
              have a1 := (hTn r hr p).mpr ⟨hp, q⟩
              dsimp only at a1
              rw [← or_nd, hz0 r hr, Nat.or_zero] at a1
              exact ((hT r hr p).mp a1).2
            intro t' r p hr hp q
            exact Or.inl (stat hnp hk hstep t' r p hr hp q)
          · rw [nI_clamp (by omega), nI_clamp (by omega)]; omega
    · intro r hr p
      rw [plc_tb, Bool.and_eq_true, decide_eq_true_iff, decide_eq_true_iff]
      constructor
      · rintro ⟨-, q⟩; exact ⟨hr.2 p q, q⟩
      · rintro ⟨q1, q2⟩; exact ⟨by omega, q2⟩
    · intro r p hr hp
      rw [b2 r p hr.1 (by omega)]
      by_cases q : mb (i / 3) r p (i / 3 + 1) = true
      · rw [if_pos q]
        exact ⟨0, rfl, Or.inl ⟨Nat.le_refl _, (mb_mem hk).mp q, fun t' ht' => by omega⟩⟩
      · rw [if_neg q]
        exact ⟨1048576, rfl, Or.inr ⟨rfl, fun q' => q ((mb_mem hk).mpr q')⟩⟩
    · intro _
      have hv := vr0 hnp hk
      have e1 : (plc (dgs (i / 3 + 1) 0)).testBit 0 = true := by
        rw [plc_tb]
        have : (0 : Nat) ∈ dgs (i / 3 + 1) 0 := by rw [dgs]; simp
        simp [this]
      have : sm (fun _ => 0) (8 ^ (i / 3 + 1)) < cntS n (i / 3 + 1) (fun r => plc (dgs (i / 3 + 1) r)) := sm_lt (r := 0) (fun r => Nat.zero_le _) (by
        dsimp only
        rw [if_pos (vrB_iff.mpr hv)]
        exact pc_pos e1 8 (by omega)) _ hv.1
      omega
end SOLVE2
