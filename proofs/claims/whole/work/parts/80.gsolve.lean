section GSOLVE
variable {σ : St} {n c g : Nat} {O : Nat → Nat}
theorem ga_lt (h : NP n O) {S T : Nat} (hS : S < 2 ^ n) (hh : GA O S T) : T < 2 ^ n := by
  obtain ⟨a, b, h1, h2, h3, rfl⟩ := hh
  exact or_lt (nd_lt hS) (Nat.pow_lt_pow_right (by decide) (np_lt8 h h2).2)
theorem e_moveAlone (hN : NC σ n O c) (hg : g < 2) (h0 : Rw σ (27 + 3 * g) (fun _ _ => False)) : Ok (f_X2_moveAlone σ g) (fun q => Rw q.2 (27 + 3 * g) (fun S T => 1 ≤ S ∧ S < 2 ^ n ∧ GA O S T) ∧ Fr (fun c => c = 27 + 3 * g) σ q.2 ∧ q.2.1 = σ.1) := by
  have h8 := hN.np.h8
  have h256 := p256 h8
  have h2 := Nat.two_pow_pos n
  have hl := (ln_g g hg).1
  have hcN : ∀ s, Fr (fun c => c = 27 + 3 * g) σ s → NC s n O c := fun s f => nc_fr hN f (fun x hx => by omega)
  unfold f_X2_moveAlone f_X3_places
  rw [q_mm, q_0, q_1, q_4]
  refine lo2_for (fun S0 s => 1 ≤ S0 ∧ Rw s (27 + 3 * g) (fun S T => 1 ≤ S ∧ S < S0 ∧ GA O S T) ∧ Fr (fun c => c = 27 + 3 * g) σ s ∧ s.1 = σ.1) (2 ^ n) ?_ ?_ FU 1 _ (by omega) (fu_lt (by omega)) ⟨Nat.le_refl _, rw_cg h0 (fun S T _ _ => ⟨fun w => w.elim, fun w => by omega⟩), fr_refl, rfl⟩
  · rintro rec S0 s hS0 ⟨i0, i1, i2, i3⟩ kk
    rw [e_all (hcN s i2).z, calP_s, if_neg (nI_nlt (by omega) (by omega)), nI_add]
    refine lo2_for (fun gd t => Rw t (27 + 3 * g) (fun S T => (1 ≤ S ∧ S < S0 ∧ GA O S T) ∨ (S = S0 ∧ ∃ a b, a < gd ∧ S0.testBit a = true ∧ (O a).testBit b = true ∧ S0.testBit b = false ∧ T = nd S0 (2 ^ a) ||| 2 ^ b)) ∧ Fr (fun c => c = 27 + 3 * g) σ t ∧ t.1 = σ.1) n ?_ ?_ FU 0 _ (by omega) (fu_lt (by omega)) ⟨?_, i2, i3⟩
    · rintro rec2 gd t hgd ⟨j1, j2, j3⟩ k2
      rw [(hcN t j2).pl, calP_s, if_pos (nI_lt hgd (by omega)), e_has (by omega) (by omega), calP_s, jn1, e_outOf (hcN t j2).z (by omega), calP_s, y_nd, nI_add]
      dsimp only
      rw [y_pw (show gd < 8 by omega), y_nd, pk_mul]
      have hX : nd (O gd) S0 < 256 := nd_lt (hN.np.lt8 gd)
      have inner : ∀ X, X < 256 → (∀ b, X.testBit b = true ↔ S0.testBit gd = true ∧ (O gd).testBit b = true ∧ S0.testBit b = false) → Ok (lo2 FU (fun rec16 (s14 : St) (x15 : Int32) =>
                      calP (some (s14.1 1 0)) fun r18 =>
                        (if x15 < r18 then
                          calP (f_X9_has s14 (nI X) x15) fun r19 =>
                            (if r19 = nI 0 then
                              rec16 s14 (x15 + nI 1)
                               else
                              cal (f_X2_put s14 (27 + 3 * g) (nI (S0 * 4)) (nI (nd S0 (2 ^ gd)) ||| (nI 1 <<< (x15 &&& 31)))) fun _ s20 =>
                                rec16 s20 (x15 + nI 1))
                           else
                          rec2 s14 (nI (gd + 1)))) t (nI 0)) (fun q => Rw q.2 (27 + 3 * g) (fun S T => 1 ≤ S ∧ S < 2 ^ n ∧ GA O S T) ∧ Fr (fun c => c = 27 + 3 * g) σ q.2 ∧ q.2.1 = σ.1) := by
        intro X hX8 hXb
        refine lo2_for (fun p t => Rw t (27 + 3 * g) (fun S T => ((1 ≤ S ∧ S < S0 ∧ GA O S T) ∨ (S = S0 ∧ ∃ a b, a < gd ∧ S0.testBit a = true ∧ (O a).testBit b = true ∧ S0.testBit b = false ∧ T = nd S0 (2 ^ a) ||| 2 ^ b)) ∨ (S = S0 ∧ ∃ b, b < p ∧ X.testBit b = true ∧ T = nd S0 (2 ^ gd) ||| 2 ^ b)) ∧ Fr (fun c => c = 27 + 3 * g) σ t ∧ t.1 = σ.1) n ?_ ?_ FU 0 _ (by omega) (fu_lt (by omega)) ⟨?_, j2, j3⟩
        · rintro rec3 p t hp ⟨l1, l2, l3⟩ k3
          rw [(hcN t l2).pl, calP_s, if_pos (nI_lt hp (by omega)), e_has (by omega) (by omega), calP_s, nI_add]
          cases hb : X.testBit p with
          | false =>
            rw [if_pos b_f0]
            refine k3 _ ⟨rw_cg l1 (fun S T _ _ => ?_), l2, l3⟩
            constructor
            · rintro (w | ⟨w, b, w1, w2⟩)
              · exact Or.inl w
              · exact Or.inr ⟨w, b, by omega, w2⟩
            · rintro (w | ⟨w, b, w1, w2, w3⟩)
              · exact Or.inl w
              · rcases Nat.lt_succ_iff_lt_or_eq.mp w1 with e | rfl
                · exact Or.inr ⟨w, b, e, w2, w3⟩
                · rw [hb] at w2; cases w2
          | true =>
            rw [if_neg b_t0, y_pw (by omega), z_or]
            have hT0 : nd S0 (2 ^ gd) ||| 2 ^ p < 256 := or_lt (n := 8) (nd_lt (by omega)) (pow8 (by omega))
            refine ok_cal (rw_put l1 hl (S0 := S0) (by omega) hT0) ?_
            rintro u2 t2 ⟨m1, m2, m3⟩
            refine k3 _ ⟨rw_cg m1 (fun S T hS hT => ?_), fr_trans l2 m2, m3.trans l3⟩
            constructor
            · rintro ((w | ⟨w, b, w1, w2⟩) | ⟨w, w1⟩)
              · exact Or.inl w
              · exact Or.inr ⟨w, b, by omega, w2⟩
              · exact Or.inr ⟨w, p, Nat.lt_succ_self p, hb, w1⟩
            · rintro (w | ⟨w, b, w1, w2, w3⟩)
              · exact Or.inl (Or.inl w)
              · rcases Nat.lt_succ_iff_lt_or_eq.mp w1 with e | rfl
                · exact Or.inl (Or.inr ⟨w, b, e, w2, w3⟩)
                · exact Or.inr ⟨w, w3⟩
        · rintro rec3 t ⟨l1, l2, l3⟩
          rw [(hcN t l2).pl, calP_s, if_neg (nI_nlt (Nat.le_refl _) (by omega))]
          refine k2 _ ⟨rw_cg l1 (fun S T hS hT => ?_), l2, l3⟩
          constructor
          · rintro ((w | ⟨w, a, b, w1, w2⟩) | ⟨w, b, w1, w2, w3⟩)
            · exact Or.inl w
            · exact Or.inr ⟨w, a, b, by omega, w2⟩
            · obtain ⟨x1, x2, x3⟩ := (hXb b).mp w2
              exact Or.inr ⟨w, gd, b, Nat.lt_succ_self gd, x1, x2, x3, w3⟩
          · rintro (w | ⟨w, a, b, w1, w2, w3, w4, w5⟩)
            · exact Or.inl (Or.inl w)
            · rcases Nat.lt_succ_iff_lt_or_eq.mp w1 with e | rfl
              · exact Or.inl (Or.inr ⟨w, a, b, e, w2, w3, w4, w5⟩)
              · exact Or.inr ⟨w, b, (np_lt8 hN.np w3).2, (hXb b).mpr ⟨w2, w3, w4⟩, w5⟩
        · refine rw_cg j1 (fun S T _ _ => ?_)
          constructor
          · intro w; exact Or.inl w
          · rintro (w | ⟨-, b, h, -⟩)
            · exact w
            · exact absurd h (Nat.not_lt_zero _)
      cases hb : S0.testBit gd with
      | false =>
        rw [if_pos b_f0]
        refine inner 0 (by decide) (fun b => ?_)
        rw [hb]; simp
      | true =>
        rw [if_neg b_t0]
        refine inner _ hX (fun b => ?_)
        rw [hb, nd_tb]; simp
    · rintro rec2 t ⟨j1, j2, j3⟩
      rw [(hcN t j2).pl, calP_s, if_neg (nI_nlt (Nat.le_refl _) (by omega))]
      refine kk _ ⟨by omega, rw_cg j1 (fun S T hS hT => ?_), j2, j3⟩
      constructor
      · rintro (⟨w1, w2, w3⟩ | ⟨rfl, a, b, w1, w2⟩)
        · exact ⟨w1, by omega, w3⟩
        · exact ⟨i0, Nat.lt_succ_self _, a, b, w2⟩
      · rintro ⟨w1, w2, w3⟩
        rcases Nat.lt_succ_iff_lt_or_eq.mp w2 with e | rfl
        · exact Or.inl ⟨w1, e, w3⟩
        · obtain ⟨a, b, x1, x2⟩ := w3
          exact Or.inr ⟨rfl, a, b, tb_lt hS0 x1, x1, x2⟩
    · refine rw_cg i1 (fun S T _ _ => ?_)
      constructor
      · intro w; exact Or.inl w
      · rintro (w | ⟨-, a, b, h, -⟩)
        · exact w
        · exact absurd h (Nat.not_lt_zero _)
  · rintro rec s ⟨i0, i1, i2, i3⟩
    rw [e_all (hcN s i2).z, calP_s, if_pos (nI_lt (by omega) (by omega))]
    exact ok_some ⟨i1, i2, i3⟩
def GT (s : St) (g n : Nat) (O : Nat → Nat) : Prop := Sf s g (FF g n O) ∧ Mo s g n O
theorem e_gsolve (hN : NC σ n O c) (hg : g < 2) (hm : σ.1 (26 + 3 * g) 1 = nI g) (hv : σ.1 (26 + 3 * g) 4 = nI c → GT σ g n O) : Ok (f_X2_solve σ g) (fun q => GT q.2 g n O ∧ q.2.1 (26 + 3 * g) 4 = nI c ∧ q.2.1 (26 + 3 * g) 1 = nI g ∧ Fr (fun x => 26 + 3 * g ≤ x ∧ x ≤ 28 + 3 * g) σ q.2) := by
  have h8 := hN.np.h8
  have h256 := p256 h8
  have h2 := Nat.two_pow_pos n
  obtain ⟨hl1, hl2⟩ := ln_g g hg
  unfold f_X2_solve f_X3_changes
  rw [hN.ch, calP_s]
  by_cases gv : σ.1 (26 + 3 * g) 4 = nI c
  · rw [if_pos gv]
    exact ok_some ⟨hv gv, gv, hm, fr_refl⟩
  rw [if_neg gv, calP_s, bd_s]
  refine ok_cal (e_fillL 0 (by omega)) ?_
  rintro u s4 ⟨a1, a2, a3⟩
  refine ok_cal (e_fillL 0 (by omega)) ?_
  rintro u s5 ⟨b1, b2, b3⟩
  have F5 : Fr (fun x => 26 + 3 * g ≤ x ∧ x ≤ 28 + 3 * g) σ s5 := fr_trans (fr_trans (fr_setI fr_refl (by omega)) (fr_mono a2 (fun c hc => by omega))) (fr_mono b2 (fun c hc => by omega))
  have hN5 : NC s5 n O c := nc_fr hN F5 (fun x hx => by omega)
  have e51 : s5.1 (26 + 3 * g) = (setI σ (26 + 3 * g) 4 (nI c)).1 (26 + 3 * g) := by rw [b3, a3]
  have m51 : s5.1 (26 + 3 * g) 1 = nI g := by rw [e51, gsI_s, if_neg (by decide)]; exact hm
  have m54 : s5.1 (26 + 3 * g) 4 = nI c := by rw [e51, gsI_s, if_pos rfl]
  have r5 : Rw s5 (27 + 3 * g) (fun _ _ => False) := fun S hS T hT => by
    unfold rb
    rw [b2.2 (27 + 3 * g) (by omega), a1 _ (by omega), lb_0]
    simp
  rw [jn1, q_0, q_1, q_256, m51]
  dsimp only
  have fin : ∀ s6, (∀ S, 0 < S → S < 2 ^ n → ∀ T, T < 256 → (rb (s6.2 (27 + 3 * g)) (S * 4) T = true ↔ MV g O S T)) → Fr (fun c => c = 27 + 3 * g) s5 s6 → s6.1 = s5.1 → Ok (lo2 FU (fun rec10 (s8 : St) (x9 : Int32) =>
                    calP (f_X3_all s8) fun r12 =>
                      (if r12 < x9 then
                        lo3 FU (fun rec16 (s13 : St) (x14 : Int32) (x15 : Int32) =>
                          (if nI 256 < x15 then
                            some ((), s13)
                             else
                            (if x14 = nI 0 then
                              some ((), s13)
                               else
                              cal (f_X2_dropUnsafe s13 g) fun r18 s19 =>
                                rec16 s19 r18 (x15 + nI 1)))) s8 (nI 1) (nI 0)
                         else
                        cal (f_X2_put s8 (28 + 3 * g) (nI 0) x9) fun _ s20 =>
                          rec10 s20 (x9 + nI 1))) s6 (nI 1)) (fun q => GT q.2 g n O ∧ q.2.1 (26 + 3 * g) 4 = nI c ∧ q.2.1 (26 + 3 * g) 1 = nI g ∧ Fr (fun x => 26 + 3 * g ≤ x ∧ x ≤ 28 + 3 * g) σ q.2) := by
    intro s6 hM f6 g6
    have F6 : Fr (fun x => 26 + 3 * g ≤ x ∧ x ≤ 28 + 3 * g) σ s6 := fr_trans F5 (fr_mono f6 (fun c hc => by omega))
    have hNs : ∀ s, Fr (fun c => c = 28 + 3 * g) s6 s → NC s n O c := fun s f => nc_fr (nc_fr hN F6 (fun x hx => by omega)) f (fun x hx => by omega)
    have hMs : ∀ s, Fr (fun c => c = 28 + 3 * g) s6 s → Mo s g n O := fun s f S p1 p2 T p3 => by rw [f.2 (27 + 3 * g) (by omega)]; exact hM S p1 p2 T p3
    have done : ∀ s, Fr (fun c => c = 28 + 3 * g) s6 s → s.1 = s6.1 → Sf s g (FF g n O) → GT s g n O ∧ s.1 (26 + 3 * g) 4 = nI c ∧ s.1 (26 + 3 * g) 1 = nI g ∧ Fr (fun x => 26 + 3 * g ≤ x ∧ x ≤ 28 + 3 * g) σ s := by
      intro s f e h
      refine ⟨⟨h, hMs s f⟩, ?_, ?_, fr_trans F6 (fr_mono f (fun c hc => by omega))⟩
      · rw [e, g6]; exact m54
      · rw [e, g6]; exact m51
    refine lo2_for (fun S s => 1 ≤ S ∧ Sf s g (fun T => decide (0 < T ∧ T < S)) ∧ Fr (fun c => c = 28 + 3 * g) s6 s ∧ s.1 = s6.1) (2 ^ n) ?_ ?_ FU 1 _ (by omega) (fu_lt (by omega)) ⟨Nat.le_refl _, ?_, fr_refl, rfl⟩
    · rintro rec S s hS ⟨i0, i1, i2, i3⟩ kk
      rw [e_all (hNs s i2).z, calP_s, if_neg (nI_nlt (by omega) (by omega)), nI_add]
      refine ok_cal (e_put (a := 28 + 3 * g) (b := 0) (T := S) (by omega) (by omega) (by omega)) ?_
      rintro u2 s2 (rfl : s2 = _)
      refine kk _ ⟨by omega, fun T hT => ?_, fr_setL i2 rfl, i3⟩
      have ho := i1 T hT
      unfold rb at ho ⊢
      rw [show (setL s (28 + 3 * g) (0 + S / 64) (s.2 (28 + 3 * g) (0 + S / 64) ||| ((1 : Int64) <<< ((nI (S % 64)).toInt64 &&& 63)))).2 (28 + 3 * g) = vp_updL (s.2 (28 + 3 * g)) (0 + S / 64) (s.2 (28 + 3 * g) (0 + S / 64) ||| ((1 : Int64) <<< ((nI (S % 64)).toInt64 &&& 63))) from va_up_self _ _ _, rb_put _ _ (Nat.mod_lt _ (by decide)), ho]
      rw [Bool.eq_iff_iff, Bool.or_eq_true, Bool.and_eq_true, decide_eq_true_iff, decide_eq_true_iff, decide_eq_true_iff, decide_eq_true_iff]
      omega
    · rintro rec s ⟨i0, i1, i2, i3⟩
      rw [e_all (hNs s i2).z, calP_s, if_pos (nI_lt (by omega) (by omega))]
      refine lo3_for (fun j t m => ∃ b : Bool, m = nI b.toNat ∧ Sf t g (dpN g n O (FS0 n) j) ∧ (b = true → cnF (dpN g n O (FS0 n) j) + j ≤ 256) ∧ (b = false → FF g n O = dpN g n O (FS0 n) j) ∧ Fr (fun c => c = 28 + 3 * g) s6 t ∧ t.1 = s6.1) 257 ?_ ?_ FU 0 _ _ (by omega) (fu_lt (by omega)) ⟨true, rfl, i1, fun _ => (by rw [Nat.add_zero]; exact cn_le _), fun e => (by cases e), i2, i3⟩
      · rintro rec2 j t m hj ⟨b, rfl, j1, j2, j3, j4, j5⟩ k2
        rw [if_neg (nI_nlt (by omega) (by omega))]
        cases b with
        | false =>
          rw [if_pos b_f0]
          exact ok_some (done t j4 j5 (by rw [j3 rfl]; exact j1))
        | true =>
          rw [if_neg b_t0, nI_add]
          have h00 : dpN g n O (FS0 n) j 0 = false := by
            cases e : dpN g n O (FS0 n) j 0 with
            | false => rfl
            | true =>
              have h1 := of_decide_eq_true (dpN_le j 0 e)
              omega
          refine ok_cal (e_dropUnsafe (hNs t j4) hg j1 (hMs t j4) h00) ?_
          rintro r18 s19 ⟨⟨b', rfl, c1, c2⟩, c3, c4, c5⟩
          refine k2 _ _ ⟨b', rfl, c3, fun e => ?_, fun e => ?_, fr_trans j4 c4, c5.trans j5⟩
          · obtain ⟨T, t1, t2, t3⟩ := c2 e
            have := cn_lt (dp_le (g := g) (n := n) (O := O) (F := dpN g n O (FS0 n) j) (2 ^ n)) t1 t2 t3
            have h4 := j2 rfl
            show cnF (dpS g n O (dpN g n O (FS0 n) j) (2 ^ n)) + (j + 1) ≤ 256
            omega
          · have e1 := c1 e
            show FF g n O = dpS g n O (dpN g n O (FS0 n) j) (2 ^ n)
            rw [e1]
            exact FF_of (by omega) e1
      · rintro rec2 t m ⟨b, rfl, j1, j2, j3, j4, j5⟩
        rw [if_pos (nI_lt (by omega) (by omega))]
        cases b with
        | false => exact ok_some (done t j4 j5 (by rw [j3 rfl]; exact j1))
        | true => have := j2 rfl; omega
    · intro T hT
      unfold rb
      rw [f6.2 (28 + 3 * g) (by omega), Nat.zero_add, b1 _ (by omega), lb_0]
      exact (decide_eq_false (show ¬ (0 < T ∧ T < 1) by omega)).symm
  by_cases hz : g = 0
  · subst hz
    rw [if_pos rfl]
    refine ok_cal (e_moveAlone hN5 hg r5) ?_
    rintro u s21 ⟨d1, d2, d3⟩
    refine fin s21 (fun S p1 p2 T p3 => ?_) d2 d3
    rw [d1 S (by omega) T p3]
    constructor
    · rintro ⟨-, -, w⟩; exact w
    · intro w; exact ⟨p1, p2, w⟩
  · rw [if_neg (nI_ne (by omega) (by omega) hz)]
    refine ok_cal (e_moveTogether hN5 hg r5) ?_
    rintro u s22 ⟨d1, d2, d3⟩
    refine fin s22 (fun S p1 p2 T p3 => ?_) d2 d3
    rw [d1 S (by omega) T p3, MV, if_neg hz]
    constructor
    · rintro ⟨-, w⟩; exact w
    · intro w; exact ⟨p2, w⟩
end GSOLVE
