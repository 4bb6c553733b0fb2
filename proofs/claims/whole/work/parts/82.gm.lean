theorem pB_cg {P Q : Prop} (h : P ↔ Q) : pB P = pB Q := by rw [Bool.eq_iff_iff, pB_iff, pB_iff]; exact h
theorem pB_t {P : Prop} (h : P) : pB P = true := pB_iff.mpr h
theorem pB_f {P : Prop} (h : ¬ P) : pB P = false := by
  cases e : pB P with
  | false => rfl
  | true => exact absurd (pB_iff.mp e) h
/-- a row of yes and no -/
def Rz (s : St) (a : Nat) (A : Nat → Prop) : Prop := ∀ T, T < 256 → s.1 a T = nI (pB (A T)).toNat
theorem rz_cg {s : St} {a : Nat} {A B : Nat → Prop} (h : Rz s a A) (e : ∀ T, T < 256 → (A T ↔ B T)) : Rz s a B := fun T hT => by rw [h T hT, pB_cg (e T hT)]
theorem rz_eq {s t : St} {a : Nat} {A : Nat → Prop} (h : Rz s a A) (e : t.1 a = s.1 a) : Rz t a A := fun T hT => by rw [e]; exact h T hT
section GM
variable {σ : St} {n : Nat} {O : Nat → Nat}
def g3 (c : Nat) : Prop := c = 121 ∨ c = 122
theorem m_goOneMore (hN : NM σ n O) {A : Nat → Prop} {X : Nat} (hX : X < 256) (hA : Rz σ 121 A) : Ok (f_X10_goOneMore σ (nI X)) (fun q => Rz q.2 121 (fun T => ∃ q p, q < 256 ∧ p < n ∧ A q ∧ X.testBit p = true ∧ q.testBit p = false ∧ T = q ||| 2 ^ p) ∧ Fr g3 σ q.2) := by
  have h8 := hN.np.h8
  have hF : ∀ s, Fr g3 σ s → NM s n O := fun s f => nm_fr hN f (by unfold g3; omega) (by unfold g3; omega)
  unfold f_X10_goOneMore
  rw [q_0, q_1, q_256]
  refine lo2_for (fun i s => (∀ T, T < i → s.1 122 T = nI 0) ∧ Fr (fun c => c = 122) σ s) 256 ?_ ?_ FU 0 _ (by omega) (fu_lt (by omega)) ⟨fun T hT => absurd hT (Nat.not_lt_zero _), fr_refl⟩
  · rintro rec i s hi ⟨i1, i2⟩ kk
    rw [if_pos (nI_lt hi (by omega)), y_ck _ hi (by omega), nI_clamp (by omega), bd_s, nI_add]
    refine kk _ ⟨fun T hT => ?_, fr_setI i2 rfl⟩
    rw [gsI_s]
    by_cases e : T = i
    · rw [if_pos e]
    · rw [if_neg e]; exact i1 T (by omega)
  · rintro rec s ⟨i1, i2⟩
    rw [if_neg (nI_nlt (Nat.le_refl _) (by omega))]
    refine lo2_for (fun q s => Rz s 122 (fun T => ∃ q' p, q' < q ∧ p < n ∧ A q' ∧ X.testBit p = true ∧ q'.testBit p = false ∧ T = q' ||| 2 ^ p) ∧ Fr (fun c => c = 122) σ s) 256 ?_ ?_ FU 0 _ (by omega) (fu_lt (by omega)) ⟨fun T hT => by rw [i1 T hT, pB_f (by rintro ⟨q', p, h, -⟩; exact absurd h (Nat.not_lt_zero _))]; rfl, i2⟩
    · rintro rec2 q s hq ⟨j1, j2⟩ k2
      rw [if_pos (nI_lt hq (by omega)), nI_add]
      have h121 : ∀ t, Fr (fun c => c = 122) σ t → t.1 121 q = nI (pB (A q)).toNat := fun t f => by rw [f.1 121 (by decide)]; exact hA q hq
      refine lo2_for (fun p s => Rz s 122 (fun T => (∃ q' p, q' < q ∧ p < n ∧ A q' ∧ X.testBit p = true ∧ q'.testBit p = false ∧ T = q' ||| 2 ^ p) ∨ ∃ p', p' < p ∧ A q ∧ X.testBit p' = true ∧ q.testBit p' = false ∧ T = q ||| 2 ^ p') ∧ Fr (fun c => c = 122) σ s) n ?_ ?_ FU 0 _ (by omega) (fu_lt (by omega)) ⟨rz_cg j1 (fun T _ => ⟨fun w => Or.inl w, fun w => w.elim id (fun ⟨p', h, _⟩ => absurd h (Nat.not_lt_zero _))⟩), j2⟩
      · rintro rec3 p t hp ⟨l1, l2⟩ k3
        have hNt : NM t n O := nm_fr hN l2 (by decide) (by decide)
        rw [hNt.pl, if_pos (nI_lt hp (by omega)), y_ck _ hq (by omega), nI_clamp (by omega), h121 t l2, y_bt (by omega) (by omega), y_bt (by omega) (by omega), nI_add, y_pw (by omega), z_or]
        cases ha : pB (A q) with
        | false =>
          have hna : ¬ A q := fun w => by rw [pB_t w] at ha; cases ha
          rw [if_pos b_f0]
          refine k2 _ ⟨rz_cg l1 (fun T _ => ?_), l2⟩
          constructor
          · rintro (⟨q', p, w1, w2⟩ | ⟨p', -, w, -⟩)
            · exact ⟨q', p, by omega, w2⟩
            · exact absurd w hna
          · rintro ⟨q', p, w1, w2, w3, w4⟩
            rcases Nat.lt_succ_iff_lt_or_eq.mp w1 with e | rfl
            · exact Or.inl ⟨q', p, e, w2, w3, w4⟩
            · exact absurd w3 hna
        | true =>
          have hya := pB_iff.mp ha
          rw [if_neg b_t0]
          have skip : ¬ (X.testBit p = true ∧ q.testBit p = false) → Ok (rec3 t (nI (p + 1))) (fun q => Rz q.2 121 (fun T => ∃ q p, q < 256 ∧ p < n ∧ A q ∧ X.testBit p = true ∧ q.testBit p = false ∧ T = q ||| 2 ^ p) ∧ Fr g3 σ q.2) := by
            intro hn
            refine k3 _ ⟨rz_cg l1 (fun T _ => ?_), l2⟩
            constructor
            · rintro (w | ⟨p', w1, w2⟩)
              · exact Or.inl w
              · exact Or.inr ⟨p', by omega, w2⟩
            · rintro (w | ⟨p', w1, w2, w3, w4, w5⟩)
              · exact Or.inl w
              · rcases Nat.lt_succ_iff_lt_or_eq.mp w1 with e | rfl
                · exact Or.inr ⟨p', e, w2, w3, w4, w5⟩
                · exact absurd ⟨w3, w4⟩ hn
          cases hx : X.testBit p with
          | false => rw [if_neg b_f1]; exact skip (fun w => by rw [hx] at w; cases w.1)
          | true =>
            rw [if_pos b_t1]
            cases hqp : q.testBit p with
            | true => rw [if_neg b_t0]; exact skip (fun w => by rw [hqp] at w; cases w.2)
            | false =>
              have hl : q ||| 2 ^ p < 256 := or_lt (n := 8) hq (pow8 (by omega))
              rw [if_pos b_f0, y_ck _ hl (by omega), nI_clamp (by omega), bd_s]
              refine k3 _ ⟨fun T hT => ?_, fr_setI l2 rfl⟩
              rw [gsI_s]
              by_cases e : T = q ||| 2 ^ p
              · rw [if_pos e, pB_t (Or.inr ⟨p, Nat.lt_succ_self p, hya, hx, hqp, e⟩)]; rfl
              · rw [if_neg e, l1 T hT]
                congr 2
                refine pB_cg ?_
                constructor
                · rintro (w | ⟨p', w1, w2⟩)
                  · exact Or.inl w
                  · exact Or.inr ⟨p', by omega, w2⟩
                · rintro (w | ⟨p', w1, w2, w3, w4, w5⟩)
                  · exact Or.inl w
                  · rcases Nat.lt_succ_iff_lt_or_eq.mp w1 with e1 | rfl
                    · exact Or.inr ⟨p', e1, w2, w3, w4, w5⟩
                    · exact absurd w5 e
      · rintro rec3 t ⟨l1, l2⟩
        have hNt : NM t n O := nm_fr hN l2 (by decide) (by decide)
        rw [hNt.pl, if_neg (nI_nlt (Nat.le_refl _) (by omega))]
        refine k2 _ ⟨rz_cg l1 (fun T _ => ?_), l2⟩
        constructor
        · rintro (⟨q', p, w1, w2⟩ | ⟨p', w1, w2, w3⟩)
          · exact ⟨q', p, by omega, w2⟩
          · exact ⟨q, p', Nat.lt_succ_self q, w1, w2, w3⟩
        · rintro ⟨q', p, w1, w2, w3, w4⟩
          rcases Nat.lt_succ_iff_lt_or_eq.mp w1 with e | rfl
          · exact Or.inl ⟨q', p, e, w2, w3, w4⟩
          · exact Or.inr ⟨p, w2, w3, w4⟩
    · rintro rec2 s ⟨j1, j2⟩
      rw [if_neg (nI_nlt (Nat.le_refl _) (by omega))]
      refine lo2_for (fun i t => (∀ T, T < i → t.1 121 T = s.1 122 T) ∧ t.1 122 = s.1 122 ∧ Fr g3 σ t) 256 ?_ ?_ FU 0 _ (by omega) (fu_lt (by omega)) ⟨fun T hT => absurd hT (Nat.not_lt_zero _), rfl, fr_mono j2 (fun c hc => Or.inr hc)⟩
      · rintro rec3 i t hi ⟨l1, l2, l3⟩ k3
        rw [if_pos (nI_lt hi (by omega)), y_ck _ hi (by omega), nI_clamp (by omega), l2, j1 i hi, y_ckZ, y_ck _ hi (by omega), bd_s, nI_add]
        refine k3 _ ⟨fun T hT => ?_, by rw [gsI_o (by decide)]; exact l2, fr_setI l3 (Or.inl rfl)⟩
        rw [gsI_s]
        by_cases e : T = i
        · rw [if_pos e, e, j1 i hi]
        · rw [if_neg e]; exact l1 T (by omega)
      · rintro rec3 t ⟨l1, l2, l3⟩
        rw [if_neg (nI_nlt (Nat.le_refl _) (by omega))]
        exact ok_some ⟨fun T hT => by rw [show (((), t) : Unit × St).2.1 121 T = t.1 121 T from rfl, l1 T hT]; exact j1 T hT, l3⟩
def g4 (c : Nat) : Prop := c = 119 ∨ c = 121 ∨ c = 122
def Gz (s : St) (O : Nat → Nat) (m : Nat) : Prop := ∀ S, 0 < S → S < m → ∀ T, T < 256 → s.1 119 (256 * S + T) = nI (pB (TG O 8 S T)).toNat
theorem tg_s (h : NP n O) {m S T : Nat} (hb : S.testBit m = true) : TG O (m + 1) S T ↔ ∃ q p, q < 256 ∧ p < n ∧ TG O m S q ∧ (O m).testBit p = true ∧ q.testBit p = false ∧ T = q ||| 2 ^ p := by
  constructor
  · rintro (⟨-, q, p, h1, h2, h3⟩ | ⟨h1, -⟩)
    · exact ⟨q, p, Nat.lt_of_lt_of_le (tg_lt h m S q h1) (p256 h.h8), (np_lt8 h h2).2, h1, h2, h3⟩
    · rw [hb] at h1; cases h1
  · rintro ⟨q, p, -, -, h1, h2, h3⟩
    exact Or.inl ⟨hb, q, p, h1, h2, h3⟩
theorem m_findGoes (hN : NM σ n O) : Ok (f_X10_findGoes σ) (fun q => Gz q.2 O (2 ^ n) ∧ Fr g4 σ q.2) := by
  have h8 := hN.np.h8
  have h256 := p256 h8
  have h2 := Nat.two_pow_pos n
  have hF : ∀ s, Fr g4 σ s → NM s n O := fun s f => nm_fr hN f (by unfold g4; omega) (by unfold g4; omega)
  have hall : nI 1 <<< (nI n &&& 31) = nI (2 ^ n) := by
    simp (disch := omega) only [q_0, q_1, q_2, q_3, q_4, q_5, q_6, q_7, q_8, q_9, q_15, q_16, q_31, q_32, q_48, q_57, q_59, q_63, q_64, q_97, q_100, q_122, q_127, q_160, q_255, q_256, q_512, q_1024, q_2816, q_4096, q_16384, q_1048576, q_m1, q_m2, q_m3, q_m4, q_m5, bd_s, calP_s, cal_s, nI_add, pk_mul, pk_sub, z_and, z_or, z_xor, y_nd, y_shl, y_shr, y_tb, y_ck, nI_ltI, nI_eq, nI_clamp, y_m1a, y_m1b, y_m1c, y_m1d, y_m1e, y_b0, y_b1, y_and255, gsI_o, gsI_s, gsI_2, gsR_o, gsR_s, gsR_2, gsL_1, gsL_o, gsL_s, jn0, jn1, jn2, jn3, jn4, jn5, ↓reduceIte, if_true, if_false, ite_self, ne_eq, not_true_eq_false, not_false_eq_true, and_true, true_and, and_false, false_and, Nat.reduceAdd, Nat.reduceMul, Nat.reduceSub, Nat.reducePow, Nat.reduceLT, Nat.reduceEqDiff, Nat.reduceLeDiff, Nat.not_lt_zero, Nat.add_sub_cancel, Nat.add_zero, Nat.zero_add, pk_div, y_dn, Nat.one_mul, Nat.mul_one, reduceCtorEq, y_pow]
  unfold f_X10_findGoes
  rw [q_0, q_1, q_256]
  refine lo2_for (fun S s => 1 ≤ S ∧ Gz s O S ∧ Fr g4 σ s) (2 ^ n) ?_ ?_ FU 1 _ (by omega) (fu_lt (by omega)) ⟨Nat.le_refl _, fun S a b => by omega, fr_refl⟩
  · rintro rec S s hS ⟨i0, i1, i2⟩ kk
    rw [(hF s i2).pl, hall, if_pos (nI_lt hS (by omega)), nI_add]
    refine lo2_for (fun i t => (∀ T, T < i → t.1 121 T = nI (pB (TG O 0 S T)).toNat) ∧ Gz t O S ∧ Fr g4 σ t) 256 ?_ ?_ FU 0 _ (by omega) (fu_lt (by omega)) ⟨fun T hT => absurd hT (Nat.not_lt_zero _), i1, i2⟩
    · rintro rec2 i t hi ⟨j1, j2, j3⟩ k2
      have st : ∀ v, v = nI (pB (TG O 0 S i)).toNat → Ok (rec2 (setI t 121 i v) (nI (i + 1))) (fun q => Gz q.2 O (2 ^ n) ∧ Fr g4 σ q.2) := by
        intro v hv
        refine k2 _ ⟨fun T hT => ?_, fun S' a b T c => by rw [gsI_o (by decide)]; exact j2 S' a b T c, fr_setI j3 (by unfold g4; omega)⟩
        rw [gsI_s]
        by_cases e : T = i
        · rw [if_pos e, hv, e]
        · rw [if_neg e]; exact j1 T (by omega)
      rw [if_pos (nI_lt hi (by omega)), y_ck _ hi (by omega), nI_clamp (by omega), bd_s, bd_s, nI_add]
      by_cases e : i = 0
      · rw [if_pos (by rw [e])]
        exact st _ (by rw [pB_t (show TG O 0 S i from e)]; rfl)
      · rw [if_neg (nI_ne (by omega) (by omega) e), y_ck _ hi (by omega)]
        exact st (nI 0) (by rw [pB_f (show ¬ TG O 0 S i from e)]; rfl)
    · rintro rec2 t ⟨j1, j2, j3⟩
      rw [if_neg (nI_nlt (Nat.le_refl _) (by omega))]
      refine lo2_for (fun gd t => Rz t 121 (TG O gd S) ∧ Gz t O S ∧ Fr g4 σ t) n ?_ ?_ FU 0 _ (by omega) (fu_lt (by omega)) ⟨j1, j2, j3⟩
      · rintro rec3 gd t hgd ⟨l1, l2, l3⟩ k3
        rw [(hF t l3).pl, if_pos (nI_lt hgd (by omega)), y_bt (by omega) (by omega), nI_add]
        cases hb : S.testBit gd with
        | false =>
          rw [if_neg b_f1]
          refine k3 _ ⟨rz_cg l1 (fun T _ => ?_), l2, l3⟩
          constructor
          · intro w; exact Or.inr ⟨hb, w⟩
          · rintro (⟨w, -⟩ | ⟨-, w⟩)
            · rw [hb] at w; cases w
            · exact w
        | true =>
          rw [if_pos b_t1, e_stepsOf (hF t l3) hgd, calP_s]
          refine ok_cal (m_goOneMore (hF t l3) (hN.np.lt8 gd) l1) ?_
          rintro u t2 ⟨m1, m2⟩
          refine k3 _ ⟨rz_cg m1 (fun T _ => (tg_s hN.np hb).symm), fun S' a b T c => ?_, fr_trans l3 (fr_mono m2 (fun c hc => by unfold g3 at hc; unfold g4; omega))⟩
          rw [m2.1 119 (by unfold g3; omega)]; exact l2 S' a b T c
      · rintro rec3 t ⟨l1, l2, l3⟩
        rw [(hF t l3).pl, if_neg (nI_nlt (Nat.le_refl _) (by omega))]
        have l1' : Rz t 121 (TG O 8 S) := rz_cg l1 (fun T _ => (tg_8 h8 hS).symm)
        refine lo2_for (fun i x => (∀ T, T < i → x.1 119 (256 * S + T) = nI (pB (TG O 8 S T)).toNat) ∧ Rz x 121 (TG O 8 S) ∧ Gz x O S ∧ Fr g4 σ x) 256 ?_ ?_ FU 0 _ (by omega) (fu_lt (by omega)) ⟨fun T hT => absurd hT (Nat.not_lt_zero _), l1', l2, l3⟩
        · rintro rec4 i x hi ⟨m1, m2, m3, m4⟩ k4
          rw [if_pos (nI_lt hi (by omega)), y_ck _ hi (by omega), nI_clamp (by omega), m2 i hi, y_ckZ, pk_mul, nI_add, y_ck _ (by omega) (by omega), nI_clamp (by omega), bd_s, nI_add]
          refine k4 _ ⟨fun T hT => ?_, rz_eq m2 (gsI_o (by decide)), fun S' a b T c => ?_, fr_setI m4 (by unfold g4; omega)⟩
          · rw [gsI_s]
            by_cases e : T = i
            · rw [if_pos (by rw [e]), e]
            · rw [if_neg (by omega)]; exact m1 T (by omega)
          · rw [gsI_s, if_neg (by omega)]; exact m3 S' a b T c
        · rintro rec4 x ⟨m1, m2, m3, m4⟩
          rw [if_neg (nI_nlt (Nat.le_refl _) (by omega))]
          refine kk _ ⟨by omega, fun S' a b T c => ?_, m4⟩
          rcases Nat.lt_succ_iff_lt_or_eq.mp b with e | rfl
          · exact m3 S' a e T c
          · exact m1 T c
  · rintro rec s ⟨i0, i1, i2⟩
    rw [(hF s i2).pl, hall, if_neg (nI_nlt (Nat.le_refl _) (by omega))]
    exact ok_some ⟨i1, i2⟩
end GM
