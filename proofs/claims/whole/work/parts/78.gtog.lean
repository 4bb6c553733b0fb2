def TG (O : Nat → Nat) : Nat → Nat → Nat → Prop
  | 0, _, T => T = 0
  | m + 1, S, T => (S.testBit m = true ∧ ∃ q p, TG O m S q ∧ (O m).testBit p = true ∧ q.testBit p = false ∧ T = q ||| 2 ^ p) ∨ (S.testBit m = false ∧ TG O m S T)
def GA (O : Nat → Nat) (S T : Nat) : Prop := ∃ a b, S.testBit a = true ∧ (O a).testBit b = true ∧ S.testBit b = false ∧ T = nd S (2 ^ a) ||| 2 ^ b
theorem orp : ∀ p, p < 8 → ∀ q, q < 256 → (q.testBit p = false → q ||| 2 ^ p = q + 2 ^ p ∧ (q + 2 ^ p).testBit p = true) ∧ (q.testBit p = true → (q - 2 ^ p).testBit p = false ∧ q - 2 ^ p ||| 2 ^ p = q ∧ 2 ^ p ≤ q) := by decide +kernel
theorem row_ne {S B T : Nat} (hT : T < 256) (h : S ≠ B) : S * 4 + T / 64 < B * 4 ∨ B * 4 + 4 ≤ S * 4 + T / 64 := by omega
section GTOG
variable {σ : St} {n c g : Nat} {O : Nat → Nat}
theorem tg_cg {m : Nat} : ∀ {S S' T : Nat}, (∀ i, i < m → S.testBit i = S'.testBit i) → TG O m S T → TG O m S' T := by
  induction m with
  | zero => intro S S' T _ h; exact h
  | succ m ih =>
    intro S S' T he h
    have hm := he m (Nat.lt_succ_self m)
    rcases h with ⟨h1, q, p, h2, h3⟩ | ⟨h1, h2⟩
    · exact Or.inl ⟨by rw [← hm]; exact h1, q, p, ih (fun i hi => he i (by omega)) h2, h3⟩
    · exact Or.inr ⟨by rw [← hm]; exact h1, ih (fun i hi => he i (by omega)) h2⟩
theorem tg_lt (h : NP n O) : ∀ m S T, TG O m S T → T < 2 ^ n := by
  intro m
  induction m with
  | zero => intro S T h; rw [show T = 0 from h]; exact Nat.two_pow_pos n
  | succ m ih =>
    intro S T hh
    rcases hh with ⟨h1, q, p, h2, h3, h4, rfl⟩ | ⟨h1, h2⟩
    · exact or_lt (ih S q h2) (Nat.pow_lt_pow_right (by decide) (np_lt8 h h3).2)
    · exact ih S T h2
theorem tg_up {S T m : Nat} (hS : S < 2 ^ m) : ∀ d, TG O (m + d) S T ↔ TG O m S T := by
  intro d
  induction d with
  | zero => exact Iff.rfl
  | succ d ih =>
    have hb : S.testBit (m + d) = false := tb_ge hS (by omega)
    constructor
    · rintro (⟨h1, -⟩ | ⟨-, h2⟩)
      · exact absurd ((show S.testBit (m + d) = true from h1).symm.trans hb) (by decide)
      · exact ih.mp h2
    · intro h
      exact Or.inr ⟨hb, ih.mpr h⟩
theorem tg_8 {S T m : Nat} (hm : m ≤ 8) (hS : S < 2 ^ m) : TG O 8 S T ↔ TG O m S T := by
  have := tg_up (O := O) (T := T) hS (8 - m)
  rwa [show m + (8 - m) = 8 by omega] at this
theorem tg_next (h : NP n O) {m S0 T : Nat} (hm : m < 8) (hS : S0 < 2 ^ m) (hT : T < 256) : TG O 8 (S0 + 2 ^ m) T ↔ ∃ p, (O m).testBit p = true ∧ T.testBit p = true ∧ TG O 8 S0 (T - 2 ^ p) := by
  have h8 := h.h8
  have hS1 : S0 + 2 ^ m < 2 ^ (m + 1) := by rw [Nat.pow_succ]; omega
  have hb : (S0 + 2 ^ m).testBit m = true := by
    rw [Nat.add_comm]
    have e1 := Nat.two_pow_add_eq_or_of_lt hS 1
    rw [Nat.mul_one] at e1
    rw [e1, Nat.testBit_or, tb_pow]; simp
  have hlow : ∀ i, i < m → (S0 + 2 ^ m).testBit i = S0.testBit i := fun i hi => by
    rw [Nat.add_comm]
    have e1 := Nat.two_pow_add_eq_or_of_lt hS 1
    rw [Nat.mul_one] at e1
    rw [e1, Nat.testBit_or, tb_pow, decide_eq_false (by omega)]; simp
  rw [tg_8 (by omega) hS1]
  constructor
  · rintro (⟨h1, q, p, h2, h3, h4, rfl⟩ | ⟨h1, h2⟩)
    · have hq := Nat.lt_of_lt_of_le (tg_lt h m _ q h2) (p256 h8)
      have hp := (np_lt8 h h3).2
      obtain ⟨a1, a2⟩ := (orp p (by omega) q hq).1 h4
      refine ⟨p, h3, by rw [a1]; exact a2, ?_⟩
      rw [a1, Nat.add_sub_cancel, tg_8 (by omega) hS]
      exact tg_cg hlow h2
    · rw [hb] at h1; cases h1
  · rintro ⟨p, h1, h2, h3⟩
    have hp := (np_lt8 h h1).2
    obtain ⟨a1, a2, a3⟩ := (orp p (by omega) T hT).2 h2
    rw [tg_8 (by omega) hS] at h3
    exact Or.inl ⟨hb, T - 2 ^ p, p, tg_cg (fun i hi => (hlow i hi).symm) h3, h1, a1, a2.symm⟩
def Rw (s : St) (a : Nat) (D : Nat → Nat → Prop) : Prop := ∀ S, S < 256 → ∀ T, T < 256 → (rb (s.2 a) (S * 4) T = true ↔ D S T)
theorem rw_put {s : St} {a : Nat} {D : Nat → Nat → Prop} (h : Rw s a D) (hl : ln a = 1024) {S0 T0 : Nat} (hS0 : S0 < 256) (hT0 : T0 < 256) : Ok (f_X2_put s a (nI (S0 * 4)) (nI T0)) (fun q => Rw q.2 a (fun S T => D S T ∨ (S = S0 ∧ T = T0)) ∧ Fr (fun c => c = a) s q.2 ∧ q.2.1 = s.1) := by
  refine ok_mono (e_put hT0 (by omega) (by omega)) ?_
  rintro ⟨u, q⟩ (rfl : q = _)
  refine ⟨fun S hS T hT => ?_, fr_setL fr_refl rfl, rfl⟩
  dsimp only
  unfold rb
  rw [show (setL s a (S0 * 4 + T0 / 64) (s.2 a (S0 * 4 + T0 / 64) ||| ((1 : Int64) <<< ((nI (T0 % 64)).toInt64 &&& 63)))).2 a = vp_updL (s.2 a) (S0 * 4 + T0 / 64) (s.2 a (S0 * 4 + T0 / 64) ||| ((1 : Int64) <<< ((nI (T0 % 64)).toInt64 &&& 63))) from va_up_self _ _ _, rb_put _ _ (Nat.mod_lt _ (by decide)), Bool.or_eq_true, Bool.and_eq_true]
  rw [show lb (s.2 a (S * 4 + T / 64)) (T % 64) = rb (s.2 a) (S * 4) T from rfl, h S hS T hT]
  constructor
  · rintro (a | ⟨a, b⟩)
    · exact Or.inl a
    · have a' := of_decide_eq_true a
      have b' := of_decide_eq_true b
      exact Or.inr ⟨by omega, by omega⟩
  · rintro (a | ⟨rfl, rfl⟩)
    · exact Or.inl a
    · exact Or.inr ⟨decide_eq_true rfl, decide_eq_true rfl⟩
theorem rw_add {s : St} {D : Nat → Nat → Prop} (h : Rw s (27 + 3 * g) D) {A B p : Nat} (hAB : A < B) (hB : B < 256) (hp : p < 8) : Ok (f_X2_addPlace s g (nI (A * 4)) (nI (B * 4)) (nI p)) (fun q => Rw q.2 (27 + 3 * g) (fun S T => D S T ∨ (S = B ∧ T.testBit p = true ∧ D A (T - 2 ^ p))) ∧ Fr (fun c => c = 27 + 3 * g) s q.2 ∧ q.2.1 = s.1) := by
  refine ok_mono (e_addPlace hAB hB hp) ?_
  rintro q ⟨h1, h2, h3, h4⟩
  refine ⟨fun S hS T hT => ?_, h3, h4⟩
  by_cases e : S = B
  · subst e
    rw [h1 T hT, Bool.or_eq_true, Bool.and_eq_true, h S hS T hT, h A (by omega) (T - 2 ^ p) (Nat.lt_of_le_of_lt (Nat.sub_le _ _) hT)]
    simp
  · rw [rb_eq (h2 _ (row_ne hT e)), h S hS T hT]
    simp [e]
theorem rw_cg {s : St} {a : Nat} {D D' : Nat → Nat → Prop} (h : Rw s a D) (e : ∀ S T, S < 256 → T < 256 → (D S T ↔ D' S T)) : Rw s a D' := fun S hS T hT => (h S hS T hT).trans (e S T hS hT)
theorem e_moveTogether (hN : NC σ n O c) (hg : g < 2) (h0 : Rw σ (27 + 3 * g) (fun _ _ => False)) : Ok (f_X2_moveTogether σ g) (fun q => Rw q.2 (27 + 3 * g) (fun S T => S < 2 ^ n ∧ TG O 8 S T) ∧ Fr (fun c => c = 27 + 3 * g) σ q.2 ∧ q.2.1 = σ.1) := by
  have h8 := hN.np.h8
  have hl := (ln_g g hg).1
  unfold f_X2_moveTogether
  have hcN : ∀ s, Fr (fun c => c = 27 + 3 * g) σ s → NC s n O c := fun s f => nc_fr hN f (fun x hx => by omega)
  rw [q_0, q_1, q_2, q_4]
  refine ok_cal (rw_put (S0 := 0) (T0 := 0) h0 hl (by decide) (by decide)) ?_
  rintro u s1 ⟨r1, f1, g1⟩
  refine lo2_for (fun gd s => Rw s (27 + 3 * g) (fun S T => S < 2 ^ gd ∧ TG O 8 S T) ∧ Fr (fun c => c = 27 + 3 * g) σ s ∧ s.1 = σ.1) n ?_ ?_ FU 0 _ (by omega) (fu_lt (by omega)) ⟨?_, f1, g1⟩
  · rintro rec gd s hgd ⟨i1, i2, i3⟩ kk
    have h2g := pow8 (p := gd) (by omega)
    have h2s : 2 ^ (gd + 1) = 2 * 2 ^ gd := by rw [Nat.pow_succ]; omega
    have h2n : 2 * 2 ^ gd ≤ 256 := by rw [← h2s]; exact p256 (by omega)
    have h2p := Nat.two_pow_pos gd
    unfold f_X3_places
    rw [(hcN s i2).pl, calP_s, if_pos (nI_lt hgd (by omega)), y_pw (by omega), bd_s, pk_mul, nI_add]
    refine lo2_for (fun S0 t => 2 ^ gd ≤ S0 ∧ Rw t (27 + 3 * g) (fun S T => S < S0 ∧ TG O 8 S T) ∧ Fr (fun c => c = 27 + 3 * g) σ t ∧ t.1 = σ.1) (2 * 2 ^ gd) ?_ ?_ FU (2 ^ gd) _ (by omega) (fu_lt (by omega)) ⟨Nat.le_refl _, i1, i2, i3⟩
    · rintro rec2 S0 t hS0 ⟨j0, j1, j2, j3⟩ k2
      rw [if_pos (nI_lt hS0 (by omega)), pk_sub j0, pk_mul, pk_mul, nI_add]
      have z0 : ∀ S T, S < 256 → T < 256 → ((S < S0 ∧ TG O 8 S T) ↔ ((S < S0 ∧ TG O 8 S T) ∨ (S = S0 ∧ ∃ p', p' < 0 ∧ (O gd).testBit p' = true ∧ T.testBit p' = true ∧ TG O 8 (S0 - 2 ^ gd) (T - 2 ^ p')))) := by
        intro S T _ _
        constructor
        · intro w; exact Or.inl w
        · rintro (w | ⟨-, p', h, -⟩)
          · exact w
          · exact absurd h (Nat.not_lt_zero _)
      refine lo2_for (fun p t => Rw t (27 + 3 * g) (fun S T => (S < S0 ∧ TG O 8 S T) ∨ (S = S0 ∧ ∃ p', p' < p ∧ (O gd).testBit p' = true ∧ T.testBit p' = true ∧ TG O 8 (S0 - 2 ^ gd) (T - 2 ^ p'))) ∧ Fr (fun c => c = 27 + 3 * g) σ t ∧ t.1 = σ.1) n ?_ ?_ FU 0 _ (by omega) (fu_lt (by omega)) ⟨rw_cg j1 z0, j2, j3⟩
      · rintro rec3 p t hp ⟨l1, l2, l3⟩ k3
        rw [(hcN t l2).pl, calP_s, if_pos (nI_lt hp (by omega)), e_outOf (hcN t l2).z (by omega), calP_s, e_has (Nat.lt_trans (hN.np.lt8 gd) (by decide)) (by omega), calP_s, nI_add]
        cases hb : (O gd).testBit p with
        | false =>
          rw [if_pos b_f0]
          refine k3 _ ⟨rw_cg l1 (fun S T _ _ => ?_), l2, l3⟩
          constructor
          · rintro (w | ⟨w, p', w1, w2⟩)
            · exact Or.inl w
            · exact Or.inr ⟨w, p', by omega, w2⟩
          · rintro (w | ⟨w, p', w1, w2, w3⟩)
            · exact Or.inl w
            · rcases Nat.lt_succ_iff_lt_or_eq.mp w1 with e | rfl
              · exact Or.inr ⟨w, p', e, w2, w3⟩
              · rw [hb] at w2; cases w2
        | true =>
          rw [if_neg b_t0]
          refine ok_cal (rw_add l1 (A := S0 - 2 ^ gd) (B := S0) (p := p) (by omega) (by omega) (by omega)) ?_
          rintro u2 t2 ⟨m1, m2, m3⟩
          refine k3 _ ⟨rw_cg m1 (fun S T hS hT => ?_), fr_trans l2 m2, m3.trans l3⟩
          constructor
          · rintro ((w | ⟨w, p', w1, w2⟩) | ⟨w, w1, w2⟩)
            · exact Or.inl w
            · exact Or.inr ⟨w, p', by omega, w2⟩
            · rcases w2 with ⟨w2, w3⟩ | ⟨w2, -⟩
              · exact Or.inr ⟨w, p, Nat.lt_succ_self p, hb, w1, w3⟩
              · omega
          · rintro (w | ⟨w, p', w1, w2, w3, w4⟩)
            · exact Or.inl (Or.inl w)
            · rcases Nat.lt_succ_iff_lt_or_eq.mp w1 with e | rfl
              · exact Or.inl (Or.inr ⟨w, p', e, w2, w3, w4⟩)
              · exact Or.inr ⟨w, w3, Or.inl ⟨by omega, w4⟩⟩
      · rintro rec3 t ⟨l1, l2, l3⟩
        rw [(hcN t l2).pl, calP_s, if_neg (nI_nlt (Nat.le_refl _) (by omega))]
        refine k2 _ ⟨by omega, rw_cg l1 (fun S T hS hT => ?_), l2, l3⟩
        have nx := tg_next hN.np (m := gd) (S0 := S0 - 2 ^ gd) (T := T) (by omega) (by omega) hT
        rw [show S0 - 2 ^ gd + 2 ^ gd = S0 by omega] at nx
        constructor
        · rintro (⟨w, w1⟩ | ⟨rfl, p', w1, w2, w3, w4⟩)
          · exact ⟨by omega, w1⟩
          · exact ⟨by omega, nx.mpr ⟨p', w2, w3, w4⟩⟩
        · rintro ⟨w, w1⟩
          rcases Nat.lt_succ_iff_lt_or_eq.mp w with e | rfl
          · exact Or.inl ⟨e, w1⟩
          · obtain ⟨p, p1, p2, p3⟩ := nx.mp w1
            exact Or.inr ⟨rfl, p, (np_lt8 hN.np p1).2, p1, p2, p3⟩
    · rintro rec2 t ⟨j0, j1, j2, j3⟩
      rw [if_neg (nI_nlt (Nat.le_refl _) (by omega))]
      exact kk _ ⟨by rw [h2s]; exact j1, j2, j3⟩
  · rintro rec s ⟨i1, i2, i3⟩
    unfold f_X3_places
    rw [(hcN s i2).pl, calP_s, if_neg (nI_nlt (Nat.le_refl _) (by omega))]
    exact ok_some ⟨i1, i2, i3⟩
  · refine rw_cg r1 (fun S T hS hT => ?_)
    constructor
    · rintro (w | ⟨rfl, rfl⟩)
      · exact w.elim
      · exact ⟨Nat.two_pow_pos 0, (tg_8 (m := 0) (by decide) (by decide)).mpr rfl⟩
    · rintro ⟨w, w1⟩
      have : S = 0 := by simpa using w
      subst this
      exact Or.inr ⟨rfl, (tg_8 (m := 0) (by decide) (by decide)).mp w1⟩
end GTOG
