def g5 (c : Nat) : Prop := c = 119 ∨ c = 120 ∨ c = 121 ∨ c = 122
section GM3
variable {σ : St} {n : Nat} {O : Nat → Nat}
def GZ (s : St) (n : Nat) (O : Nat → Nat) : Prop := Gz s O (2 ^ n) ∧ ∀ m, m < 2 → Tz s m (FF m n O)
theorem tz_drop {s : St} {m : Nat} {F : Nat → Bool} (h : Tz s m F) (S : Nat) : Tz (setI s 120 (256 * m + S) (nI 0)) m (fun T => if T = S then false else F T) := by
  intro T hT
  rw [gsI_s]
  show _ = nI (if T = S then false else F T).toNat
  by_cases e : T = S
  · rw [if_pos (by rw [e]), if_pos e]; rfl
  · rw [if_neg (by omega), if_neg e]; exact h T hT
theorem m_guard (hN : NM σ n O) (hv : σ.1 100 36 = nI 0 ∨ (σ.1 100 36 = nI 1 ∧ GZ σ n O)) : Ok (f_X10_guard σ) (fun q => GZ q.2 n O ∧ q.2.1 100 36 = nI 1 ∧ Fm g5 (fun k => k = 36) σ q.2) := by
  have h8 := hN.np.h8
  have h256 := p256 h8
  have h2 := Nat.two_pow_pos n
  have hall : nI 1 <<< (nI n &&& 31) = nI (2 ^ n) := by
    simp (disch := omega) only [q_0, q_1, q_2, q_3, q_4, q_5, q_6, q_7, q_8, q_9, q_15, q_16, q_31, q_32, q_48, q_57, q_59, q_63, q_64, q_97, q_100, q_122, q_127, q_160, q_255, q_256, q_512, q_1024, q_2816, q_4096, q_16384, q_1048576, q_m1, q_m2, q_m3, q_m4, q_m5, bd_s, calP_s, cal_s, nI_add, pk_mul, pk_sub, z_and, z_or, z_xor, y_nd, y_shl, y_shr, y_tb, y_ck, nI_ltI, nI_eq, nI_clamp, y_m1a, y_m1b, y_m1c, y_m1d, y_m1e, y_b0, y_b1, y_and255, gsI_o, gsI_s, gsI_2, gsR_o, gsR_s, gsR_2, gsL_1, gsL_o, gsL_s, jn0, jn1, jn2, jn3, jn4, jn5, ↓reduceIte, if_true, if_false, ite_self, ne_eq, not_true_eq_false, not_false_eq_true, and_true, true_and, and_false, false_and, Nat.reduceAdd, Nat.reduceMul, Nat.reduceSub, Nat.reducePow, Nat.reduceLT, Nat.reduceEqDiff, Nat.reduceLeDiff, Nat.not_lt_zero, Nat.add_sub_cancel, Nat.add_zero, Nat.zero_add, pk_div, y_dn, Nat.one_mul, Nat.mul_one, reduceCtorEq, y_pow]
  have hF : ∀ s, Fm g5 (fun k => k = 36) σ s → NM s n O := fun s f => nm_fm hN f (by omega) (by unfold g5; omega)
  unfold f_X10_guard
  rw [q_0, q_1, q_2, q_256]
  rcases hv with hv | ⟨hv, hz⟩
  · rw [hv, if_pos rfl, bd_s]
    have f1 : Fm g5 (fun k => k = 36) σ (setI σ 100 36 (nI 1)) := fm_set fm_refl rfl
    refine ok_cal (m_findGoes (hF _ f1)) ?_
    rintro u s2 ⟨d1, d2⟩
    have f2 : Fm g5 (fun k => k = 36) σ s2 := fm_frr f1 (fr_mono d2 (fun c hc => by unfold g4 at hc; unfold g5; omega)) (by unfold g5; omega)
    have e2 : s2.1 100 36 = nI 1 := by rw [d2.1 100 (by unfold g4; omega), gsI_s, if_pos rfl]
    refine lo2_for (fun m s => Gz s O (2 ^ n) ∧ (∀ m', m' < m → Tz s m' (FF m' n O)) ∧ s.1 100 36 = nI 1 ∧ Fm g5 (fun k => k = 36) σ s) 2 ?_ ?_ FU 0 _ (by omega) (fu_lt (by omega)) ⟨d1, fun m' h => absurd h (Nat.not_lt_zero _), e2, f2⟩
    · rintro rec m s hm ⟨i1, i2, i3, i4⟩ kk
      rw [if_pos (nI_lt hm (by omega)), pk_mul, nI_add]
      have hset : ∀ t j v, Gz t O (2 ^ n) → (∀ m', m' < m → Tz t m' (FF m' n O)) → t.1 100 36 = nI 1 → Fm g5 (fun k => k = 36) σ t → j < 256 → Gz (setI t 120 (256 * m + j) v) O (2 ^ n) ∧ (∀ m', m' < m → Tz (setI t 120 (256 * m + j) v) m' (FF m' n O)) ∧ (setI t 120 (256 * m + j) v).1 100 36 = nI 1 ∧ Fm g5 (fun k => k = 36) σ (setI t 120 (256 * m + j) v) := by
        intro t j v a1 a2 a3 a4 a5
        refine ⟨fun S p1 p2 T p3 => by rw [gsI_o (by decide)]; exact a1 S p1 p2 T p3, fun m' h T hT => ?_, by rw [gsI_o (by decide)]; exact a3, fm_setI a4 (by unfold g5; omega) (by decide)⟩
        rw [gsI_s, if_neg (by omega)]; exact a2 m' h T hT
      refine lo2_for (fun j t => (∀ T, T < j → t.1 120 (256 * m + T) = nI (FS0 n T).toNat) ∧ Gz t O (2 ^ n) ∧ (∀ m', m' < m → Tz t m' (FF m' n O)) ∧ t.1 100 36 = nI 1 ∧ Fm g5 (fun k => k = 36) σ t) 256 ?_ ?_ FU 0 _ (by omega) (fu_lt (by omega)) ⟨fun T hT => absurd hT (Nat.not_lt_zero _), i1, i2, i3, i4⟩
      · rintro rec2 j t hj ⟨j1, j2, j3, j4, j5⟩ k2
        have st : ∀ v, v = nI (FS0 n j).toNat → Ok (rec2 (setI t 120 (256 * m + j) v) (nI (j + 1))) (fun q => GZ q.2 n O ∧ q.2.1 100 36 = nI 1 ∧ Fm g5 (fun k => k = 36) σ q.2) := by
          intro v hv
          refine k2 _ ⟨fun T hT => ?_, hset t j v j2 j3 j4 j5 hj⟩
          rw [gsI_s]
          by_cases e : T = j
          · rw [if_pos (by rw [e]), hv, e]
          · rw [if_neg (by omega)]; exact j1 T (by omega)
        rw [if_pos (nI_lt hj (by omega)), nI_add, y_ck _ (by omega) (by omega), y_ck _ (by omega) (by omega), nI_clamp (by omega), bd_s, bd_s, (hF t j5).pl, hall, nI_add]
        by_cases g0 : 0 < j
        · rw [if_pos (nI_lt g0 (by omega))]
          by_cases g1 : j < 2 ^ n
          · rw [if_pos (nI_lt g1 (by omega))]
            exact st _ (by rw [FS0, decide_eq_true ⟨g0, g1⟩]; rfl)
          · rw [if_neg (nI_nlt (by omega) (by omega))]
            exact st _ (by rw [FS0, decide_eq_false (fun w => g1 w.2)]; rfl)
        · rw [if_neg (nI_nlt (by omega) (by omega))]
          exact st _ (by rw [FS0, decide_eq_false (fun w => g0 w.1)]; rfl)
      · rintro rec2 t ⟨j1, j2, j3, j4, j5⟩
        rw [if_neg (nI_nlt (Nat.le_refl _) (by omega))]
        refine lo2_ct (fun j t go => j < 300 ∧ ∃ b : Bool, go = nI b.toNat ∧ Tz t m (dpN m n O (FS0 n) j) ∧ (b = true → cnF (dpN m n O (FS0 n) j) + j ≤ 256) ∧ (b = false → FF m n O = dpN m n O (FS0 n) j) ∧ Gz t O (2 ^ n) ∧ (∀ m', m' < m → Tz t m' (FF m' n O)) ∧ t.1 100 36 = nI 1 ∧ Fm g5 (fun k => k = 36) σ t) 300 ?_ (fun j a0 a1 h w => by have := w.1; omega) FU 0 _ _ (by decide) ⟨by decide, true, rfl, j1, fun _ => (by rw [Nat.add_zero]; exact cn_le _), fun e => (by cases e), j2, j3, j4, j5⟩
        rintro rec3 j t go ⟨hj, b, rfl, l1, l2, l3, l4, l5, l6, l7⟩ k3
        cases b with
        | false =>
          rw [if_pos b_f0]
          refine kk _ ⟨l4, fun m' h => ?_, l6, l7⟩
          rcases Nat.lt_succ_iff_lt_or_eq.mp h with e | rfl
          · exact l5 m' e
          · rw [l3 rfl]; exact l1
        | true =>
          rw [if_neg b_t0]
          have hFl : ∀ T, dpN m n O (FS0 n) j T = true → 0 < T ∧ T < 2 ^ n := fun T h => of_decide_eq_true (dpN_le j T h)
          have h00 : dpN m n O (FS0 n) j 0 = false := by
            cases e : dpN m n O (FS0 n) j 0 with
            | false => rfl
            | true => have := hFl 0 e; omega
          have d1 : dpS m n O (dpN m n O (FS0 n) j) 1 = dpN m n O (FS0 n) j := by
            funext T
            show (if T = 0 ∧ okB m n O (dpN m n O (FS0 n) j) 0 = false then false else dpN m n O (FS0 n) j T) = dpN m n O (FS0 n) j T
            split
            · rename_i e; rw [e.1, h00]
            · rfl
          refine lo3_for (fun S t d => 1 ≤ S ∧ (∃ b : Bool, d = nI b.toNat ∧ (b = false → dpS m n O (dpN m n O (FS0 n) j) S = dpN m n O (FS0 n) j) ∧ (b = true → ∃ T, T < 256 ∧ dpN m n O (FS0 n) j T = true ∧ dpS m n O (dpN m n O (FS0 n) j) S T = false)) ∧ Tz t m (dpS m n O (dpN m n O (FS0 n) j) S) ∧ Gz t O (2 ^ n) ∧ (∀ m', m' < m → Tz t m' (FF m' n O)) ∧ t.1 100 36 = nI 1 ∧ Fm g5 (fun k => k = 36) σ t) (2 ^ n) ?_ ?_ FU 1 _ _ (by omega) (fu_lt (by omega)) ⟨Nat.le_refl _, ⟨false, rfl, fun _ => d1, fun e => (by cases e)⟩, by rw [d1]; exact l1, l4, l5, l6, l7⟩
          · rintro rec4 S t d hSl ⟨o0, ⟨b, rfl, ob1, ob2⟩, o2, o3, o4, o5, o6⟩ k4
            have hle := dp_le (g := m) (n := n) (O := O) (F := dpN m n O (FS0 n) j)
            rw [(hF t o6).pl, hall, if_pos (nI_lt hSl (by omega)), nI_add, y_ck _ (by omega) (by omega), nI_clamp (by omega), o2 S (by omega), nI_add]
            have keep : (dpS m n O (dpN m n O (FS0 n) j) S S = false ∨ okB m n O (dpS m n O (dpN m n O (FS0 n) j) S) S = true) → dpS m n O (dpN m n O (FS0 n) j) (S + 1) = dpS m n O (dpN m n O (FS0 n) j) S := by
              intro hh
              funext T
              show (if T = S ∧ okB m n O (dpS m n O (dpN m n O (FS0 n) j) S) S = false then false else dpS m n O (dpN m n O (FS0 n) j) S T) = dpS m n O (dpN m n O (FS0 n) j) S T
              split
              · rename_i e
                rcases hh with hh | hh
                · rw [e.1, hh]
                · rw [e.2] at hh; cases hh
              · rfl
            cases hb : dpS m n O (dpN m n O (FS0 n) j) S S with
            | false =>
              rw [if_pos b_f0]
              exact k4 _ _ (by rw [keep (Or.inl hb)]; exact ⟨by omega, ⟨b, rfl, ob1, ob2⟩, o2, o3, o4, o5, o6⟩)
            | true =>
              rw [if_neg b_t0, m_canAnswer (hF t o6) hm o2 (fun T h => hFl T (hle S T h)) o3 (by omega) hSl, calP_s]
              cases ho : okB m n O (dpS m n O (dpN m n O (FS0 n) j) S) S with
              | true =>
                rw [if_neg b_t0]
                exact k4 _ _ (by rw [keep (Or.inr ho)]; exact ⟨by omega, ⟨b, rfl, ob1, ob2⟩, o2, o3, o4, o5, o6⟩)
              | false =>
                rw [if_pos b_f0, y_ck _ (by omega) (by omega), bd_s]
                have hd : dpS m n O (dpN m n O (FS0 n) j) (S + 1) = fun T => if T = S then false else dpS m n O (dpN m n O (FS0 n) j) S T := by
                  funext T
                  show (if T = S ∧ okB m n O (dpS m n O (dpN m n O (FS0 n) j) S) S = false then false else dpS m n O (dpN m n O (FS0 n) j) S T) = if T = S then false else dpS m n O (dpN m n O (FS0 n) j) S T
                  by_cases e : T = S
                  · rw [if_pos ⟨e, ho⟩, if_pos e]
                  · rw [if_neg (fun w => e w.1), if_neg e]
                exact k4 _ _ ⟨by omega, ⟨true, rfl, fun e => (by cases e), fun _ => ⟨S, by omega, hle S S hb, by rw [hd]; simp⟩⟩, by rw [hd]; exact tz_drop o2 S, hset t S (nI 0) o3 o4 o5 o6 (by omega)⟩
          · rintro rec4 t d ⟨o0, ⟨b, rfl, ob1, ob2⟩, o2, o3, o4, o5, o6⟩
            rw [(hF t o6).pl, hall, if_neg (nI_nlt (Nat.le_refl _) (by omega))]
            have h4 := l2 rfl
            refine k3 _ _ ⟨by omega, b, rfl, o2, fun e => ?_, fun e => ?_, o3, o4, o5, o6⟩
            · obtain ⟨T, t1, t2, t3⟩ := ob2 e
              have := cn_lt (dp_le (g := m) (n := n) (O := O) (F := dpN m n O (FS0 n) j) (2 ^ n)) t1 t2 t3
              show cnF (dpS m n O (dpN m n O (FS0 n) j) (2 ^ n)) + (j + 1) ≤ 256
              omega
            · have e1 := ob1 e
              show FF m n O = dpS m n O (dpN m n O (FS0 n) j) (2 ^ n)
              rw [e1]
              exact FF_of (by omega) e1
    · rintro rec s ⟨i1, i2, i3, i4⟩
      rw [if_neg (nI_nlt (Nat.le_refl _) (by omega))]
      exact ok_some ⟨⟨i1, i2⟩, i3, i4⟩
  · rw [hv, if_neg b_10]
    exact ok_some ⟨hz, hv, fm_refl⟩
end GM3
