theorem pc1 : ∀ X, X < 256 → pc X 8 = 1 → ∃ a, a < 8 ∧ X = 2 ^ a := by decide +kernel
theorem pow_inj {a b : Nat} (h : 2 ^ a = 2 ^ b) : a = b := by
  have h1 := congrArg (fun x => Nat.testBit x b) h
  simp only [tb_pow] at h1
  simpa using h1
theorem pcp : ∀ a, a < 8 → pc (2 ^ a) 8 = 1 := by decide +kernel
def Tz (s : St) (m : Nat) (F : Nat → Bool) : Prop := ∀ T, T < 256 → s.1 120 (256 * m + T) = nI (F T).toNat
section GM2
variable {σ : St} {n : Nat} {O : Nat → Nat} {F : Nat → Bool}
theorem m_stepsFrom (hN : NM σ n O) {a : Nat} (ha : a < 8) : f_X10_stepsFrom σ (nI (2 ^ a)) = some (nI (if a < n then nd (O a) (2 ^ a) else 0)) := by
  have h8 := hN.np.h8
  have hpa := pow8 ha
  unfold f_X10_stepsFrom
  rw [q_0, q_1]
  refine ok_eq (lo2_for (fun j x => x = nI (if a < j then nd (O a) (2 ^ a) else 0)) n ?_ ?_ FU 0 _ (by omega) (fu_lt (by omega)) (by rw [if_neg (Nat.not_lt_zero _)]))
  · rintro rec j x hj rfl kk
    have hpj := pow8 (p := j) (by omega)
    rw [hN.pl, if_pos (nI_lt hj (by omega)), y_pw (by omega), y_ck _ (by omega) (by omega), nI_clamp (by omega), hN.r j (by omega), bd_s, bd_s, z_or, z_or, nI_add]
    by_cases e : a = j
    · subst e
      rw [if_pos rfl]
      exact kk _ (by rw [if_neg (Nat.lt_irrefl a), if_pos (Nat.lt_succ_self a), Nat.zero_or])
    · have hne : ¬ 2 ^ a = 2 ^ j := fun w => e (pow_inj w)
      rw [if_neg (nI_ne (by omega) (by omega) hne), Nat.or_zero]
      refine kk _ ?_
      by_cases q : a < j
      · rw [if_pos q, if_pos (by omega)]
      · rw [if_neg q, if_neg (by omega)]
  · rintro rec x rfl
    rw [hN.pl, if_neg (nI_nlt (Nat.le_refl _) (by omega))]
    exact ok_some rfl
theorem ga_iff (h : NP n O) {S T p : Nat} (hS : S < 2 ^ n) (hTp : T.testBit p = true) (hSp : S.testBit p = false) : GA O S T ↔ ∃ a, a < 8 ∧ nd S T = 2 ^ a ∧ nd S (2 ^ a) ||| 2 ^ p = T ∧ (O a).testBit p = true := by
  have h8 := h.h8
  constructor
  · rintro ⟨a, b, h1, h2, h3, rfl⟩
    have hab : ¬ a = b := fun e => by rw [e, h3] at h1; cases h1
    have hbp : b = p := by
      rw [Nat.testBit_or, nd_tb, hSp, Bool.false_and, Bool.false_or, tb_pow] at hTp
      exact of_decide_eq_true hTp
    subst hbp
    have e1 : nd S (nd S (2 ^ a) ||| 2 ^ b) = 2 ^ a := tb_ext (fun i => by
      rw [nd_tb, Nat.testBit_or, nd_tb, tb_pow, tb_pow]
      by_cases ea : a = i
      · subst ea
        have : ¬ b = a := fun w => hab w.symm
        simp [h1, this]
      · by_cases eb : b = i
        · subst eb; simp [h3, ea]
        · simp [ea, eb])
    exact ⟨a, by have := tb_lt hS h1; omega, e1, rfl, h2⟩
  · rintro ⟨a, -, h1, h2, h3⟩
    have hSa : S.testBit a = true := by
      have := congrArg (fun x => Nat.testBit x a) h1
      simp only [nd_tb, tb_pow, decide_true, Bool.and_eq_true] at this
      exact this.1
    exact ⟨a, p, hSa, h3, hSp, h2.symm⟩
theorem fi_ext {f : Nat → Bool} {a b : Nat} (hab : a ≤ b) (h : ∀ T, a ≤ T → f T = false) : fi f a = fi f b := by
  obtain ⟨k1, k2, k3⟩ := fs_sp f a
  rcases Nat.lt_or_ge (fsN f a) a with q | q
  · rw [fi, if_pos q, fi_hit (by omega) k3 (k2 q)]
  · rw [fi, if_neg (by omega), fi_miss (fun T hT => by
      rcases Nat.lt_or_ge T a with e | e
      · exact k3 T (by omega)
      · exact h T e)]
theorem m_answerOf (hN : NM σ n O) {m : Nat} (hm : m < 2) (hT : Tz σ m F) (hF : ∀ T, F T = true → 0 < T ∧ T < 2 ^ n) (hG : Gz σ O (2 ^ n)) {S p : Nat} (h0 : 0 < S) (hS : S < 2 ^ n) (hp : p < n) (hSp : S.testBit p = false) : f_X10_answerOf σ (nI S) (nI m) (nI p) = some (fi (anB m O F S p) 256) := by
  have h8 := hN.np.h8
  have h256 := p256 h8
  have h2 := Nat.two_pow_pos n
  have hall : nI 1 <<< (nI n &&& 31) - nI 1 = nI (2 ^ n - 1) := by
    simp (disch := omega) only [q_0, q_1, q_2, q_3, q_4, q_5, q_6, q_7, q_8, q_9, q_15, q_16, q_31, q_32, q_48, q_57, q_59, q_63, q_64, q_97, q_100, q_122, q_127, q_160, q_255, q_256, q_512, q_1024, q_2816, q_4096, q_16384, q_1048576, q_m1, q_m2, q_m3, q_m4, q_m5, bd_s, calP_s, cal_s, nI_add, pk_mul, pk_sub, z_and, z_or, z_xor, y_nd, y_shl, y_shr, y_tb, y_ck, nI_ltI, nI_eq, nI_clamp, y_m1a, y_m1b, y_m1c, y_m1d, y_m1e, y_b0, y_b1, y_and255, gsI_o, gsI_s, gsI_2, gsR_o, gsR_s, gsR_2, gsL_1, gsL_o, gsL_s, jn0, jn1, jn2, jn3, jn4, jn5, ↓reduceIte, if_true, if_false, ite_self, ne_eq, not_true_eq_false, not_false_eq_true, and_true, true_and, and_false, false_and, Nat.reduceAdd, Nat.reduceMul, Nat.reduceSub, Nat.reducePow, Nat.reduceLT, Nat.reduceEqDiff, Nat.reduceLeDiff, Nat.not_lt_zero, Nat.add_sub_cancel, Nat.add_zero, Nat.zero_add, pk_div, y_dn, Nat.one_mul, Nat.mul_one, reduceCtorEq, y_pow]
  have hno : ∀ T, F T = false → anB m O F S p T = false := fun T h => by rw [anB, h]; simp
  have hout : ∀ T, 2 ^ n ≤ T → anB m O F S p T = false := fun T h => hno T (by
    cases e : F T with
    | false => rfl
    | true => have := hF T e; omega)
  have h00 : anB m O F S p 0 = false := hno 0 (by
    cases e : F 0 with
    | false => rfl
    | true => have := hF 0 e; omega)
  unfold f_X10_answerOf
  rw [q_mm, q_0, q_1, hN.pl, hall, bd_s, q_256, show nI (2 ^ n - 1) = dI (2 ^ n) by unfold dI; rw [if_neg (by omega)], ← fi_ext (a := 2 ^ n) h256 hout]
  refine ok_eq (lo2_dn (fun j x => LD (anB m O F S p) (2 ^ n) j x) (2 ^ n) ?_ ?_ FU (2 ^ n) _ (Nat.le_refl _) (fu_lt (by omega)) (ld_top _ _))
  · rintro rec T x hTl hI kk
    by_cases hz : T = 0
    · subst hz
      rw [if_neg (show ¬ nI 0 < nI 0 by decide)]
      exact ok_some (ld_fin (ld_miss hI h00))
    rw [if_pos (nI_lt (by omega) (by omega)), pk_mul, nI_add, y_ck _ (by omega) (by omega), nI_clamp (by omega), hT T (by omega), y_bt (by omega) (by omega), y_dn]
    have hx : (if nI (F T).toNat = nI 0 then nI 0 else if nI (T.testBit p).toNat = nI 1 then nI 1 else nI 0) = nI (T.testBit p && F T).toNat := by
      cases F T <;> cases T.testBit p <;> rfl
    rw [hx, bd_s, jn1]
    dsimp only
    rw [jn0]
    cases hb : (T.testBit p && F T) with
    | false =>
      rw [if_pos b_f0, if_pos b_f0, if_pos b_f0]
      exact kk _ (ld_miss hI (by rw [anB, hb]; rfl))
    | true =>
      have hTp : T.testBit p = true := by
        rw [Bool.and_eq_true] at hb; exact hb.1
      rw [if_neg b_t0, if_neg b_t0]
      have fin : ∀ w : Bool, w = pB (MV m O S T) → Ok (if nI w.toNat = nI 0 then rec x (dI T) else rec (nI T) (dI T)) (fun x => x = fi (anB m O F S p) (2 ^ n)) := by
        intro w hw
        have ha : anB m O F S p T = w := by rw [anB, hb, hw]; rfl
        cases w with
        | false => rw [if_pos b_f0]; exact kk _ (ld_miss hI ha)
        | true => rw [if_neg b_t0]; exact kk _ (ld_hit hTl ha)
      by_cases hm1 : m = 1
      · subst hm1
        rw [if_pos rfl, pk_mul, nI_add, y_ck _ (by omega) (by omega), nI_clamp (by omega), hG S h0 hS T (by omega), bd_s]
        exact fin _ rfl
      · have hm0 : m = 0 := by omega
        subst hm0
        rw [if_neg b_01, y_nd, bd_s, e_bits (Nat.lt_trans (nd_lt (show S < 256 by omega)) (by decide)), calP_s]
        have hndl : nd S T < 256 := nd_lt (by omega)
        have gi := ga_iff hN.np (T := T) hS hTp hSp
        have hMV : ∀ P : Prop, (P ↔ ∃ a, a < 8 ∧ nd S T = 2 ^ a ∧ nd S (2 ^ a) ||| 2 ^ p = T ∧ (O a).testBit p = true) → pB (MV 0 O S T) = pB P := fun P hP => pB_cg (gi.trans hP.symm)
        have p8 := pc_le (nd S T) 8
        by_cases c1 : pc (nd S T) 8 = 1
        · obtain ⟨a, a8, ea⟩ := pc1 _ hndl c1
          have la : nd S (2 ^ a) ||| 2 ^ p < 256 := or_lt (n := 8) (nd_lt (by omega)) (pow8 (by omega))
          rw [if_pos (by rw [c1]), ea, y_nd, y_pw (by omega), z_or]
          by_cases c2 : nd S (2 ^ a) ||| 2 ^ p = T
          · have hSa : S.testBit a = true := by
              have := congrArg (fun x => Nat.testBit x a) ea
              simp only [nd_tb, tb_pow, decide_true, Bool.and_eq_true] at this
              exact this.1
            have han := tb_lt hS hSa
            have hap : ¬ a = p := fun w => by rw [w, hSp] at hSa; cases hSa
            rw [if_pos (by rw [c2]), m_stepsFrom hN a8, calP_s, if_pos han, y_bt (Nat.lt_trans (nd_lt (hN.np.lt8 a)) (by decide)) (by omega), nd_tb, tb_pow, decide_eq_false hap, Bool.not_false, Bool.and_true]
            cases hO : (O a).testBit p with
            | true =>
              rw [if_pos b_t1]
              exact fin true (by rw [hMV True ⟨fun _ => ⟨a, a8, ea, c2, hO⟩, fun _ => trivial⟩, pB_t trivial])
            | false =>
              rw [if_neg b_f1]
              refine fin false ?_
              rw [hMV False ⟨fun w => w.elim, fun ⟨a', _, e1, _, e2⟩ => ?_⟩, pB_f id]
              have : a' = a := pow_inj (e1.symm.trans ea)
              rw [this, hO] at e2; cases e2
          · rw [if_neg (nI_ne (by omega) (by omega) c2)]
            refine fin false ?_
            rw [hMV False ⟨fun w => w.elim, fun ⟨a', _, e1, e2, _⟩ => ?_⟩, pB_f id]
            have : a' = a := pow_inj (e1.symm.trans ea)
            rw [this] at e2; exact c2 e2
        · rw [if_neg (nI_ne (by omega) (by omega) c1)]
          refine fin false ?_
          rw [hMV False ⟨fun w => w.elim, fun ⟨a', a1, e1, _, _⟩ => ?_⟩, pB_f id]
          rw [e1, pcp a' a1] at c1; exact c1 rfl
  · rintro rec x hI
    rw [if_neg (show ¬ nI 0 < M1 by decide)]
    exact ok_some (ld_fin hI)
theorem m_canAnswer (hN : NM σ n O) {m : Nat} (hm : m < 2) (hT : Tz σ m F) (hF : ∀ T, F T = true → 0 < T ∧ T < 2 ^ n) (hG : Gz σ O (2 ^ n)) {S : Nat} (h0 : 0 < S) (hS : S < 2 ^ n) : f_X10_canAnswer σ (nI S) (nI m) = some (nI (okB m n O F S).toNat) := by
  have h8 := hN.np.h8
  have h256 := p256 h8
  unfold f_X10_canAnswer
  rw [q_mm, q_0, q_1]
  refine ok_eq (lo2_for (fun p x => x = nI (!decide (fsN (noB m O F S) p < p)).toNat) n ?_ ?_ FU 0 _ (by omega) (fu_lt (by omega)) rfl)
  · rintro rec p x hp rfl kk
    rw [hit_s] at kk
    rw [hN.pl, if_pos (nI_lt hp (by omega)), y_ckZ, y_bt (by omega) (by omega), nI_add]
    cases hb : decide (fsN (noB m O F S) p < p) with
    | true =>
      rw [if_pos (show nI (!true).toNat = nI 0 from rfl)]
      obtain ⟨q, q1, q2⟩ := ex_iff.mp (of_decide_eq_true hb)
      refine ok_some ?_
      unfold okB
      rw [decide_eq_true (fs_ex (show q < n by omega) q2)]
    | false =>
      rw [if_neg (show ¬ nI (!false).toNat = nI 0 by decide)]
      rw [hb, Bool.false_or] at kk
      cases hs : S.testBit p with
      | true =>
        rw [if_pos b_t1]
        exact kk _ (by rw [noB, hs]; rfl)
      | false =>
        rw [if_neg b_f1, m_answerOf hN hm hT hF hG h0 hS hp hs, calP_s, fi]
        by_cases g : fsN (anB m O F S p) 256 < 256
        · rw [if_pos g, if_neg (nI_mm (by omega))]
          exact kk _ (by rw [noB, hs, decide_eq_true g]; rfl)
        · rw [if_neg g, if_pos rfl]
          exact kk _ (by rw [noB, hs, decide_eq_false g]; rfl)
  · rintro rec x rfl
    rw [hN.pl, if_neg (nI_nlt (Nat.le_refl _) (by omega)), y_ckZ]
    exact ok_some rfl
theorem lo2_ct {A0 A1 R : Type} {F : (A0 → A1 → Option R) → A0 → A1 → Option R} {Q : R → Prop} (I : Nat → A0 → A1 → Prop) (m : Nat) (hs : ∀ rec j a0 a1, I j a0 a1 → (∀ b0 b1, I (j + 1) b0 b1 → Ok (rec b0 b1) Q) → Ok (F rec a0 a1) Q) (hm : ∀ j a0 a1, m ≤ j → ¬ I j a0 a1) : ∀ N j a0 a1, m < N + j → I j a0 a1 → Ok (lo2 N F a0 a1) Q := by
  intro N
  induction N with
  | zero => intro j a0 a1 h hI; exact absurd hI (hm j a0 a1 (by omega))
  | succ N ih =>
    intro j a0 a1 h hI
    exact hs (lo2 N F) j a0 a1 hI (fun b0 b1 hb => ih (j + 1) b0 b1 (by omega) hb)
end GM2
