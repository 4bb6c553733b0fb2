def nL (n : Nat) : Int64 := Int64.ofNat n
theorem nL_add (a b : Nat) : nL a + nL b = nL (a + b) := (Int64.ofNat_add a b).symm
theorem nL_mul (a b : Nat) : nL a * nL b = nL (a * b) := (Int64.ofNat_mul a b).symm
theorem nL_sub {a b : Nat} (h : b ≤ a) : nL a - nL b = nL (a - b) := by
  have e : nL a = nL (a - b) + nL b := by rw [nL_add, Nat.sub_add_cancel h]
  rw [e, Int64.add_sub_cancel]
theorem nL_bv (a : Nat) : (nL a).toBitVec.toNat = a % 2 ^ 64 := by
  show (BitVec.ofNat 64 a).toNat = _
  rw [BitVec.toNat_ofNat]
theorem nL_eq {a b : Nat} (ha : a < 2 ^ 63) (hb : b < 2 ^ 63) : nL a = nL b ↔ a = b := by
  constructor
  · intro e
    have h1 := congrArg (fun x => Int64.toBitVec x |>.toNat) e
    simp only [nL_bv] at h1
    omega
  · rintro rfl; rfl
theorem nL_ne {a : Nat} (ha : a < 2 ^ 63) {x : Int64} (hx : 2 ^ 63 ≤ x.toBitVec.toNat) : ¬ nL a = x := by
  intro e
  have h1 := congrArg (fun x => Int64.toBitVec x |>.toNat) e
  simp only [nL_bv] at h1
  omega
theorem toL : ∀ b, b < 256 → (nI b).toInt64 = nL b := by decide +kernel
theorem cmpE (x y : Int64) : lg_cmp x y = nI 0 ↔ x = y := by
  unfold lg_cmp
  by_cases h1 : x > y
  · rw [if_pos h1]
    constructor
    · intro e; exact absurd e (by decide)
    · intro e; rw [e] at h1; exact absurd h1 (Int64.lt_irrefl)
  · rw [if_neg h1]
    by_cases h2 : x = y
    · rw [if_pos h2]; exact ⟨fun _ => h2, fun _ => rfl⟩
    · rw [if_neg h2]
      constructor
      · intro e; exact absurd e (by decide)
      · intro e; exact absurd e h2
def TM (s : St) (tx : Nat → Nat) (l : Nat) : Prop := (s.1 100 2 = nI l) ∧ (l ≤ 160) ∧ (∀ i, i < l → s.1 102 i = nI (tx i)) ∧ (∀ i, i < l → tx i < 256)
theorem TM.l {s : St} {tx : Nat → Nat} {l : Nat} (h : TM s tx l) : s.1 100 2 = nI l := h.1
theorem TM.h {s : St} {tx : Nat → Nat} {l : Nat} (h : TM s tx l) : l ≤ 160 := h.2.1
theorem TM.b {s : St} {tx : Nat → Nat} {l : Nat} (h : TM s tx l) : ∀ i, i < l → s.1 102 i = nI (tx i) := h.2.2.1
theorem TM.u {s : St} {tx : Nat → Nat} {l : Nat} (h : TM s tx l) : ∀ i, i < l → tx i < 256 := h.2.2.2
def wv (tx : Nat → Nat) (s : Nat) : Nat → Nat
  | 0 => 0
  | m + 1 => 27 * wv tx s m + (tx (s + m) - 96)
def tkV (tx : Nat → Nat) (l e : Nat) : Int64 := if tS tx l e = l then -2 else if kdB (tx (tS tx l e)) = 1 then (if rE tx l e - tS tx l e ≤ 9 then nL (wv tx (tS tx l e) (rE tx l e - tS tx l e)) else -4) else if kdB (tx (tS tx l e)) = 2 then (if rE tx l e - tS tx l e = 1 then -1 else -4) else (if tx (tS tx l e) = 59 then -3 else -4)
def noC (_ : Nat) : Prop := False
def tk5 (k : Nat) : Prop := 4 ≤ k ∧ k ≤ 8
section TOKM
variable {σ : St} {tx : Nat → Nat} {l : Nat}
theorem tm_fm {P S : Nat → Prop} {s : St} (h : TM σ tx l) (f : Fm P S σ s) (h2 : ¬ S 2) (hp : ¬ P 102) : TM s tx l := by
  refine ⟨by rw [f.2.1 2 h2]; exact h.l, h.h, fun i hi => ?_, h.u⟩
  rw [f.1.1 102 (by rintro (e | e); · cases e
                    · exact hp e)]
  exact h.b i hi
theorem kd1 {b : Nat} : kdB b = 1 ↔ 97 ≤ b ∧ b ≤ 122 := by
  unfold kdB
  constructor
  · intro h
    split at h
    · assumption
    · split at h <;> cases h
  · intro h; rw [if_pos h]
theorem kd2' {b : Nat} : kdB b = 2 ↔ 48 ≤ b ∧ b ≤ 57 := by
  constructor
  · exact kd2
  · intro h; unfold kdB; rw [if_neg (by omega), if_pos h]
theorem m_nextToken (h : TM σ tx l) {e : Nat} (he : e ≤ l) (h4 : σ.1 100 4 = nI e) : Ok (f_X10_nextToken σ) (fun q => q.2.1 100 4 = nI (rE tx l e) ∧ q.2.1 100 5 = nI (tS tx l e) ∧ q.2.2 100 6 = tkV tx l e ∧ (nud tx l e ≠ 99 → q.2.1 100 8 = nI (nud tx l e)) ∧ Fm noC tk5 σ q.2) := by
  have hl := h.h
  have hF : ∀ s, Fm noC tk5 σ s → TM s tx l := fun s f => tm_fm h f (by unfold tk5; omega) (fun w => w)
  unfold f_X10_nextToken
  rw [q_0, q_1, q_32, q_97, q_122, q_48, q_57, q_59, q_9]
  refine lo1_ok (fun s => ∃ i, s.1 100 4 = nI i ∧ e ≤ i ∧ i ≤ l ∧ (∀ j, e ≤ j → j < i → tx j = 32) ∧ Fm noC tk5 σ s) (fun s => 200 - (s.1 100 4).toNatClampNeg) ?_ FU _ ⟨e, h4, Nat.le_refl _, he, fun j a b => by omega, fm_refl⟩ (fu_lt (by omega))
  rintro rec s ⟨i, i1, i2, i3, i4, i5⟩ kk
  have hT := hF s i5
  rw [jn0, i1, hT.l]
  by_cases gb : i < l ∧ tx i = 32
  · rw [if_pos (nI_lt gb.1 (by omega)), y_ck _ (by omega) (by omega), nI_clamp (by omega), hT.b i gb.1, if_pos (by rw [gb.2]), nI_add, bd_s]
    refine kk _ ⟨i + 1, by rw [gsI_s, if_pos rfl], by omega, by omega, fun j a b => ?_, fm_set i5 (by unfold tk5; omega)⟩ ?_
    · by_cases e1 : j = i
      · rw [e1]; exact gb.2
      · exact i4 j a (by omega)
    · show 200 - ((setI s 100 4 (nI (i + 1))).1 100 4).toNatClampNeg < 200 - (s.1 100 4).toNatClampNeg
      rw [gsI_s, if_pos rfl, i1, nI_clamp (by omega), nI_clamp (by omega)]; omega
  · have ei : tS tx l e = i := tS_eq i2 i3 hl i4 (by
      by_cases g : i < l
      · exact Or.inr (fun w => gb ⟨g, w⟩)
      · exact Or.inl (by omega))
    have fin : Ok (bd (setI s 100 5 (nI i)) fun s5 =>
          bd (setI s5 100 7 (nI 0)) fun s6 =>
            bd (setI s6 100 8 (nI 0)) fun s7 =>
              (if (s7.1 100 4) = (s7.1 100 2) then
                bd (setL s7 100 6 (-2 : Int64)) fun s8 =>
                  some ((), s8)
                 else
                ck (s7.1 100 4) 160 <|
                  calP (f_X10_in s7 (s7.1 102 (s7.1 100 4).toNatClampNeg) (nI 97) (nI 122)) fun r9 =>
                    (if r9 = nI 0 then
                      ck (s7.1 100 4) 160 <|
                        calP (f_X10_in s7 (s7.1 102 (s7.1 100 4).toNatClampNeg) (nI 48) (nI 57)) fun r10 =>
                          (if r10 = nI 0 then
                            ck (s7.1 100 4) 160 <|
                              bd (if (s7.1 102 (s7.1 100 4).toNatClampNeg) = nI 59 then (-3 : Int64) else (-4 : Int64)) fun y11 =>
                                bd (setL s7 100 6 y11) fun s13 =>
                                  bd (setI s13 100 4 ((s13.1 100 4) + nI 1)) fun s14 =>
                                    some ((), s14)
                             else
                            lo1 FU (fun rec16 (s15 : St) =>
                              jn0 (fun jk18 =>
                                (if (s15.1 100 4) < (s15.1 100 2) then
                                  ck (s15.1 100 4) 160 <|
                                    calP (f_X10_in s15 (s15.1 102 (s15.1 100 4).toNatClampNeg) (nI 48) (nI 57)) fun r21 =>
                                      (if r21 = nI 0 then
                                        jk18
                                         else
                                        ck (s15.1 100 4) 160 <|
                                          bd (setI s15 100 8 ((s15.1 102 (s15.1 100 4).toNatClampNeg) - nI 48)) fun s22 =>
                                            bd (setI s22 100 7 ((s22.1 100 7) + nI 1)) fun s23 =>
                                              bd (setI s23 100 4 ((s23.1 100 4) + nI 1)) fun s24 =>
                                                rec16 s24)
                                   else
                                  jk18))
                                (
                                (if nI 1 < (s15.1 100 7) then
                                    bd (setL s15 100 6 (-4 : Int64)) fun s19 =>
                                      some ((), s19)
                                     else
                                    bd (setL s15 100 6 (-1 : Int64)) fun s20 =>
                                      some ((), s20)))) s7)
                       else
                      bd (setL s7 100 6 (0 : Int64)) fun s25 =>
                        lo1 FU (fun rec27 (s26 : St) =>
                          jn0 (fun jk29 =>
                            (if (s26.1 100 4) < (s26.1 100 2) then
                              ck (s26.1 100 4) 160 <|
                                calP (f_X10_in s26 (s26.1 102 (s26.1 100 4).toNatClampNeg) (nI 97) (nI 122)) fun r32 =>
                                  (if r32 = nI 0 then
                                    jk29
                                     else
                                    jn1 (fun jk34 =>
                                      (if ((s26.1 100 4) - (s26.1 100 5)) < nI 9 then
                                        ck (s26.1 100 4) 160 <|
                                          jk34 ((((27 : Int64) * (s26.2 100 6)) + (s26.1 102 (s26.1 100 4).toNatClampNeg).toInt64) - (96 : Int64))
                                         else
                                        jk34 (-4 : Int64)))
                                      (fun (y33 : Int64) => 
                                      bd (setL s26 100 6 y33) fun s35 =>
                                          bd (setI s35 100 4 ((s35.1 100 4) + nI 1)) fun s36 =>
                                            rec27 s36))
                               else
                              jk29))
                            (
                            (if nI 9 < ((s26.1 100 4) - (s26.1 100 5)) then
                                bd (setL s26 100 6 (-4 : Int64)) fun s30 =>
                                  some ((), s30)
                                 else
                                bd (setL s26 100 6 (s26.2 100 6)) fun s31 =>
                                  some ((), s31)))) s25))) (fun q => q.2.1 100 4 = nI (rE tx l e) ∧ q.2.1 100 5 = nI (tS tx l e) ∧ q.2.2 100 6 = tkV tx l e ∧ (nud tx l e ≠ 99 → q.2.1 100 8 = nI (nud tx l e)) ∧ Fm noC tk5 σ q.2) := by
      rw [bd_s, bd_s, bd_s]
      have f7 : Fm noC tk5 σ (setI (setI (setI s 100 5 (nI i)) 100 7 (nI 0)) 100 8 (nI 0)) := fm_set (fm_set (fm_set i5 (by unfold tk5; omega)) (by unfold tk5; omega)) (by unfold tk5; omega)
      have T7 := hF _ f7
      generalize hs7 : setI (setI (setI s 100 5 (nI i)) 100 7 (nI 0)) 100 8 (nI 0) = s7 at f7 T7 ⊢
      have a4 : s7.1 100 4 = nI i := by rw [← hs7, gsI_s, if_neg (by decide), gsI_s, if_neg (by decide), gsI_s, if_neg (by decide)]; exact i1
      have a5 : s7.1 100 5 = nI i := by rw [← hs7, gsI_s, if_neg (by decide), gsI_s, if_neg (by decide), gsI_s, if_pos rfl]
      have a7 : s7.1 100 7 = nI 0 := by rw [← hs7, gsI_s, if_neg (by decide), gsI_s, if_pos rfl]
      have a8 : s7.1 100 8 = nI 0 := by rw [← hs7, gsI_s, if_pos rfl]
      rw [a4, T7.l]
      by_cases gl : i = l
      · rw [if_pos (by rw [gl]), bd_s]
        have er : rE tx l e = l := by unfold rE; rw [ei, gl, tE_l]
        have hnu : nud tx l e = 99 := by unfold nud nmb; rw [er, ei, gl, if_neg (fun w => by have := w.1; omega)]
        refine ok_some ⟨?_, ?_, ?_, fun w => absurd hnu w, fm_setL f7 (by unfold tk5; omega)⟩
        · show s7.1 100 4 = _; rw [a4, er, gl]
        · show s7.1 100 5 = _; rw [a5, ei]
        · show (setL s7 100 6 (-2)).2 100 6 = _; rw [gsL_s, if_pos rfl]; unfold tkV; rw [ei, if_pos gl]
      · have hil : i < l := by omega
        have hu := h.u i hil
        rw [if_neg (nI_ne (by omega) (by omega) gl), y_ck _ (by omega) (by omega), nI_clamp (by omega), T7.b i hil, e_in (by omega) (by omega) (by omega), calP_s]
        by_cases k1 : kdB (tx i) = 1
        · have hk1 := kd1.mp k1
          rw [decide_eq_true hk1, if_neg b_t0, bd_s]
          refine lo1_ok (fun t => ∃ m, t.1 100 4 = nI m ∧ t.1 100 5 = nI i ∧ i ≤ m ∧ m ≤ l ∧ (∀ j, i ≤ j → j < m → kdB (tx j) = 1) ∧ t.2 100 6 = (if m - i ≤ 9 then nL (wv tx i (m - i)) else -4) ∧ Fm noC tk5 σ t) (fun t => 200 - (t.1 100 4).toNatClampNeg) ?_ FU _ ⟨i, a4, a5, Nat.le_refl _, i3, fun j a b => by omega, by rw [gsL_s, if_pos rfl, Nat.sub_self]; rfl, fm_setL f7 (by unfold tk5; omega)⟩ (fu_lt (by omega))
          rintro rec2 t ⟨m, j1, j2, j3, j4, j5, j6, j7⟩ k2
          have Tt := hF t j7
          rw [jn0, j1, j2, Tt.l, pk_sub j3]
          have ex : (m = l ∨ ¬ kdB (tx m) = 1) → Ok (if nI 9 < nI (m - i) then bd (setL t 100 6 (-4 : Int64)) fun s30 => some ((), s30) else bd (setL t 100 6 (t.2 100 6)) fun s31 => some ((), s31)) (fun q => q.2.1 100 4 = nI (rE tx l e) ∧ q.2.1 100 5 = nI (tS tx l e) ∧ q.2.2 100 6 = tkV tx l e ∧ (nud tx l e ≠ 99 → q.2.1 100 8 = nI (nud tx l e)) ∧ Fm noC tk5 σ q.2) := by
            intro hend
            have him : i < m := by
              rcases Nat.lt_or_ge i m with g | g
              · exact g
              · have : m = i := by omega
                subst this
                rcases hend with w | w
                · omega
                · exact absurd k1 w
            have er : rE tx l e = m := by
              unfold rE; rw [ei]
              exact tE_eq hil hl (by omega) him j4 (fun j a b => by rw [j5 j (by omega) b, k1]) (by rw [k1]; exact hend)
            have hnu : nud tx l e = 99 := by unfold nud nmb; rw [ei, if_neg (fun w => by have := w.2; omega)]
            have htk : tkV tx l e = if m - i ≤ 9 then nL (wv tx i (m - i)) else -4 := by
              unfold tkV; rw [ei, er, if_neg gl, if_pos k1]
            by_cases g9 : 9 < m - i
            · rw [if_pos (nI_lt g9 (by omega)), bd_s]
              refine ok_some ⟨?_, ?_, ?_, fun w => absurd hnu w, fm_setL j7 (by unfold tk5; omega)⟩
              · show t.1 100 4 = _; rw [j1, er]
              · show t.1 100 5 = _; rw [j2, ei]
              · show (setL t 100 6 (-4)).2 100 6 = _; rw [gsL_s, if_pos rfl, htk, if_neg (by omega)]
            · rw [if_neg (nI_nlt (by omega) (by omega)), bd_s]
              refine ok_some ⟨?_, ?_, ?_, fun w => absurd hnu w, fm_setL j7 (by unfold tk5; omega)⟩
              · show t.1 100 4 = _; rw [j1, er]
              · show t.1 100 5 = _; rw [j2, ei]
              · show (setL t 100 6 (t.2 100 6)).2 100 6 = _; rw [gsL_s, if_pos rfl, htk, j6]
          by_cases gm : m < l
          · have hum := h.u m gm
            rw [if_pos (nI_lt gm (by omega)), y_ck _ (by omega) (by omega), nI_clamp (by omega), Tt.b m gm, e_in (by omega) (by omega) (by omega), calP_s]
            by_cases km : kdB (tx m) = 1
            · have hkm := kd1.mp km
              rw [decide_eq_true hkm, if_neg b_t0, jn1]
              dsimp only
              have nx : ∀ y, y = (if m + 1 - i ≤ 9 then nL (wv tx i (m + 1 - i)) else -4) → Ok (bd (setL t 100 6 y) fun s35 => bd (setI s35 100 4 ((s35.1 100 4) + nI 1)) fun s36 => rec2 s36) (fun q => q.2.1 100 4 = nI (rE tx l e) ∧ q.2.1 100 5 = nI (tS tx l e) ∧ q.2.2 100 6 = tkV tx l e ∧ (nud tx l e ≠ 99 → q.2.1 100 8 = nI (nud tx l e)) ∧ Fm noC tk5 σ q.2) := by
                intro y hy
                rw [bd_s, bd_s, show (setL t 100 6 y).1 100 4 = nI m from j1, nI_add]
                refine k2 _ ⟨m + 1, by rw [gsI_s, if_pos rfl], by rw [gsI_s, if_neg (by decide)]; exact j2, by omega, by omega, fun j a b => ?_, ?_, fm_set (fm_setL j7 (by unfold tk5; omega)) (by unfold tk5; omega)⟩ ?_
                · by_cases e1 : j = m
                  · rw [e1]; exact km
                  · exact j5 j a (by omega)
                · rw [gsI_2, gsL_s, if_pos rfl]; exact hy
                · show 200 - ((setI (setL t 100 6 y) 100 4 (nI (m + 1))).1 100 4).toNatClampNeg < 200 - (t.1 100 4).toNatClampNeg
                  rw [gsI_s, if_pos rfl, j1, nI_clamp (by omega), nI_clamp (by omega)]; omega
              by_cases g9 : m - i < 9
              · rw [if_pos (nI_lt g9 (by omega)), y_ck _ (by omega) (by omega), j6, if_pos (by omega), toL _ hum, show (27 : Int64) = nL 27 from rfl, show (96 : Int64) = nL 96 from rfl, nL_mul, nL_add, nL_sub (by omega)]
                refine nx _ ?_
                rw [if_pos (by omega), show m + 1 - i = (m - i) + 1 by omega, wv, show i + (m - i) = m by omega]
                exact congrArg nL (by omega)
              · rw [if_neg (nI_nlt (by omega) (by omega))]
                exact nx _ (by rw [if_neg (by omega)])
            · rw [decide_eq_false (fun w => km (kd1.mpr w)), if_pos b_f0]
              exact ex (Or.inr km)
          · rw [if_neg (nI_nlt (by omega) (by omega))]
            exact ex (Or.inl (by omega))
        · rw [decide_eq_false (fun w => k1 (kd1.mpr w)), if_pos b_f0, y_ck _ (by omega) (by omega), e_in (by omega) (by omega) (by omega), calP_s]
          by_cases k2 : kdB (tx i) = 2
          · have hk2 := kd2'.mp k2
            rw [decide_eq_true hk2, if_neg b_t0]
            refine lo1_ok (fun t => ∃ m, t.1 100 4 = nI m ∧ t.1 100 5 = nI i ∧ i ≤ m ∧ m ≤ l ∧ (∀ j, i ≤ j → j < m → kdB (tx j) = 2) ∧ t.1 100 7 = nI (m - i) ∧ (m = i + 1 → t.1 100 8 = nI (tx i - 48)) ∧ Fm noC tk5 σ t) (fun t => 200 - (t.1 100 4).toNatClampNeg) ?_ FU _ ⟨i, a4, a5, Nat.le_refl _, i3, fun j a b => by omega, by rw [Nat.sub_self]; exact a7, fun w => by omega, f7⟩ (fu_lt (by omega))
            rintro rec2 t ⟨m, j1, j2, j3, j4, j5, j6, j8, j7⟩ k3
            have Tt := hF t j7
            rw [jn0, j1, Tt.l, j6]
            have ex : (m = l ∨ ¬ kdB (tx m) = 2) → Ok (if nI 1 < nI (m - i) then bd (setL t 100 6 (-4 : Int64)) fun s30 => some ((), s30) else bd (setL t 100 6 (-1 : Int64)) fun s31 => some ((), s31)) (fun q => q.2.1 100 4 = nI (rE tx l e) ∧ q.2.1 100 5 = nI (tS tx l e) ∧ q.2.2 100 6 = tkV tx l e ∧ (nud tx l e ≠ 99 → q.2.1 100 8 = nI (nud tx l e)) ∧ Fm noC tk5 σ q.2) := by
              intro hend
              have him : i < m := by
                rcases Nat.lt_or_ge i m with g | g
                · exact g
                · have : m = i := by omega
                  subst this
                  rcases hend with w | w
                  · omega
                  · exact absurd k2 w
              have er : rE tx l e = m := by
                unfold rE; rw [ei]
                exact tE_eq hil hl (by omega) him j4 (fun j a b => by rw [j5 j (by omega) b, k2]) (by rw [k2]; exact hend)
              have htk : tkV tx l e = if m - i = 1 then -1 else -4 := by
                unfold tkV; rw [ei, er, if_neg gl, if_neg k1, if_pos k2]
              by_cases g9 : 1 < m - i
              · have hnu : nud tx l e = 99 := by unfold nud nmb; rw [ei, er, if_neg (fun w => by have := w.1; omega)]
                rw [if_pos (nI_lt g9 (by omega)), bd_s]
                refine ok_some ⟨?_, ?_, ?_, fun w => absurd hnu w, fm_setL j7 (by unfold tk5; omega)⟩
                · show t.1 100 4 = _; rw [j1, er]
                · show t.1 100 5 = _; rw [j2, ei]
                · show (setL t 100 6 (-4)).2 100 6 = _; rw [gsL_s, if_pos rfl, htk, if_neg (by omega)]
              · rw [if_neg (nI_nlt (by omega) (by omega)), bd_s]
                refine ok_some ⟨?_, ?_, ?_, fun w => ?_, fm_setL j7 (by unfold tk5; omega)⟩
                · show t.1 100 4 = _; rw [j1, er]
                · show t.1 100 5 = _; rw [j2, ei]
                · show (setL t 100 6 (-1)).2 100 6 = _; rw [gsL_s, if_pos rfl, htk, if_pos (by omega)]
                · show t.1 100 8 = _
                  unfold nud nmb
                  rw [ei, er, if_pos ⟨by omega, k2⟩]
                  exact j8 (by omega)
            by_cases gm : m < l
            · have hum := h.u m gm
              rw [if_pos (nI_lt gm (by omega)), y_ck _ (by omega) (by omega), nI_clamp (by omega), Tt.b m gm, e_in (by omega) (by omega) (by omega), calP_s]
              by_cases km : kdB (tx m) = 2
              · have hkm := kd2'.mp km
                rw [decide_eq_true hkm, if_neg b_t0, y_ck _ (by omega) (by omega), pk_sub (by omega), bd_s, gsI_s, if_neg (by decide), j6, nI_add, bd_s, gsI_s, if_neg (by decide), gsI_s, if_neg (by decide), j1, nI_add, bd_s]
                refine k3 _ ⟨m + 1, by rw [gsI_s, if_pos rfl], ?_, by omega, by omega, fun j a b => ?_, ?_, fun w => ?_, fm_set (fm_set (fm_set j7 (by unfold tk5; omega)) (by unfold tk5; omega)) (by unfold tk5; omega)⟩ ?_
                · rw [gsI_s, if_neg (by decide), gsI_s, if_neg (by decide), gsI_s, if_neg (by decide)]; exact j2
                · by_cases e1 : j = m
                  · rw [e1]; exact km
                  · exact j5 j a (by omega)
                · rw [gsI_s, if_neg (by decide), gsI_s, if_pos rfl]; exact congrArg nI (by omega)
                · rw [gsI_s, if_neg (by decide), gsI_s, if_neg (by decide), gsI_s, if_pos rfl, show m = i by omega]
                · show 200 - ((setI (setI (setI t 100 8 (nI (tx m - 48))) 100 7 (nI (m - i + 1))) 100 4 (nI (m + 1))).1 100 4).toNatClampNeg < 200 - (t.1 100 4).toNatClampNeg
                  rw [gsI_s, if_pos rfl, j1, nI_clamp (by omega), nI_clamp (by omega)]; omega
              · rw [decide_eq_false (fun w => km (kd2'.mpr w)), if_pos b_f0]
                exact ex (Or.inr km)
            · rw [if_neg (nI_nlt (by omega) (by omega))]
              exact ex (Or.inl (by omega))
          · rw [decide_eq_false (fun w => k2 (kd2'.mpr w)), if_pos b_f0, y_ck _ (by omega) (by omega), bd_s, bd_s]
            have hk0 : kdB (tx i) = 0 := by have := kdB_le (tx i); omega
            have er : rE tx l e = i + 1 := by unfold rE; rw [ei, tE_0 hil hk0]
            have hnu : nud tx l e = 99 := by unfold nud nmb; rw [ei, if_neg (fun w => k2 w.2)]
            have hy : (if nI (tx i) = nI 59 then (-3 : Int64) else -4) = tkV tx l e := by
              unfold tkV
              rw [ei, if_neg gl, if_neg k1, if_neg k2]
              by_cases g : tx i = 59
              · rw [if_pos (by rw [g]), if_pos g]
              · rw [if_neg (nI_ne (by omega) (by omega) g), if_neg g]
            rw [hy, bd_s, show (setL s7 100 6 (tkV tx l e)).1 100 4 = nI i from a4, nI_add]
            refine ok_some ⟨?_, ?_, ?_, fun w => absurd hnu w, fm_set (fm_setL f7 (by unfold tk5; omega)) (by unfold tk5; omega)⟩
            · show (setI (setL s7 100 6 (tkV tx l e)) 100 4 (nI (i + 1))).1 100 4 = _; rw [gsI_s, if_pos rfl, er]
            · show (setI (setL s7 100 6 (tkV tx l e)) 100 4 (nI (i + 1))).1 100 5 = _; rw [gsI_s, if_neg (by decide), ei]; exact a5
            · show (setI (setL s7 100 6 (tkV tx l e)) 100 4 (nI (i + 1))).2 100 6 = _; rw [gsI_2, gsL_s, if_pos rfl]
    by_cases g : i < l
    · have hu := h.u i g
      rw [if_pos (nI_lt g (by omega)), y_ck _ (by omega) (by omega), nI_clamp (by omega), hT.b i g, if_neg (nI_ne (by omega) (by omega) (fun w => gb ⟨g, w⟩))]
      exact fin
    · rw [if_neg (nI_nlt (by omega) (by omega))]
      exact fin
end TOKM
