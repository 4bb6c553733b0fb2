def c103 (c : Nat) : Prop := c = 103
def rk (k : Nat) : Prop := 4 ≤ k ∧ k ≤ 11
section LINEM
variable {σ : St} {tx : Nat → Nat} {l : Nat}
theorem fm_tk {a b : St} (h : Fm noC tk5 a b) : Fm c103 rk a b := fm_mono h (fun c hc => hc.elim) (fun c hc => by unfold tk5 at hc; unfold rk; omega)
theorem e_fails {s : St} {v : Int32} (h5 : s.1 100 5 = v) : f_X10_fails s = some (nI 0, setI s 100 9 v) := by
  unfold f_X10_fails
  rw [h5]; rfl
theorem tm_rk {s : St} (h : TM σ tx l) (f : Fm c103 rk σ s) : TM s tx l := tm_fm h f (by unfold rk; omega) (by unfold c103; omega)
theorem m_isNumber (h : TM σ tx l) {e a lo hi : Nat} (he : e ≤ l) (h4 : σ.1 100 4 = nI e) (ha : a < 48) (hlo : lo < 2 ^ 31) (hhi : hi < 2 ^ 31) : Ok (f_X10_isNumber σ (nI a) (nI lo) (nI hi)) (fun q => ((nud tx l e ≠ 99 ∧ lo ≤ nud tx l e ∧ nud tx l e ≤ hi ∧ q.1 = nI 1 ∧ q.2.1 103 a = nI (nud tx l e)) ∨ (¬ (nud tx l e ≠ 99 ∧ lo ≤ nud tx l e ∧ nud tx l e ≤ hi) ∧ q.1 = nI 0 ∧ q.2.1 100 9 = nI (tS tx l e))) ∧ q.2.1 100 4 = nI (rE tx l e) ∧ q.2.1 100 5 = nI (tS tx l e) ∧ q.2.1 100 10 = σ.1 100 10 ∧ q.2.1 100 11 = σ.1 100 11 ∧ (∀ i, i ≠ a → q.2.1 103 i = σ.1 103 i) ∧ Fm c103 rk σ q.2) := by
  have hl := h.h
  unfold f_X10_isNumber
  refine ok_cal (m_nextToken h he h4) ?_
  rintro u s1 ⟨a1, a2, a3, a4, a5⟩
  have F1 := fm_tk a5
  have e10 : s1.1 100 10 = σ.1 100 10 := a5.2.1 10 (by unfold tk5; omega)
  have e11 : s1.1 100 11 = σ.1 100 11 := a5.2.1 11 (by unfold tk5; omega)
  have e103 : s1.1 103 = σ.1 103 := a5.1.1 103 (fun w => w.elim (by decide) id)
  replace a1 : s1.1 100 4 = nI (rE tx l e) := a1
  replace a2 : s1.1 100 5 = nI (tS tx l e) := a2
  replace a3 : s1.2 100 6 = tkV tx l e := a3
  rw [a3, q_0, q_1, e_fails a2]
  have bad : ¬ (nud tx l e ≠ 99 ∧ lo ≤ nud tx l e ∧ nud tx l e ≤ hi) → Ok (cal (some (nI 0, setI s1 100 9 (nI (tS tx l e)))) fun r3 s4 => ckZ r3 <| some (r3, s4)) (fun q => ((nud tx l e ≠ 99 ∧ lo ≤ nud tx l e ∧ nud tx l e ≤ hi ∧ q.1 = nI 1 ∧ q.2.1 103 a = nI (nud tx l e)) ∨ (¬ (nud tx l e ≠ 99 ∧ lo ≤ nud tx l e ∧ nud tx l e ≤ hi) ∧ q.1 = nI 0 ∧ q.2.1 100 9 = nI (tS tx l e))) ∧ q.2.1 100 4 = nI (rE tx l e) ∧ q.2.1 100 5 = nI (tS tx l e) ∧ q.2.1 100 10 = σ.1 100 10 ∧ q.2.1 100 11 = σ.1 100 11 ∧ (∀ i, i ≠ a → q.2.1 103 i = σ.1 103 i) ∧ Fm c103 rk σ q.2) := by
    intro hb
    rw [cal_s, show ckZ (nI 0) = ckZ (nI false.toNat) from rfl, y_ckZ]
    refine ok_some ⟨Or.inr ⟨hb, rfl, ?_⟩, ?_, ?_, ?_, ?_, fun i _ => ?_, fm_set F1 (by unfold rk; omega)⟩
    · rw [gsI_s, if_pos rfl]
    · rw [gsI_s, if_neg (by decide)]; exact a1
    · rw [gsI_s, if_neg (by decide)]; exact a2
    · rw [gsI_s, if_neg (by decide)]; exact e10
    · rw [gsI_s, if_neg (by decide)]; exact e11
    · rw [gsI_o (by decide), e103]
  by_cases g : nud tx l e = 99
  · rw [if_neg (fun w => (tk_num he hl).mp w g)]
    exact bad (fun w => w.1 g)
  · have hn := nmb_le (tx := tx) (tS tx l e) (rE tx l e)
    replace hn : nud tx l e ≤ 9 ∨ nud tx l e = 99 := hn
    rw [if_pos ((tk_num he hl).mpr g), a4 g, e_in (by omega) hlo hhi, calP_s]
    by_cases g2 : lo ≤ nud tx l e ∧ nud tx l e ≤ hi
    · rw [decide_eq_true g2, if_neg b_t0, y_ck _ ha (by omega), nI_clamp (by omega), bd_s]
      refine ok_some ⟨Or.inl ⟨g, g2.1, g2.2, rfl, ?_⟩, ?_, ?_, ?_, ?_, fun i hi => ?_, fm_setI F1 rfl (by decide)⟩
      · rw [gsI_s, if_pos rfl]
      · rw [gsI_o (by decide)]; exact a1
      · rw [gsI_o (by decide)]; exact a2
      · rw [gsI_o (by decide)]; exact e10
      · rw [gsI_o (by decide)]; exact e11
      · rw [gsI_s, if_neg hi, e103]
    · rw [decide_eq_false g2, if_pos b_f0]
      exact bad (fun w => g2 w.2)
def MnP (σ : St) (R : Nat × Nat × Nat × Nat × Nat × Nat) (j : Nat) (q : Int32 × St) : Prop := Fm c103 rk σ q.2 ∧ q.2.1 100 11 = σ.1 100 11 ∧ ((R.1 ≠ 999 ∧ q.1 = nI 0 ∧ q.2.1 100 9 = nI R.1) ∨ (R.1 = 999 ∧ q.1 = nI 1 ∧ q.2.1 100 4 = nI R.2.1 ∧ q.2.1 100 10 = nI R.2.2.1 ∧ q.2.1 103 (3 * j) = nI R.2.2.2.1 ∧ q.2.1 103 (3 * j + 1) = nI R.2.2.2.2.1 ∧ (R.2.2.2.1 ≠ 2 → q.2.1 103 (3 * j + 2) = nI R.2.2.2.2.2) ∧ ∀ i, (i < 3 * j ∨ 3 * j + 2 < i) → q.2.1 103 i = σ.1 103 i))
theorem mp_bad {R : Nat × Nat × Nat × Nat × Nat × Nat} {p j : Nat} {s : St} (hR : R = (p, 0, 0, 0, 0, 0)) (hp : p ≤ 160) (F : Fm c103 rk σ s) (h11 : s.1 100 11 = σ.1 100 11) (h : s.1 100 9 = nI p) : MnP σ R j (nI 0, s) := by
  subst hR
  refine ⟨F, h11, Or.inl ⟨?_, rfl, h⟩⟩
  dsimp only
  omega
theorem m_isLine (h : TM σ tx l) {e b j : Nat} (he : e ≤ l) (hb1 : 1 ≤ b) (hb : b ≤ 8) (hj : j < 16) (h4 : σ.1 100 4 = nI e) (h10 : σ.1 100 10 = nI b) : Ok (f_X10_isLine σ (nI (3 * j))) (MnP σ (lnR tx l e b) j) := by
  have hl := h.h
  have r1 := rE_le (tx := tx) he hl
  have r2 := rE_le (tx := tx) r1.2 hl
  have r3 := rE_le (tx := tx) r2.2 hl
  unfold f_X10_isLine
  refine ok_cal (m_nextToken h he h4) ?_
  rintro u s1 ⟨a1, a2, a3, a4, a5⟩
  have F1 := fm_tk a5
  have e10 : s1.1 100 10 = nI b := (a5.2.1 10 (by unfold tk5; omega)).trans h10
  have e11 : s1.1 100 11 = σ.1 100 11 := a5.2.1 11 (by unfold tk5; omega)
  have e103 : s1.1 103 = σ.1 103 := a5.1.1 103 (fun w => w.elim (by decide) id)
  replace a1 : s1.1 100 4 = nI (rE tx l e) := a1
  replace a2 : s1.1 100 5 = nI (tS tx l e) := a2
  replace a3 : s1.2 100 6 = tkV tx l e := a3
  have hk : kwd tx l e ≤ 3 := by unfold kwd wdK; split <;> (try split) <;> (try split) <;> omega
  have hx2 : (if lg_cmp (tkV tx l e) 365260 = nI 0 then nI 0 else if lg_cmp (tkV tx l e) 16819 = nI 0 then nI 1 else if lg_cmp (tkV tx l e) 10361 = nI 0 then nI 2 else M1) = if kwd tx l e = 3 then M1 else nI (kwd tx l e) := by
    have t0 := tk_word (tx := tx) (w := 0) he hl (by decide)
    have t1 := tk_word (tx := tx) (w := 1) he hl (by decide)
    have t2 := tk_word (tx := tx) (w := 2) he hl (by decide)
    rw [show nL (wV 0) = (365260 : Int64) from rfl] at t0
    rw [show nL (wV 1) = (16819 : Int64) from rfl] at t1
    rw [show nL (wV 2) = (10361 : Int64) from rfl] at t2
    unfold kwd wdK
    by_cases g0 : wB tx (tS tx l e) (rE tx l e) 0 = true
    · rw [if_pos (t0.mpr g0), if_pos g0]; rfl
    · rw [if_neg (fun w => g0 (t0.mp w)), if_neg g0]
      by_cases g1 : wB tx (tS tx l e) (rE tx l e) 1 = true
      · rw [if_pos (t1.mpr g1), if_pos g1]; rfl
      · rw [if_neg (fun w => g1 (t1.mp w)), if_neg g1]
        by_cases g2 : wB tx (tS tx l e) (rE tx l e) 2 = true
        · rw [if_pos (t2.mpr g2), if_pos g2]; rfl
        · rw [if_neg (fun w => g2 (t2.mp w)), if_neg g2]; rfl
  rw [q_mm, q_0, q_1, q_2, q_8, a3, hx2, bd_s, y_ck _ (by omega) (by omega), nI_clamp (by omega), bd_s, y_ck _ (by omega) (by omega), gsI_s, if_pos rfl]
  have hset : ∀ v, Fm c103 rk σ (setI s1 103 (3 * j) v) := fun v => fm_setI F1 rfl (by decide)
  by_cases k3 : kwd tx l e = 3
  · rw [if_pos k3, if_pos rfl, e_fails (show (setI s1 103 (3 * j) M1).1 100 5 = nI (tS tx l e) by rw [gsI_o (by decide)]; exact a2), cal_s, show ckZ (nI 0) = ckZ (nI false.toNat) from rfl, y_ckZ]
    refine ok_some (mp_bad (by unfold lnR; rw [if_pos k3]) (by omega) (fm_set (hset _) (by unfold rk; omega)) ?_ ?_)
    · rw [gsI_s, if_neg (by decide), gsI_o (by decide)]; exact e11
    · rw [gsI_s, if_pos rfl]
  · rw [if_neg k3, if_neg (nI_mm (by omega)), y_ck _ (by omega) (by omega)]
    generalize hs4 : setI s1 103 (3 * j) (nI (kwd tx l e)) = s4
    have F4 : Fm c103 rk σ s4 := by rw [← hs4]; exact hset _
    have T4 : TM s4 tx l := tm_rk h F4
    have p4 : s4.1 100 4 = nI (rE tx l e) := by rw [← hs4, gsI_o (by decide)]; exact a1
    have b4 : s4.1 100 10 = nI b := by rw [← hs4, gsI_o (by decide)]; exact e10
    have z4 : s4.1 100 11 = σ.1 100 11 := by rw [← hs4, gsI_o (by decide)]; exact e11
    have k4 : s4.1 103 (3 * j) = nI (kwd tx l e) := by rw [← hs4, gsI_s, if_pos rfl]
    have o4 : ∀ i, i ≠ 3 * j → s4.1 103 i = σ.1 103 i := fun i hi => by rw [← hs4, gsI_s, if_neg hi, e103]
    by_cases k2 : kwd tx l e = 2
    · rw [if_pos (by rw [k2]), nI_add]
      refine ok_cal (m_isNumber T4 (a := 3 * j + 1) (lo := 1) (hi := 8) r1.2 p4 (by omega) (by decide) (by decide)) ?_
      rintro r8 s9 ⟨hc, c4, c5, c10, c11, c103', cF⟩
      have F9 := fm_trans F4 cF
      rcases hc with ⟨n1, n2, n3, rfl, n4⟩ | ⟨n1, rfl, n4⟩
      · rw [if_neg b_10, y_ck _ (by omega) (by omega), nI_clamp (by omega), bd_s]
        have hR : lnR tx l e b = (999, rE tx l (rE tx l e), nud tx l (rE tx l e), 2, nud tx l (rE tx l e), 0) := by unfold lnR; rw [if_neg k3, if_pos k2, if_neg (by omega)]
        rw [hR]
        refine ok_some ⟨fm_set F9 (by unfold rk; omega), ?_, Or.inr ⟨rfl, rfl, ?_, ?_, ?_, ?_, fun w => absurd rfl w, fun i hi => ?_⟩⟩
        · rw [gsI_s, if_neg (by decide)]; exact c11.trans z4
        · rw [gsI_s, if_neg (by decide)]; exact c4
        · rw [gsI_s, if_pos rfl]; dsimp only; exact n4
        · rw [gsI_o (by decide)]
          show s9.1 103 (3 * j) = nI 2
          rw [c103' (3 * j) (by omega), k4, k2]
        · rw [gsI_o (by decide)]; dsimp only; exact n4
        · rw [gsI_o (by decide)]
          show s9.1 103 i = _
          rw [c103' i (by omega), o4 i (by omega)]
      · rw [if_pos rfl]
        refine ok_some (mp_bad (p := tS tx l (rE tx l e)) ?_ (by omega) F9 (c11.trans z4) n4)
        unfold lnR
        rw [if_neg k3, if_pos k2, if_pos]
        have hn := nmb_le (tx := tx) (tS tx l (rE tx l e)) (rE tx l (rE tx l e))
        replace hn : nud tx l (rE tx l e) ≤ 9 ∨ nud tx l (rE tx l e) = 99 := hn
        by_cases g1 : nud tx l (rE tx l e) < 1
        · exact Or.inl g1
        · right
          rcases Nat.lt_or_ge 8 (nud tx l (rE tx l e)) with w | w
          · exact w
          · exact absurd ⟨by omega, by omega, w⟩ n1
    · have hn2 := nmb_le (tx := tx) (tS tx l (rE tx l e)) (rE tx l (rE tx l e))
      replace hn2 : nud tx l (rE tx l e) ≤ 9 ∨ nud tx l (rE tx l e) = 99 := hn2
      have hn3 := nmb_le (tx := tx) (tS tx l (rE tx l (rE tx l e))) (rE tx l (rE tx l (rE tx l e)))
      replace hn3 : nud tx l (rE tx l (rE tx l e)) ≤ 9 ∨ nud tx l (rE tx l (rE tx l e)) = 99 := hn3
      rw [if_neg (nI_ne (by omega) (by omega) k2), nI_add, nI_add, b4, pk_sub hb1]
      refine ok_cal (m_isNumber T4 (a := 3 * j + 1) (lo := 0) (hi := b - 1) r1.2 p4 (by omega) (by decide) (by omega)) ?_
      rintro r11 s12 ⟨hc, c4, c5, c10, c11, c103', cF⟩
      have F12 := fm_trans F4 cF
      rcases hc with ⟨n1, n2, n3, rfl, n4⟩ | ⟨n1, rfl, n4⟩
      · rw [if_neg b_10, show s12.1 100 10 = nI b from c10.trans b4, pk_sub hb1]
        refine ok_cal (m_isNumber (tm_rk T4 cF) (a := 3 * j + 2) (lo := 0) (hi := b - 1) r2.2 c4 (by omega) (by decide) (by omega)) ?_
        rintro r13 s14 ⟨hd, d4, d5, d10, d11, d103, dF⟩
        have F14 := fm_trans F12 dF
        have g1 : ¬ b ≤ nud tx l (rE tx l e) := by omega
        rcases hd with ⟨m1, m2, m3, rfl, m4⟩ | ⟨m1, rfl, m4⟩
        · have v1 : s14.1 103 (3 * j + 1) = nI (nud tx l (rE tx l e)) := (d103 _ (by omega)).trans n4
          rw [if_neg b_10, y_ck _ (by omega) (by omega), y_ck _ (by omega) (by omega), nI_clamp (by omega), nI_clamp (by omega), v1, show s14.1 103 (3 * j + 2) = nI (nud tx l (rE tx l (rE tx l e))) from m4]
          by_cases g4 : nud tx l (rE tx l (rE tx l e)) = nud tx l (rE tx l e)
          · rw [if_pos (by rw [g4]), e_fails (show s14.1 100 5 = nI (tS tx l (rE tx l (rE tx l e))) from d5), cal_s, if_pos rfl]
            refine ok_some (mp_bad (p := tS tx l (rE tx l (rE tx l e))) ?_ (by omega) (fm_set F14 (by unfold rk; omega)) ?_ ?_)
            · unfold lnR; rw [if_neg k3, if_neg k2, if_neg g1, if_pos (Or.inr g4)]
            · rw [gsI_s, if_neg (by decide)]; exact d11.trans (c11.trans z4)
            · rw [gsI_s, if_pos rfl]
          · rw [if_neg (nI_ne (by omega) (by omega) (fun w => g4 w.symm))]
            have hR : lnR tx l e b = (999, rE tx l (rE tx l (rE tx l e)), b, kwd tx l e, nud tx l (rE tx l e), nud tx l (rE tx l (rE tx l e))) := by unfold lnR; rw [if_neg k3, if_neg k2, if_neg g1, if_neg (fun w => w.elim (fun w => by omega) g4)]
            rw [hR]
            refine ok_some ⟨F14, d11.trans (c11.trans z4), Or.inr ⟨rfl, rfl, (by dsimp only; exact d4), (by dsimp only; exact d10.trans (c10.trans b4)), ?_, (by dsimp only; exact v1), fun _ => (by dsimp only; exact m4), fun i hi => ?_⟩⟩
            · show s14.1 103 (3 * j) = _
              rw [d103 _ (by omega)]
              show s12.1 103 (3 * j) = _
              rw [c103' _ (by omega)]; dsimp only; exact k4
            · show s14.1 103 i = _
              rw [d103 i (by omega)]
              show s12.1 103 i = _
              rw [c103' i (by omega), o4 i (by omega)]
        · rw [if_pos rfl]
          refine ok_some (mp_bad (p := tS tx l (rE tx l (rE tx l e))) ?_ (by omega) F14 (d11.trans (c11.trans z4)) m4)
          unfold lnR
          rw [if_neg k3, if_neg k2, if_neg g1, if_pos]
          left
          rcases Nat.lt_or_ge (nud tx l (rE tx l (rE tx l e))) b with w | w
          · exact absurd ⟨by omega, Nat.zero_le _, by omega⟩ m1
          · exact w
      · rw [if_pos rfl]
        refine ok_some (mp_bad (p := tS tx l (rE tx l e)) ?_ (by omega) F12 (c11.trans z4) n4)
        unfold lnR
        rw [if_neg k3, if_neg k2, if_pos]
        rcases Nat.lt_or_ge (nud tx l (rE tx l e)) b with w | w
        · exact absurd ⟨by omega, Nat.zero_le _, by omega⟩ n1
        · exact w
end LINEM
