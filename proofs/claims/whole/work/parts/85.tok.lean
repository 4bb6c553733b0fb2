/-! texts: tokens -/
def kdB (b : Nat) : Nat := if 97 ≤ b ∧ b ≤ 122 then 1 else if 48 ≤ b ∧ b ≤ 57 then 2 else 0
def tS (tx : Nat → Nat) (l e : Nat) : Nat := e + fsN (fun j => decide (l ≤ e + j) || !decide (tx (e + j) = 32)) 200
def tE (tx : Nat → Nat) (l s : Nat) : Nat := if l ≤ s then l else if kdB (tx s) = 0 then s + 1 else s + 1 + fsN (fun j => decide (l ≤ s + 1 + j) || !decide (kdB (tx (s + 1 + j)) = kdB (tx s))) 200
section TOK
variable {tx : Nat → Nat} {l : Nat}
theorem tS_eq {e s : Nat} (h1 : e ≤ s) (h2 : s ≤ l) (hl : l ≤ 160) (h3 : ∀ i, e ≤ i → i < s → tx i = 32) (h4 : s = l ∨ ¬ tx s = 32) : tS tx l e = s := by
  unfold tS
  have hh : (fun j => decide (l ≤ e + j) || !decide (tx (e + j) = 32)) (s - e) = true := by
    show (decide (l ≤ e + (s - e)) || !decide (tx (e + (s - e)) = 32)) = true
    rw [show e + (s - e) = s by omega]
    rcases h4 with h | h
    · rw [decide_eq_true (by omega)]; rfl
    · rw [decide_eq_false h, Bool.not_false, Bool.or_true]
  rw [fs_hit (show s - e < 200 by omega) (fun q hq => by
    show (decide (l ≤ e + q) || !decide (tx (e + q) = 32)) = false
    rw [decide_eq_false (by omega), decide_eq_true (h3 (e + q) (by omega) (by omega))]; rfl) hh]
  omega
theorem tS_sp {e : Nat} (h : e ≤ l) (hl : l ≤ 160) : e ≤ tS tx l e ∧ tS tx l e ≤ l ∧ (tS tx l e = l ∨ ¬ tx (tS tx l e) = 32) ∧ ∀ i, e ≤ i → i < tS tx l e → tx i = 32 := by
  obtain ⟨k1, k2, k3⟩ := fs_sp (fun j => decide (l ≤ e + j) || !decide (tx (e + j) = 32)) 200
  have hlt : fsN (fun j => decide (l ≤ e + j) || !decide (tx (e + j) = 32)) 200 ≤ l - e := by
    rcases Nat.lt_or_ge (l - e) (fsN (fun j => decide (l ≤ e + j) || !decide (tx (e + j) = 32)) 200) with q | q
    · have := k3 (l - e) q
      rw [decide_eq_true (by omega)] at this; cases this
    · exact q
  have h3 := k2 (by omega)
  unfold tS
  refine ⟨by omega, by omega, ?_, fun i h1 h2 => ?_⟩
  · rw [Bool.or_eq_true] at h3
    rcases h3 with h3 | h3
    · have := of_decide_eq_true h3; exact Or.inl (by omega)
    · exact Or.inr (by simpa using h3)
  · have := k3 (i - e) (by omega)
    rw [Bool.or_eq_false_iff, show e + (i - e) = i by omega] at this
    simpa using this.2
theorem tE_eq {s t : Nat} (h0 : s < l) (hl : l ≤ 160) (hk : ¬ kdB (tx s) = 0) (h1 : s < t) (h2 : t ≤ l) (h3 : ∀ i, s < i → i < t → kdB (tx i) = kdB (tx s)) (h4 : t = l ∨ ¬ kdB (tx t) = kdB (tx s)) : tE tx l s = t := by
  unfold tE
  rw [if_neg (by omega), if_neg hk]
  have hh : (fun j => decide (l ≤ s + 1 + j) || !decide (kdB (tx (s + 1 + j)) = kdB (tx s))) (t - (s + 1)) = true := by
    show (decide (l ≤ s + 1 + (t - (s + 1))) || !decide (kdB (tx (s + 1 + (t - (s + 1)))) = kdB (tx s))) = true
    rw [show s + 1 + (t - (s + 1)) = t by omega]
    rcases h4 with h | h
    · rw [decide_eq_true (by omega)]; rfl
    · rw [decide_eq_false h, Bool.not_false, Bool.or_true]
  rw [fs_hit (show t - (s + 1) < 200 by omega) (fun q hq => by
    show (decide (l ≤ s + 1 + q) || !decide (kdB (tx (s + 1 + q)) = kdB (tx s))) = false
    rw [decide_eq_false (by omega), decide_eq_true (h3 (s + 1 + q) (by omega) (by omega))]; rfl) hh]
  omega
theorem tE_0 {s : Nat} (h0 : s < l) (hk : kdB (tx s) = 0) : tE tx l s = s + 1 := by unfold tE; rw [if_neg (by omega), if_pos hk]
theorem tE_l : tE tx l l = l := by unfold tE; rw [if_pos (Nat.le_refl _)]
theorem tE_le {s : Nat} (h : s ≤ l) (hl : l ≤ 160) : tE tx l s ≤ l ∧ s ≤ tE tx l s ∧ (s < l → s < tE tx l s) ∧ ∀ i, s ≤ i → i < tE tx l s → kdB (tx i) = kdB (tx s) := by
  by_cases h0 : s < l
  · by_cases hk : kdB (tx s) = 0
    · rw [tE_0 h0 hk]
      exact ⟨by omega, by omega, fun _ => by omega, fun i h1 h2 => by rw [show i = s by omega]⟩
    · obtain ⟨k1, k2, k3⟩ := fs_sp (fun j => decide (l ≤ s + 1 + j) || !decide (kdB (tx (s + 1 + j)) = kdB (tx s))) 200
      have hlt : fsN (fun j => decide (l ≤ s + 1 + j) || !decide (kdB (tx (s + 1 + j)) = kdB (tx s))) 200 ≤ l - (s + 1) := by
        rcases Nat.lt_or_ge (l - (s + 1)) (fsN (fun j => decide (l ≤ s + 1 + j) || !decide (kdB (tx (s + 1 + j)) = kdB (tx s))) 200) with q | q
        · have := k3 (l - (s + 1)) q
          rw [decide_eq_true (by omega)] at this; cases this
        · exact q
      unfold tE
      rw [if_neg (by omega), if_neg hk]
      refine ⟨by omega, by omega, fun _ => by omega, fun i h1 h2 => ?_⟩
      by_cases e : i = s
      · rw [e]
      · have := k3 (i - (s + 1)) (by omega)
        rw [Bool.or_eq_false_iff, show s + 1 + (i - (s + 1)) = i by omega] at this
        simpa using this.2
  · have : s = l := by omega
    subst this
    rw [tE_l]
    exact ⟨Nat.le_refl _, Nat.le_refl _, fun w => absurd w h0, fun i h1 h2 => by omega⟩
end TOK
def TC (s : St) (tx : Nat → Nat) (l : Nat) : Prop := (s.1 6 1 = nI l) ∧ (l ≤ 160) ∧ (∀ i, i < l → s.1 7 i = nI (tx i)) ∧ (∀ i, i < l → tx i < 256)
theorem TC.l {s : St} {tx : Nat → Nat} {l : Nat} (h : TC s tx l) : s.1 6 1 = nI l := h.1
theorem TC.h {s : St} {tx : Nat → Nat} {l : Nat} (h : TC s tx l) : l ≤ 160 := h.2.1
theorem TC.b {s : St} {tx : Nat → Nat} {l : Nat} (h : TC s tx l) : ∀ i, i < l → s.1 7 i = nI (tx i) := h.2.2.1
theorem TC.u {s : St} {tx : Nat → Nat} {l : Nat} (h : TC s tx l) : ∀ i, i < l → tx i < 256 := h.2.2.2
def Ft (σ s : St) : Prop := Fr (fun c => c = 6) σ s ∧ ∀ j, j ≠ 2 → j ≠ 3 → s.1 6 j = σ.1 6 j
theorem ft_refl {σ : St} : Ft σ σ := ⟨fr_refl, fun _ _ _ => rfl⟩
theorem ft_trans {a b c : St} (h : Ft a b) (g : Ft b c) : Ft a c := ⟨fr_trans h.1 g.1, fun j h2 h3 => (g.2 j h2 h3).trans (h.2 j h2 h3)⟩
theorem ft_set {σ s : St} {j : Nat} {v : Int32} (h : Ft σ s) (hj : j = 2 ∨ j = 3) : Ft σ (setI s 6 j v) := ⟨fr_setI h.1 rfl, fun x h2 h3 => by rw [gsI_s, if_neg (by omega)]; exact h.2 x h2 h3⟩
theorem tc_ft {σ s : St} {tx : Nat → Nat} {l : Nat} (h : TC σ tx l) (f : Ft σ s) : TC s tx l := ⟨by rw [f.2 1 (by decide) (by decide)]; exact h.l, h.h, fun i hi => by rw [f.1.1 7 (by decide)]; exact h.b i hi, h.u⟩
section TOKC
variable {σ : St} {tx : Nat → Nat} {l : Nat}
theorem e_byteAt (h : TC σ tx l) {i : Nat} (hi : i < 2 ^ 31) : f_X7_byteAt σ (nI i) = some (if i < l then nI (tx i) else M1) := by
  have hl := h.h
  unfold f_X7_byteAt
  rw [q_mm, q_0, if_neg (nI_nlt (Nat.zero_le _) hi), h.l, q_160]
  by_cases g : i < l
  · rw [if_pos (nI_lt g (by omega)), if_pos (nI_lt (by omega) (by omega)), y_ck _ (by omega) (by omega), nI_clamp hi, h.b i g, if_pos g]
  · rw [if_neg (nI_nlt (by omega) hi), if_neg g]
theorem e_kindAt (h : TC σ tx l) {i : Nat} (hi : i < 2 ^ 31) : f_X7_kindAt σ (nI i) = some (nI (if i < l then kdB (tx i) else 0)) := by
  unfold f_X7_kindAt
  rw [e_byteAt h hi, calP_s, jn0]
  by_cases g : i < l
  · have hu := h.u i g
    rw [if_pos g, if_pos g, q_97, q_122, q_48, q_57, q_0, q_1, q_2]
    unfold kdB
    by_cases a1 : tx i < 97
    · rw [if_pos (nI_lt a1 (by omega)), if_neg (show ¬ (97 ≤ tx i ∧ tx i ≤ 122) by omega)]
      by_cases a2 : tx i < 48
      · rw [if_pos (nI_lt a2 (by omega)), if_neg (by omega)]
      · rw [if_neg (nI_nlt (by omega) (by omega))]
        by_cases a3 : 57 < tx i
        · rw [if_pos (nI_lt a3 (by omega)), if_neg (by omega)]
        · rw [if_neg (nI_nlt (by omega) (by omega)), if_pos (by omega)]
    · rw [if_neg (nI_nlt (by omega) (by omega))]
      by_cases a4 : 122 < tx i
      · rw [if_pos (nI_lt a4 (by omega)), if_neg (show ¬ (97 ≤ tx i ∧ tx i ≤ 122) by omega), if_neg (nI_nlt (by omega) (by omega)), if_pos (nI_lt (by omega) (by omega)), if_neg (by omega)]
      · rw [if_neg (nI_nlt (by omega) (by omega)), if_pos (by omega)]
  · rw [if_neg g, if_neg g, if_pos (show M1 < (97 : Int32) by decide), if_pos (show M1 < (48 : Int32) by decide)]
    rfl
theorem kdB_le (b : Nat) : kdB b ≤ 2 := by unfold kdB; split <;> (try split) <;> omega
theorem e_nextToken (h : TC σ tx l) {e : Nat} (he : e ≤ l) (h3 : σ.1 6 3 = nI e) : Ok (f_X7_nextToken σ) (fun q => q.2.1 6 2 = nI (tS tx l e) ∧ q.2.1 6 3 = nI (tE tx l (tS tx l e)) ∧ Ft σ q.2) := by
  have hl := h.h
  unfold f_X7_nextToken
  rw [h3, bd_s, q_0, q_1, q_32]
  refine lo1_ok (fun s => ∃ i, s.1 6 2 = nI i ∧ e ≤ i ∧ i ≤ l ∧ (∀ j, e ≤ j → j < i → tx j = 32) ∧ Ft σ s) (fun s => 200 - (s.1 6 2).toNatClampNeg) ?_ FU _ ⟨e, by rw [gsI_s, if_pos rfl], Nat.le_refl _, he, fun j a b => by omega, ft_set ft_refl (Or.inl rfl)⟩ (fu_lt (by omega))
  rintro rec s ⟨i, i1, i2, i3, i4, i5⟩ kk
  have hT := tc_ft h i5
  rw [jn0, i1, hT.l]
  have fin : tS tx l e = i → Ok (bd (setI s 6 3 (if nI l < nI i + nI 1 then nI l else nI i + nI 1)) fun s6 =>
            calP (f_X7_kindAt s6 (s6.1 6 2)) fun r7 =>
              lo1 FU (fun rec9 (s8 : St) =>
                (if (s8.1 6 3) < (s8.1 6 1) then
                  (if r7 = nI 0 then
                    some ((), s8)
                     else
                    calP (f_X7_kindAt s8 (s8.1 6 3)) fun r11 =>
                      (if r11 = r7 then
                        bd (setI s8 6 3 ((s8.1 6 3) + nI 1)) fun s12 =>
                          rec9 s12
                         else
                        some ((), s8)))
                   else
                  some ((), s8))) s6) (fun q => q.2.1 6 2 = nI (tS tx l e) ∧ q.2.1 6 3 = nI (tE tx l (tS tx l e)) ∧ Ft σ q.2) := by
    intro ei
    have hmin : (if nI l < nI i + nI 1 then nI l else nI i + nI 1) = nI (min l (i + 1)) := by
      rw [nI_add]
      by_cases g : l < i + 1
      · rw [if_pos (nI_lt g (by omega))]; exact congrArg nI (by omega)
      · rw [if_neg (nI_nlt (by omega) (by omega))]; exact congrArg nI (by omega)
    rw [hmin, bd_s]
    have f6 : Ft σ (setI s 6 3 (nI (min l (i + 1)))) := ft_set i5 (Or.inr rfl)
    have e62 : (setI s 6 3 (nI (min l (i + 1)))).1 6 2 = nI i := by rw [gsI_s, if_neg (by decide)]; exact i1
    rw [e62, e_kindAt (tc_ft h f6) (by omega), calP_s, ei]
    refine lo1_ok (fun t => ∃ m, t.1 6 3 = nI m ∧ t.1 6 2 = nI i ∧ min l (i + 1) ≤ m ∧ m ≤ l ∧ (∀ j, i < j → j < m → kdB (tx j) = kdB (tx i)) ∧ (m = min l (i + 1) ∨ (i < l ∧ ¬ kdB (tx i) = 0)) ∧ Ft σ t) (fun t => 200 - (t.1 6 3).toNatClampNeg) ?_ FU _ ⟨min l (i + 1), by rw [gsI_s, if_pos rfl], e62, Nat.le_refl _, by omega, fun j a b => by omega, Or.inl rfl, f6⟩ (fu_lt (by omega))
    rintro rec2 t ⟨m, j1, j2, j3, j4, j5, j6, j7⟩ k2
    have hTt := tc_ft h j7
    rw [j1, hTt.l]
    by_cases gm : m < l
    · have hil : i < l := by omega
      rw [if_pos (nI_lt gm (by omega)), if_pos hil]
      by_cases gk : kdB (tx i) = 0
      · rw [if_pos (by rw [gk])]
        refine ok_some ⟨j2, ?_, j7⟩
        show t.1 6 3 = _
        rw [j1, tE_0 hil gk]
        refine congrArg nI ?_
        rcases j6 with j6 | j6
        · omega
        · exact absurd gk j6.2
      · have hk2 := kdB_le (tx i)
        have hk3 := kdB_le (tx m)
        rw [if_neg (nI_ne (by omega) (by omega) gk), e_kindAt hTt (by omega), calP_s, if_pos gm]
        by_cases gq : kdB (tx m) = kdB (tx i)
        · rw [if_pos (by rw [gq]), nI_add, bd_s]
          refine k2 _ ⟨m + 1, by rw [gsI_s, if_pos rfl], by rw [gsI_s, if_neg (by decide)]; exact j2, by omega, by omega, fun j a b => ?_, Or.inr ⟨hil, gk⟩, ft_set j7 (Or.inr rfl)⟩ ?_
          · by_cases e1 : j = m
            · rw [e1]; exact gq
            · exact j5 j a (by omega)
          · show 200 - ((setI t 6 3 (nI (m + 1))).1 6 3).toNatClampNeg < 200 - (t.1 6 3).toNatClampNeg
            rw [gsI_s, if_pos rfl, j1, nI_clamp (by omega), nI_clamp (by omega)]; omega
        · rw [if_neg (nI_ne (by omega) (by omega) gq)]
          refine ok_some ⟨j2, ?_, j7⟩
          show t.1 6 3 = _
          rw [j1, tE_eq hil hl gk (by omega) j4 j5 (Or.inr gq)]
    · rw [if_neg (nI_nlt (by omega) (by omega))]
      refine ok_some ⟨j2, ?_, j7⟩
      show t.1 6 3 = _
      have hml : m = l := by omega
      rw [j1]
      refine congrArg nI ?_
      by_cases hil : i < l
      · by_cases gk : kdB (tx i) = 0
        · rw [tE_0 hil gk]
          rcases j6 with j6 | j6
          · omega
          · exact absurd gk j6.2
        · exact (tE_eq hil hl gk (by omega) j4 j5 (Or.inl hml)).symm
      · have : i = l := by omega
        rw [this, tE_l]; exact hml
  by_cases g : i < l
  · rw [if_pos (nI_lt g (by omega)), e_byteAt hT (by omega), calP_s, if_pos g]
    have hu := h.u i g
    by_cases gb : tx i = 32
    · rw [if_pos (by rw [gb]), nI_add, bd_s]
      refine kk _ ⟨i + 1, by rw [gsI_s, if_pos rfl], by omega, by omega, fun j a b => ?_, ft_set i5 (Or.inl rfl)⟩ ?_
      · by_cases e1 : j = i
        · rw [e1]; exact gb
        · exact i4 j a (by omega)
      · show 200 - ((setI s 6 2 (nI (i + 1))).1 6 2).toNatClampNeg < 200 - (s.1 6 2).toNatClampNeg
        rw [gsI_s, if_pos rfl, i1, nI_clamp (by omega), nI_clamp (by omega)]; omega
    · rw [if_neg (nI_ne (by omega) (by omega) gb)]
      exact fin (tS_eq i2 i3 hl i4 (Or.inr gb))
  · rw [if_neg (nI_nlt (by omega) (by omega))]
    exact fin (tS_eq i2 i3 hl i4 (Or.inl (by omega)))
end TOKC
