def lin (R : Nat × Nat × Nat × Nat × Nat × Nat) : Nat × Nat × Nat := (R.2.2.2.1, R.2.2.2.2.1, R.2.2.2.2.2)
def rdF (tx : Nat → Nat) (l : Nat) : Nat → Nat → Nat → Nat × List (Nat × Nat × Nat)
  | 0, _, _ => (0, [])
  | f + 1, e, b => if (lnR tx l e b).1 = 999 then
      (if tS tx l (lnR tx l e b).2.1 = l then (999, [lin (lnR tx l e b)])
       else if tx (tS tx l (lnR tx l e b).2.1) = 59 ∧ f ≠ 0 then ((rdF tx l f (rE tx l (lnR tx l e b).2.1) (lnR tx l e b).2.2.1).1, lin (lnR tx l e b) :: (rdF tx l f (rE tx l (lnR tx l e b).2.1) (lnR tx l e b).2.2.1).2)
       else (tS tx l (lnR tx l e b).2.1, [lin (lnR tx l e b)]))
    else ((lnR tx l e b).1, [])
def rdA (tx : Nat → Nat) (l n : Nat) : Nat × List (Nat × Nat × Nat) := rdF tx l 16 0 n
def VL : Nat → List (Nat × Nat × Nat) → Prop
  | _, [] => True
  | b, x :: ls => (x.1 = 2 ∧ 1 ≤ x.2.1 ∧ x.2.1 ≤ 8 ∧ VL x.2.1 ls) ∨ ((x.1 = 0 ∨ x.1 = 1) ∧ x.2.1 < b ∧ x.2.2 < b ∧ x.2.1 ≠ x.2.2 ∧ VL b ls)
section LAY
variable {σ : St} {tx : Nat → Nat} {l : Nat}
theorem ln_ok {e b : Nat} (he : e ≤ l) (hl : l ≤ 160) (hb : 1 ≤ b ∧ b ≤ 8) (h : (lnR tx l e b).1 = 999) : (lnR tx l e b).2.1 ≤ l ∧ (1 ≤ (lnR tx l e b).2.2.1 ∧ (lnR tx l e b).2.2.1 ≤ 8) ∧ (((lnR tx l e b).2.2.2.1 = 2 ∧ (lnR tx l e b).2.2.2.2.1 = (lnR tx l e b).2.2.1) ∨ (((lnR tx l e b).2.2.2.1 = 0 ∨ (lnR tx l e b).2.2.2.1 = 1) ∧ (lnR tx l e b).2.2.1 = b ∧ (lnR tx l e b).2.2.2.2.1 < b ∧ (lnR tx l e b).2.2.2.2.2 < b ∧ (lnR tx l e b).2.2.2.2.1 ≠ (lnR tx l e b).2.2.2.2.2)) := by
  have r1 := rE_le (tx := tx) he hl
  have r2 := rE_le (tx := tx) r1.2 hl
  have r3 := rE_le (tx := tx) r2.2 hl
  have hk : kwd tx l e ≤ 3 := by unfold kwd wdK; split <;> (try split) <;> (try split) <;> omega
  unfold lnR at h ⊢
  by_cases k3 : kwd tx l e = 3
  · rw [if_pos k3] at h
    dsimp only at h
    omega
  · rw [if_neg k3] at h ⊢
    by_cases k2 : kwd tx l e = 2
    · rw [if_pos k2] at h ⊢
      by_cases g : nud tx l (rE tx l e) < 1 ∨ 8 < nud tx l (rE tx l e)
      · rw [if_pos g] at h
        dsimp only at h
        omega
      · rw [if_neg g]
        dsimp only
        exact ⟨r2.2, ⟨by omega, by omega⟩, Or.inl ⟨rfl, rfl⟩⟩
    · rw [if_neg k2] at h ⊢
      by_cases g1 : b ≤ nud tx l (rE tx l e)
      · rw [if_pos g1] at h
        dsimp only at h
        omega
      · rw [if_neg g1] at h ⊢
        by_cases g2 : b ≤ nud tx l (rE tx l (rE tx l e)) ∨ nud tx l (rE tx l (rE tx l e)) = nud tx l (rE tx l e)
        · rw [if_pos g2] at h
          dsimp only at h
          omega
        · rw [if_neg g2]
          dsimp only
          exact ⟨r3.2, hb, Or.inr ⟨by omega, rfl, by omega, by omega, by omega⟩⟩
theorem rd_vl (hl : l ≤ 160) : ∀ f e b, e ≤ l → 1 ≤ b ∧ b ≤ 8 → ((rdF tx l f e b).1 = 999 → VL b (rdF tx l f e b).2) ∧ (rdF tx l f e b).2.length ≤ f ∧ ((rdF tx l f e b).1 = 999 ∨ (rdF tx l f e b).1 ≤ 160) := by
  intro f
  induction f with
  | zero => intro e b _ _; exact ⟨fun h => (by cases h), Nat.le_refl _, Or.inr (Nat.zero_le _)⟩
  | succ f ih =>
    intro e b he hb
    have one : (lnR tx l e b).1 = 999 → ∀ ls, VL (lnR tx l e b).2.2.1 ls → VL b (lin (lnR tx l e b) :: ls) := by
      intro h ls hls
      obtain ⟨-, h2, h3⟩ := ln_ok he hl hb h
      rcases h3 with ⟨a1, a2⟩ | ⟨a1, a2, a3, a4, a5⟩
      · rw [VL]
        dsimp only [lin]
        exact Or.inl ⟨a1, by omega, by omega, by rw [a2]; exact hls⟩
      · rw [VL]
        dsimp only [lin]
        exact Or.inr ⟨a1, a3, a4, a5, by rw [← a2]; exact hls⟩
    rw [rdF]
    by_cases h : (lnR tx l e b).1 = 999
    · rw [if_pos h]
      obtain ⟨h1, h2, h3⟩ := ln_ok he hl hb h
      have hs := tS_sp (tx := tx) h1 hl
      by_cases g : tS tx l (lnR tx l e b).2.1 = l
      · rw [if_pos g]
        exact ⟨fun _ => one h [] trivial, Nat.le_add_left 1 f, Or.inl rfl⟩
      · rw [if_neg g]
        by_cases g2 : tx (tS tx l (lnR tx l e b).2.1) = 59 ∧ f ≠ 0
        · rw [if_pos g2]
          obtain ⟨i1, i2, i3⟩ := ih (rE tx l (lnR tx l e b).2.1) (lnR tx l e b).2.2.1 (rE_le h1 hl).2 h2
          exact ⟨fun w => one h _ (i1 w), by dsimp only; rw [List.length_cons]; omega, i3⟩
        · rw [if_neg g2]
          dsimp only
          exact ⟨fun w => by omega, Nat.le_add_left 1 f, Or.inr (by omega)⟩
    · rw [if_neg h]
      dsimp only
      refine ⟨fun w => absurd w h, Nat.zero_le _, ?_⟩
      right
      have r1 := rE_le (tx := tx) he hl
      have r2 := rE_le (tx := tx) r1.2 hl
      have r3 := rE_le (tx := tx) r2.2 hl
      unfold lnR at h ⊢
      split
      · dsimp only; omega
      · rename_i k3
        rw [if_neg k3] at h
        split
        · rename_i k2
          rw [if_pos k2] at h
          split
          · dsimp only; omega
          · rename_i g; rw [if_neg g] at h; exact absurd rfl h
        · rename_i k2
          rw [if_neg k2] at h
          split
          · dsimp only; omega
          · rename_i g1
            rw [if_neg g1] at h
            split
            · dsimp only; omega
            · rename_i g2; rw [if_neg g2] at h; exact absurd rfl h
def Sd (s : St) (ls : List (Nat × Nat × Nat)) : Prop := ∀ (i : Nat) (x : Nat × Nat × Nat), ls[i]? = some x → s.1 8 i = nI x.1 ∧ s.1 9 i = nI x.2.1 ∧ (x.1 ≠ 2 → s.1 10 i = nI x.2.2)
theorem sd_eq {s t : St} {ls : List (Nat × Nat × Nat)} (h : Sd s ls) (e8 : ∀ i, i < ls.length → t.1 8 i = s.1 8 i) (e9 : ∀ i, i < ls.length → t.1 9 i = s.1 9 i) (e10 : ∀ i, i < ls.length → t.1 10 i = s.1 10 i) : Sd t ls := fun i x hx => by
  have := get_lt hx
  rw [e8 i this, e9 i this, e10 i this]; exact h i x hx
theorem e_read (h : TC σ tx l) {n : Nat} (hn : 1 ≤ n ∧ n ≤ 8) : Ok (f_X7_read σ (nI n)) (fun q => Fl σ q.2 ∧ q.1 = (if (rdA tx l n).1 = 999 then M1 else nI (rdA tx l n).1) ∧ ((rdA tx l n).1 = 999 → q.2.1 6 5 = nI (rdA tx l n).2.length ∧ Sd q.2 (rdA tx l n).2)) := by
  have hl := h.h
  unfold f_X7_read
  rw [bd_s, bd_s, bd_s, q_mm, q_0, q_1, q_16, q_59]
  refine lo2_for (fun j s => ∃ e b ls, e ≤ l ∧ (1 ≤ b ∧ b ≤ 8) ∧ s.1 6 3 = nI e ∧ s.1 6 4 = nI b ∧ Fl σ s ∧ ls.length = j ∧ Sd s ls ∧ j < 16 ∧ rdA tx l n = ((rdF tx l (16 - j) e b).1, ls ++ (rdF tx l (16 - j) e b).2)) 16 ?_ ?_ FU 0 _ (by omega) (fu_lt (by omega)) ⟨0, n, [], Nat.zero_le _, hn, by rw [gsI_s, if_neg (by decide), gsI_s, if_neg (by decide), gsI_s, if_pos rfl], by rw [gsI_s, if_neg (by decide), gsI_s, if_pos rfl], fl_6 (fl_6 (fl_6 fl_refl (by decide)) (by decide)) (by decide), rfl, fun i x hx => (by cases hx), by decide, by unfold rdA; rw [Nat.sub_zero, List.nil_append]⟩
  · rintro rec j s hj ⟨e, b, ls, i1, i2, i3, i4, i5, i6, i7, -, i8⟩ kk
    have T := tc_fl h i5
    rw [if_pos (nI_lt hj (by omega))]
    refine ok_cal (e_readLine T i1 i2.1 i2.2 hj i3 i4) ?_
    rintro r8 s9 ⟨F9, hc⟩
    have F9' := fl_trans i5 F9
    rw [show 16 - j = (15 - j) + 1 by omega, rdF] at i8
    rcases hc with ⟨c1, rfl, c2⟩ | ⟨c1, rfl, c2, c3, c4, c5, c6, c7⟩
    · rw [if_pos rfl]
      rw [if_neg c1] at i8
      refine ok_some ⟨F9', ?_, ?_⟩
      · rw [i8]
        dsimp only
        rw [if_neg c1]; exact c2
      · rw [i8]; dsimp only; intro w; exact absurd w c1
    · rw [if_neg b_10, nI_add, bd_s]
      rw [if_pos c1] at i8
      obtain ⟨o1, o2, o3⟩ := ln_ok i1 hl i2 c1
      have hs := tS_sp (tx := tx) o1 hl
      have F10 : Fl s9 (setI s9 6 5 (nI (j + 1))) := fl_6 fl_refl (by decide)
      have T10 : TC (setI s9 6 5 (nI (j + 1))) tx l := tc_fl (tc_fl h F9') F10
      refine ok_cal (e_nextToken T10 o1 (by rw [gsI_s, if_neg (by decide)]; exact c2)) ?_
      rintro u s11 ⟨d1, d2, d3⟩
      have F11 := fl_trans (fl_trans F9' F10) (fl_ft d3)
      have T11 := tc_ft T10 d3
      have e65 : s11.1 6 5 = nI (j + 1) := by rw [d3.2 5 (by decide) (by decide), gsI_s, if_pos rfl]
      have e64 : s11.1 6 4 = nI (lnR tx l e b).2.2.1 := by rw [d3.2 4 (by decide) (by decide), gsI_s, if_neg (by decide)]; exact c3
      have st : Sd s11 (ls ++ [lin (lnR tx l e b)]) := by
        intro i x hx
        have x8 : s11.1 8 = s9.1 8 := by rw [d3.1.1 8 (by decide), gsI_o (by decide)]
        have x9 : s11.1 9 = s9.1 9 := by rw [d3.1.1 9 (by decide), gsI_o (by decide)]
        have x10 : s11.1 10 = s9.1 10 := by rw [d3.1.1 10 (by decide), gsI_o (by decide)]
        rw [x8, x9, x10]
        rcases get_snoc.mp hx with a | ⟨a, rfl⟩
        · have := get_lt a
          obtain ⟨y1, y2, y3⟩ := c7 i (by omega)
          rw [y1, y2, y3]; exact i7 i x a
        · rw [a, i6]; dsimp only [lin]; exact ⟨c4, c5, c6⟩
      rw [d1, T11.l, e65]
      by_cases g : tS tx l (lnR tx l e b).2.1 = l
      · rw [if_pos g] at i8
        rw [g, if_neg (nI_nlt (Nat.le_refl _) (by omega))]
        refine ok_some ⟨F11, by rw [i8]; rfl, fun _ => ?_⟩
        rw [i8]
        exact ⟨by show s11.1 6 5 = _; rw [e65, List.length_append, i6]; rfl, st⟩
      · rw [if_neg g] at i8
        have hlt : tS tx l (lnR tx l e b).2.1 < l := by omega
        have hu := h.u _ hlt
        rw [if_pos (nI_lt hlt (by omega)), e_byteAt T11 (by omega), calP_s, if_pos hlt]
        by_cases g2 : tx (tS tx l (lnR tx l e b).2.1) = 59
        · rw [if_pos (by rw [g2])]
          by_cases g3 : j + 1 = 16
          · rw [if_pos (by rw [g3])]
            rw [if_neg (fun w => w.2 (by omega))] at i8
            refine ok_some ⟨F11, ?_, ?_⟩
            · rw [i8]
              dsimp only
              rw [if_neg (by omega)]
            · rw [i8]; intro w
              dsimp only at w
              omega
          · rw [if_neg (nI_ne (by omega) (by omega) g3)]
            rw [if_pos ⟨g2, by omega⟩] at i8
            refine kk _ ⟨_, _, ls ++ [lin (lnR tx l e b)], (rE_le o1 hl).2, o2, d2, e64, F11, by rw [List.length_append, i6]; rfl, st, by omega, ?_⟩
            rw [i8, show 16 - (j + 1) = 15 - j by omega, List.append_assoc]
            rfl
        · rw [if_neg (nI_ne (by omega) (by omega) g2)]
          rw [if_neg (fun w => g2 w.1)] at i8
          refine ok_some ⟨F11, ?_, ?_⟩
          · rw [i8]
            dsimp only
            rw [if_neg (by omega)]
          · rw [i8]; intro w
            dsimp only at w
            omega
  · rintro rec s ⟨e, b, ls, i1, i2, i3, i4, i5, i6, i7, i9, i8⟩
    exact absurd i9 (Nat.lt_irrefl _)
end LAY
