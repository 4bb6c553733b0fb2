section LAIDM
variable {σ : St} {tx : Nat → Nat} {l : Nat}
def Sm (s : St) (ls : List (Nat × Nat × Nat)) : Prop := ∀ (i : Nat) (x : Nat × Nat × Nat), ls[i]? = some x → s.1 103 (3 * i) = nI x.1 ∧ s.1 103 (3 * i + 1) = nI x.2.1 ∧ (x.1 ≠ 2 → s.1 103 (3 * i + 2) = nI x.2.2)
theorem m_isRead (h : TM σ tx l) {n : Nat} (hn : 1 ≤ n ∧ n ≤ 8) (h0 : σ.1 100 0 = nI n) : Ok (f_X10_isRead σ) (fun q => Fm c103 rk σ q.2 ∧ ((rdA tx l n).1 = 999 → q.1 = nI 1 ∧ q.2.1 100 11 = nI (rdA tx l n).2.length ∧ Sm q.2 (rdA tx l n).2) ∧ ((rdA tx l n).1 ≠ 999 → q.1 = nI 0 ∧ q.2.1 100 9 = nI (rdA tx l n).1)) := by
  have hl := h.h
  unfold f_X10_isRead
  rw [bd_s, bd_s, gsI_s, if_neg (by decide), gsI_s, if_neg (by decide), h0, bd_s, q_0, q_1, q_3, q_16]
  refine lo2_ct (fun jj s go => ∃ e b ls j, jj = j ∧ e ≤ l ∧ (1 ≤ b ∧ b ≤ 8) ∧ s.1 100 10 = nI b ∧ Fm c103 rk σ s ∧ ls.length = j ∧ s.1 100 11 = nI j ∧ Sm s ls ∧ j ≤ 16 ∧ ((go = nI 1 ∧ j < 16 ∧ s.1 100 4 = nI e ∧ rdA tx l n = ((rdF tx l (16 - j) e b).1, ls ++ (rdF tx l (16 - j) e b).2)) ∨ (go = nI 0 ∧ s.2 100 6 = tkV tx l e ∧ s.1 100 5 = nI (tS tx l e) ∧ rdA tx l n = (if tS tx l e = l then 999 else tS tx l e, ls)))) 17 ?_ (fun jj a0 a1 hh w => by obtain ⟨e, b, ls, j, w1, w2, w3, w4, w5, w6, w7, w8, w9, w10⟩ := w; omega) FU 0 _ _ (by decide) ⟨0, n, [], 0, rfl, Nat.zero_le _, hn, by rw [gsI_s, if_pos rfl], fm_set (fm_set (fm_set fm_refl (by unfold rk; omega)) (by unfold rk; omega)) (by unfold rk; omega), rfl, by rw [gsI_s, if_neg (by decide), gsI_s, if_pos rfl], fun i x hx => (by cases hx), by decide, Or.inl ⟨rfl, by decide, by rw [gsI_s, if_neg (by decide), gsI_s, if_neg (by decide), gsI_s, if_pos rfl], by unfold rdA; rw [Nat.sub_zero, List.nil_append]⟩⟩
  rintro rec j s go ⟨e, b, ls, _, rfl, i1, i2, i3, i4, i5, i6, i7, i8, hc⟩ kk
  have T := tm_rk h i4
  rcases hc with ⟨rfl, c1, c2, c3⟩ | ⟨rfl, c1, c2, c3⟩
  · rw [if_neg b_10, i6, pk_mul]
    refine ok_cal (m_isLine T i1 i2.1 i2.2 c1 c2 i3) ?_
    rintro r10 s11 ⟨F11, z11, hd⟩
    have F11' := fm_trans i4 F11
    rw [show 16 - j = (15 - j) + 1 by omega, rdF] at c3
    rcases hd with ⟨d1, rfl, d2⟩ | ⟨d1, rfl, d2, d3, d4, d5, d6, d7⟩
    · rw [if_pos rfl]
      rw [if_neg d1] at c3
      refine ok_some ⟨F11', fun w => ?_, fun _ => ⟨rfl, ?_⟩⟩
      · rw [c3] at w; dsimp only at w; exact absurd w d1
      · rw [c3]; dsimp only; exact d2
    · rw [if_neg b_10, show s11.1 100 11 = nI j from z11.trans i6, nI_add, bd_s]
      rw [if_pos d1] at c3
      obtain ⟨o1, o2, o3⟩ := ln_ok i1 hl i2 d1
      have hs := tS_sp (tx := tx) o1 hl
      have F12 : Fm c103 rk σ (setI s11 100 11 (nI (j + 1))) := fm_set F11' (by unfold rk; omega)
      have T12 := tm_rk h F12
      refine ok_cal (m_nextToken T12 o1 (by rw [gsI_s, if_neg (by decide)]; exact d2)) ?_
      rintro u s13 ⟨f1, f2, f3, f4, f5⟩
      have F13 := fm_trans F12 (fm_tk f5)
      have e11 : s13.1 100 11 = nI (j + 1) := (f5.2.1 11 (by unfold tk5; omega)).trans (by rw [gsI_s, if_pos rfl])
      have e10 : s13.1 100 10 = nI (lnR tx l e b).2.2.1 := (f5.2.1 10 (by unfold tk5; omega)).trans (by rw [gsI_s, if_neg (by decide)]; exact d3)
      have e103 : s13.1 103 = s11.1 103 := (f5.1.1 103 (fun w => w.elim (by decide) id)).trans (gsI_o (by decide))
      replace f3 : s13.2 100 6 = tkV tx l (lnR tx l e b).2.1 := f3
      have st : Sm s13 (ls ++ [lin (lnR tx l e b)]) := by
        intro i x hx
        rw [e103]
        rcases get_snoc.mp hx with a | ⟨a, rfl⟩
        · have hlt := get_lt a
          obtain ⟨y1, y2, y3⟩ := i7 i x a
          refine ⟨(d7 _ (by omega)).trans y1, (d7 _ (by omega)).trans y2, fun w => (d7 _ (by omega)).trans (y3 w)⟩
        · rw [a, i5]; dsimp only [lin]; exact ⟨d4, d5, d6⟩
      rw [f3, e11]
      have hll : (ls ++ [lin (lnR tx l e b)]).length = j + 1 := by rw [List.length_append, i5]; rfl
      by_cases g3 : tS tx l (lnR tx l e b).2.1 ≠ l ∧ tx (tS tx l (lnR tx l e b).2.1) = 59
      · rw [if_pos ((tk_semi o1 hl).mpr g3)]
        rw [if_neg g3.1] at c3
        by_cases g16 : j + 1 < 16
        · rw [if_pos (nI_lt g16 (by omega))]
          rw [if_pos ⟨g3.2, by omega⟩] at c3
          refine kk _ _ ⟨_, _, ls ++ [lin (lnR tx l e b)], j + 1, rfl, (rE_le o1 hl).2, o2, e10, F13, hll, e11, st, by omega, Or.inl ⟨rfl, g16, f1, ?_⟩⟩
          rw [c3, show 16 - (j + 1) = 15 - j by omega, List.append_assoc]
          rfl
        · rw [if_neg (nI_nlt (by omega) (by omega))]
          rw [if_neg (fun w => w.2 (by omega))] at c3
          exact kk _ _ ⟨_, _, ls ++ [lin (lnR tx l e b)], j + 1, rfl, o1, o2, e10, F13, hll, e11, st, by omega, Or.inr ⟨rfl, f3, f2, by rw [c3, if_neg g3.1]⟩⟩
      · rw [if_neg (fun w => g3 ((tk_semi o1 hl).mp w))]
        refine kk _ _ ⟨_, _, ls ++ [lin (lnR tx l e b)], j + 1, rfl, o1, o2, e10, F13, hll, e11, st, by omega, Or.inr ⟨rfl, f3, f2, ?_⟩⟩
        rw [c3]
        by_cases g : tS tx l (lnR tx l e b).2.1 = l
        · rw [if_pos g, if_pos g]
        · rw [if_neg g, if_neg g, if_neg (fun w => g3 ⟨g, w.1⟩)]
  · rw [if_pos rfl, c1]
    have hs := tS_sp (tx := tx) i1 hl
    by_cases g : tS tx l e = l
    · rw [if_pos ((tk_end i1 hl).mpr g)]
      rw [if_pos g] at c3
      refine ok_some ⟨i4, fun _ => ⟨rfl, ?_, ?_⟩, fun w => ?_⟩
      · rw [c3, i5]; exact i6
      · rw [c3]; exact i7
      · rw [c3] at w; exact absurd rfl w
    · rw [if_neg (fun w => g ((tk_end i1 hl).mp w)), e_fails c2, cal_s, if_pos rfl]
      rw [if_neg g] at c3
      refine ok_some ⟨fm_set i4 (by unfold rk; omega), fun w => ?_, fun _ => ⟨rfl, ?_⟩⟩
      · rw [c3] at w
        dsimp only at w
        omega
      · rw [c3, gsI_s, if_pos rfl]
end LAIDM
