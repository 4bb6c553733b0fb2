theorem y_bl (v : Int32) : (if v = nI 0 then nI 0 else nI 1) = nI (!decide (v = nI 0)).toNat := by
  by_cases h : v = nI 0
  · rw [if_pos h, decide_eq_true h]; rfl
  · rw [if_neg h, decide_eq_false h]; rfl
theorem l_out {L i : Nat} (hL : L ≤ 2560) (hi : i ≤ L) (h : ¬ nI L - nI 5 < nI i) : i + 5 ≤ L := by
  by_cases h5 : 5 ≤ L
  · rw [pk_sub h5] at h
    by_cases e : L - 5 < i
    · exact absurd (nI_lt e (by omega)) h
    · omega
  · exfalso
    have hA : L = 0 ∨ L = 1 ∨ L = 2 ∨ L = 3 ∨ L = 4 := by omega
    have hB : i = 0 ∨ i = 1 ∨ i = 2 ∨ i = 3 ∨ i = 4 := by omega
    clear hL hi h5
    revert h
    rcases hA with rfl | rfl | rfl | rfl | rfl <;> rcases hB with rfl | rfl | rfl | rfl | rfl <;> decide
theorem pure_law : ∀ (xs : Nat → Int32) (L : Nat), L ≤ 2560 → f_law xs L σ0 = some () := by
  intro xs L hL
  suffices hq : Ok (f_law xs L σ0) (fun _ => True) by
    obtain ⟨u, e, -⟩ := hq
    exact e
  unfold f_law
  refine first (fun _ => 0) ?_
  intro s4 i4
  refine lo2_ok (fun s x => ∃ i n O c tx l p, x = nI i ∧ i ≤ L ∧ c ≤ 1 + i ∧ Inv s n O c tx l p) (fun _ x => L - x.toNatClampNeg) ?_ FU s4 _ ⟨0, _, _, _, _, _, _, q_0, by omega, by omega, i4⟩ (fu_lt (by omega))
  rintro rec s x ⟨i, n, O, c, tx, l, p, rfl, hi, hci, hI⟩ kk
  rw [q_5]
  by_cases h : nI L - nI 5 < nI i
  · rw [if_pos h]; exact ok_some trivial
  have h5 := l_out hL hi h
  have hc : c < 100000 := by omega
  have go : ∀ t n' O' c' tx' l' p', c' ≤ c + 1 → Inv t n' O' c' tx' l' p' → Ok (rec t (nI (i + 5))) (fun _ => True) := fun t n' O' c' tx' l' p' hc' ht => kk t _ ⟨i + 5, n', O', c', tx', l', p', rfl, h5, by omega, ht⟩ (by rw [nI_clamp (by omega), nI_clamp (by omega)]; omega)
  rw [if_neg h, y_ck _ (show i < L by omega) (by omega), nI_add]
  generalize xs (nI i).toNatClampNeg &&& 31 = op
  by_cases e0 : op = 0
  · rw [if_pos e0]
    simp (disch := omega) only [q_0, q_1, q_2, q_3, q_4, bd_s, nI_add, y_ck, y_bl]
    exact st_write hI _ _ (fun t a b ht => go t _ _ _ _ _ _ (by omega) ht)
  rw [if_neg e0]
  by_cases e1 : op = 1
  · rw [if_pos e1]
    exact st_erase hI  (fun t a b ht => go t _ _ _ _ _ _ (by omega) ht)
  rw [if_neg e1]
  by_cases e2 : op = 2
  · rw [if_pos e2]
    exact st_fault hI  (fun t ht => go t _ _ _ _ _ _ (by omega) ht)
  rw [if_neg e2]
  by_cases e3 : op = 3
  · rw [if_pos e3]
    exact st_laid hI hc  (fun t a b d e f hd ht => go t _ _ _ _ _ _ (by omega) ht)
  rw [if_neg e3]
  by_cases e4 : op = 4
  · rw [if_pos e4]
    simp (disch := omega) only [q_0, q_1, q_2, q_3, q_4, bd_s, nI_add, y_ck, y_bl]
    exact st_road hI hc _ _ _ _ (fun t a b d hd ht => go t _ _ _ _ _ _ (by omega) ht)
  rw [if_neg e4]
  by_cases e5 : op = nI 5
  · rw [if_pos e5]
    simp (disch := omega) only [q_0, q_1, q_2, q_3, q_4, bd_s, nI_add, y_ck, y_bl]
    exact st_steps hI _ (go s _ _ _ _ _ _ (by omega) hI)
  rw [if_neg e5]
  by_cases e6 : op = 6
  · rw [if_pos e6]
    simp (disch := omega) only [q_0, q_1, q_2, q_3, q_4, bd_s, nI_add, y_ck, y_bl]
    exact st_far hI _ _ (go s _ _ _ _ _ _ (by omega) hI)
  rw [if_neg e6]
  by_cases e7 : op = 7
  · rw [if_pos e7]
    simp (disch := omega) only [q_0, q_1, q_2, q_3, q_4, bd_s, nI_add, y_ck, y_bl]
    exact st_rounds hI hc _ _ _ _ (fun t ht => go t _ _ _ _ _ _ (by omega) ht)
  rw [if_neg e7]
  by_cases e8 : op = 8
  · rw [if_pos e8]
    simp (disch := omega) only [q_0, q_1, q_2, q_3, q_4, bd_s, nI_add, y_ck, y_bl]
    exact st_worth hI hc _ _ _ (fun t ht => go t _ _ _ _ _ _ (by omega) ht)
  rw [if_neg e8]
  by_cases e9 : op = 9
  · rw [if_pos e9]
    simp (disch := omega) only [q_0, q_1, q_2, q_3, q_4, bd_s, nI_add, y_ck, y_bl]
    exact st_best hI hc _ _ _ (fun t ht => go t _ _ _ _ _ _ (by omega) ht)
  rw [if_neg e9]
  by_cases e10 : op = 10
  · rw [if_pos e10]
    simp (disch := omega) only [q_0, q_1, q_2, q_3, q_4, bd_s, nI_add, y_ck, y_bl]
    exact st_fewest hI hc _ (fun t ht => go t _ _ _ _ _ _ (by omega) ht)
  rw [if_neg e10]
  by_cases e11 : op = 11
  · rw [if_pos e11]
    simp (disch := omega) only [q_0, q_1, q_2, q_3, q_4, bd_s, nI_add, y_ck, y_bl]
    exact st_escapes hI hc _ _ (fun t ht => go t _ _ _ _ _ _ (by omega) ht)
  rw [if_neg e11]
  by_cases e12 : op = 12
  · rw [if_pos e12]
    simp (disch := omega) only [q_0, q_1, q_2, q_3, q_4, bd_s, nI_add, y_ck, y_bl]
    exact st_hunt hI hc _ _ _ _ (fun t ht => go t _ _ _ _ _ _ (by omega) ht)
  rw [if_neg e12]
  by_cases e13 : op = 13
  · rw [if_pos e13]
    simp (disch := omega) only [q_0, q_1, q_2, q_3, q_4, bd_s, nI_add, y_ck, y_bl]
    exact st_flee hI hc _ _ _ _ (fun t ht => go t _ _ _ _ _ _ (by omega) ht)
  rw [if_neg e13]
  by_cases e14 : op = 14
  · rw [if_pos e14]
    simp (disch := omega) only [q_0, q_1, q_2, q_3, q_4, bd_s, nI_add, y_ck, y_bl]
    exact st_play hI _ _ _ _ (fun t a ht => go t _ _ _ _ _ _ (by omega) ht)
  rw [if_neg e14]
  by_cases e15 : op = 15
  · rw [if_pos e15]
    simp (disch := omega) only [q_0, q_1, q_2, q_3, q_4, bd_s, nI_add, y_ck, y_bl]
    exact st_turn hI hc _ _ (fun t a ht => go t _ _ _ _ _ _ (by omega) ht)
  rw [if_neg e15]
  by_cases e16 : op = 16
  · rw [if_pos e16]
    simp (disch := omega) only [q_0, q_1, q_2, q_3, q_4, bd_s, nI_add, y_ck, y_bl]
    exact st_now hI _ (fun t ht => go t _ _ _ _ _ _ (by omega) ht)
  rw [if_neg e16]
  by_cases e17 : op = 17
  · rw [if_pos e17]
    simp (disch := omega) only [q_0, q_1, q_2, q_3, q_4, bd_s, nI_add, y_ck, y_bl]
    exact st_spread hI _ _ _ (fun t ht => go t _ _ _ _ _ _ (by omega) ht)
  rw [if_neg e17]
  by_cases e18 : op = 18
  · rw [if_pos e18]
    simp (disch := omega) only [q_0, q_1, q_2, q_3, q_4, bd_s, nI_add, y_ck, y_bl]
    exact st_clear hI _ _ _ (fun t ht => go t _ _ _ _ _ _ (by omega) ht)
  rw [if_neg e18]
  by_cases e19 : op = 19
  · rw [if_pos e19]
    simp (disch := omega) only [q_0, q_1, q_2, q_3, q_4, bd_s, nI_add, y_ck, y_bl]
    exact st_free hI _ _ (fun t ht => go t _ _ _ _ _ _ (by omega) ht)
  rw [if_neg e19]
  by_cases e20 : op = 20
  · rw [if_pos e20]
    simp (disch := omega) only [q_0, q_1, q_2, q_3, q_4, bd_s, nI_add, y_ck, y_bl]
    exact st_flying hI _ _ (fun t ht => go t _ _ _ _ _ _ (by omega) ht)
  rw [if_neg e20]
  by_cases e21 : op = 21
  · rw [if_pos e21]
    simp (disch := omega) only [q_0, q_1, q_2, q_3, q_4, bd_s, nI_add, y_ck, y_bl]
    exact st_away hI _ (fun t ht => go t _ _ _ _ _ _ (by omega) ht)
  rw [if_neg e21]
  by_cases e22 : op = 22
  · rw [if_pos e22]
    simp (disch := omega) only [q_0, q_1, q_2, q_3, q_4, bd_s, nI_add, y_ck, y_bl]
    exact st_least hI _ (go s _ _ _ _ _ _ (by omega) hI)
  rw [if_neg e22]
  by_cases e23 : op = 23
  · rw [if_pos e23]
    simp (disch := omega) only [q_0, q_1, q_2, q_3, q_4, bd_s, nI_add, y_ck, y_bl]
    exact st_safe hI _ _ (fun t ht => go t _ _ _ _ _ _ (by omega) ht)
  rw [if_neg e23]
  by_cases e24 : op = 24
  · rw [if_pos e24]
    simp (disch := omega) only [q_0, q_1, q_2, q_3, q_4, bd_s, nI_add, y_ck, y_bl]
    exact st_guards hI _ _ (fun t ht => go t _ _ _ _ _ _ (by omega) ht)
  rw [if_neg e24]
  by_cases e25 : op = 25
  · rw [if_pos e25]
    simp (disch := omega) only [q_0, q_1, q_2, q_3, q_4, bd_s, nI_add, y_ck, y_bl]
    exact st_answer hI _ _ _ (fun t ht => go t _ _ _ _ _ _ (by omega) ht)
  rw [if_neg e25]
  by_cases e26 : op = 26
  · rw [if_pos e26]
    simp (disch := omega) only [q_0, q_1, q_2, q_3, q_4, bd_s, nI_add, y_ck, y_bl]
    exact st_count hI _ (go s _ _ _ _ _ _ (by omega) hI)
  rw [if_neg e26]
  exact go s _ _ _ _ _ _ (by omega) hI
