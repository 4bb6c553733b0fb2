def apO (x : Nat × Nat × Nat) (z : Nat × (Nat → Nat)) : Nat × (Nat → Nat) := if x.1 = 2 then (x.2.1, rO x.2.1) else (z.1, if x.1 = 0 then sO (sO z.2 x.2.1 x.2.2 true) x.2.2 x.2.1 true else sO z.2 x.2.1 x.2.2 true)
def apL : List (Nat × Nat × Nat) → Nat × (Nat → Nat) → Nat × (Nat → Nat)
  | [], z => z
  | x :: ls, z => apL ls (apO x z)
section LAY2
variable {σ : St} {n c : Nat} {O : Nat → Nat}
theorem e_layOn {ls : List (Nat × Nat × Nat)} (hN : N0 σ n O) (hc : σ.1 1 1 = nI c) (h5 : σ.1 6 5 = nI ls.length) (hl : ls.length ≤ 16) (hS : Sd σ ls) (hV : VL n ls) : Ok (f_X7_layOn σ) (fun q => NC q.2 (apL ls (n, O)).1 (apL ls (n, O)).2 (c + 1) ∧ Fr (fun x => 1 ≤ x ∧ x ≤ 5) σ q.2) := by
  unfold f_X7_layOn
  rw [q_0, q_1, q_2, q_16]
  have fin : ∀ s, N0 s (apL ls (n, O)).1 (apL ls (n, O)).2 → s.1 1 1 = nI c → Fr (fun x => 1 ≤ x ∧ x ≤ 5) σ s → Ok (cal (f_X3_settle s) fun _ s10 => some ((), s10)) (fun q => NC q.2 (apL ls (n, O)).1 (apL ls (n, O)).2 (c + 1) ∧ Fr (fun x => 1 ≤ x ∧ x ≤ 5) σ q.2) := by
    intro s h1 h2 h3
    refine ok_cal (e_settle h1 h2) ?_
    rintro u s2 ⟨k1, k2⟩
    exact ok_some ⟨k1, fr_trans h3 (fr_mono k2 (fun x hx => by omega))⟩
  refine lo2_for (fun j s => ∃ z dn rest, ls = dn ++ rest ∧ dn.length = j ∧ N0 s z.1 z.2 ∧ s.1 1 1 = nI c ∧ VL z.1 rest ∧ apL rest z = apL ls (n, O) ∧ Fr (fun x => 1 ≤ x ∧ x ≤ 5) σ s) ls.length ?_ ?_ FU 0 _ (Nat.zero_le _) (fu_lt (by omega)) ⟨(n, O), [], ls, rfl, rfl, hN, hc, hV, rfl, fr_refl⟩
  · rintro rec j s hj ⟨z, dn, rest, i1, i2, i3, i4, i5, i6, i7⟩ kk
    have e65 : s.1 6 5 = nI ls.length := by rw [i7.1 6 (by omega)]; exact h5
    rw [e65, if_pos (nI_lt hj (by omega)), if_pos (nI_lt (show j < 16 by omega) (by omega)), y_ck _ (by omega) (by omega), nI_clamp (by omega)]
    cases rest with
    | nil =>
      rw [i1, List.append_nil] at hj
      omega
    | cons x rest =>
      have hx : ls[j]? = some x := by
        rw [i1, List.getElem?_append_right (by omega), i2, Nat.sub_self]; rfl
      obtain ⟨x8, x9, x10⟩ := hS j x hx
      have g8 : ∀ t, Fr (fun x => 1 ≤ x ∧ x ≤ 5) σ t → t.1 8 j = nI x.1 := fun t f => by rw [f.1 8 (by omega)]; exact x8
      have g9 : ∀ t, Fr (fun x => 1 ≤ x ∧ x ≤ 5) σ t → t.1 9 j = nI x.2.1 := fun t f => by rw [f.1 9 (by omega)]; exact x9
      rw [jn1, g8 s i7, g9 s i7]
      dsimp only
      have e2 : ls = (dn ++ [x]) ++ rest := by rw [i1, List.append_assoc]; rfl
      have hl2 : (dn ++ [x]).length = j + 1 := by rw [List.length_append, i2]; rfl
      rw [VL] at i5
      rcases i5 with ⟨v1, v2, v3, v4⟩ | ⟨v1, v2, v3, v4, v5⟩
      · rw [v1, if_pos rfl, y_ck _ (by omega) (by omega)]
        refine ok_cal (e_reset v2 v3 i3.z4 i3.z5) ?_
        rintro u s8 ⟨k1, k2, k3⟩
        have F8 : Fr (fun x => 1 ≤ x ∧ x ≤ 5) σ s8 := fr_trans i7 (fr_mono k3 (fun x hx => by omega))
        rw [y_ck _ (by omega) (by omega), g8 s8 F8, v1, if_neg (show ¬ nI 2 = nI 0 by decide), nI_add]
        refine kk _ ⟨(x.2.1, rO x.2.1), dn ++ [x], rest, e2, hl2, k1, k2.trans i4, v4, ?_, F8⟩
        rw [← i6, apL, apO, if_pos v1]
      · have hne : ¬ x.1 = 2 := by omega
        have h8 := i3.np.h8
        have g10 : ∀ t, Fr (fun x => 1 ≤ x ∧ x ≤ 5) σ t → t.1 10 j = nI x.2.2 := fun t f => by rw [f.1 10 (by omega)]; exact x10 hne
        rw [if_neg (nI_ne (by omega) (by omega) hne), y_ck _ (by omega) (by omega), y_ck _ (by omega) (by omega), g10 s i7]
        refine ok_cal (e_set i3 v2 v3 v4 true) ?_
        rintro u s9 ⟨k1, k2⟩
        have F9 : Fr (fun x => 1 ≤ x ∧ x ≤ 5) σ s9 := fr_trans i7 (fr_mono k2 (fun x hx => by omega))
        have c9 : s9.1 1 1 = nI c := by rw [k2.1 1 (by omega)]; exact i4
        rw [y_ck _ (by omega) (by omega), g8 s9 F9]
        by_cases h0 : x.1 = 0
        · rw [h0, if_pos rfl, y_ck _ (by omega) (by omega), y_ck _ (by omega) (by omega), g9 s9 F9, g10 s9 F9]
          refine ok_cal (e_set k1 v3 v2 (fun w => v4 w.symm) true) ?_
          rintro u s7 ⟨m1, m2⟩
          have F7 : Fr (fun x => 1 ≤ x ∧ x ≤ 5) σ s7 := fr_trans F9 (fr_mono m2 (fun x hx => by omega))
          rw [nI_add]
          refine kk _ ⟨(z.1, sO (sO z.2 x.2.1 x.2.2 true) x.2.2 x.2.1 true), dn ++ [x], rest, e2, hl2, m1, by rw [m2.1 1 (by omega)]; exact c9, v5, ?_, F7⟩
          rw [← i6, apL, apO, if_neg hne, if_pos h0]
        · rw [if_neg (nI_ne (by omega) (by omega) h0), nI_add]
          refine kk _ ⟨(z.1, sO z.2 x.2.1 x.2.2 true), dn ++ [x], rest, e2, hl2, k1, c9, v5, ?_, F9⟩
          rw [← i6, apL, apO, if_neg hne, if_neg h0]
  · rintro rec s ⟨z, dn, rest, i1, i2, i3, i4, i5, i6, i7⟩
    have e65 : s.1 6 5 = nI ls.length := by rw [i7.1 6 (by omega)]; exact h5
    rw [e65, if_neg (nI_nlt (Nat.le_refl _) (by omega))]
    have hr : rest = [] := by
      have := congrArg List.length i1
      rw [List.length_append, i2] at this
      exact List.eq_nil_of_length_eq_zero (by omega)
    subst hr
    have : z = apL ls (n, O) := i6
    rw [this] at i3
    exact fin s i3 i4 i7
end LAY2
