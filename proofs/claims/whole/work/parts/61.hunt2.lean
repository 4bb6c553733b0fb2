/-! hunt, of the class -/
section HUNT2
variable {σ : St} {n c k s i sp : Nat} {O : Nat → Nat} {lv : Nat → Nat → Nat}
theorem e_bestMove (hx : CX σ n O c i sp) (h : HL n O (i / 3) sp lv) (hc : CT σ n O i sp) {r p : Nat} (hr : Vr n (i / 3 + 1) r) (hp : p < n) : Ok (f_X0_bestMove σ i (nI r) (nI p)) (fun x => ∃ out, x = nI out ∧ HM n O sp (i / 3) lv p r (8 ^ (i / 3 + 1)) out) := by
  have hk : i / 3 < 3 := by have := hx.hi; omega
  have h512 := p8_le (i / 3) hk
  have hsz := (hx.st (i / 3) hk).2.1
  have hsl : ∀ x, x < 8 ^ (i / 3 + 1) → srt (i / 3 + 1) x < 8 ^ (i / 3 + 1) := fun x q => srt_lt (by omega) (by omega) q
  unfold f_X0_bestMove f_X6_size
  rw [e_rising hx.st hk hr.1, calP_s, q_0, q_1048576]
  refine lo3_for (fun j x y => ∃ out, x = nI out ∧ out < 8 ^ (i / 3 + 1) ∧ ((y = nI 1048576 ∧ out = srt (i / 3 + 1) r ∧ ∀ x, x < j → stB O (i / 3) r x (i / 3 + 1) = true → rs n O sp (i / 3 + 1) lv p x = 1048576) ∨ ∃ x, x < j ∧ y = nI (rs n O sp (i / 3 + 1) lv p x) ∧ stB O (i / 3) r x (i / 3 + 1) = true ∧ rs n O sp (i / 3 + 1) lv p x < 1048576 ∧ out = srt (i / 3 + 1) x ∧ ∀ y, y < j → stB O (i / 3) r y (i / 3 + 1) = true → rs n O sp (i / 3 + 1) lv p x < rs n O sp (i / 3 + 1) lv p y ∨ rs n O sp (i / 3 + 1) lv p x = rs n O sp (i / 3 + 1) lv p y ∧ srt (i / 3 + 1) x ≤ srt (i / 3 + 1) y)) (8 ^ (i / 3 + 1)) ?_ ?_ FU 0 _ _ (Nat.zero_le _) (fu_lt (by omega)) ⟨_, rfl, hsl r hr.1, Or.inl ⟨rfl, rfl, fun x hx => by omega⟩⟩
  · rintro rec z x y hz ⟨out, rfl, ho, hI⟩ kk
    rw [hsz, calP_s, if_pos (nI_lt hz (by omega)), e_canStep hx.st hx.nc.z hk hr.1 hz, calP_s, q_1, nI_add]
    cases hb : stB O (i / 3) r z (i / 3 + 1) with
    | false =>
      rw [if_pos (show nI false.toNat = nI 0 from rfl)]
      refine kk _ _ ⟨out, rfl, ho, ?_⟩
      rcases hI with ⟨g1, g2, g3⟩ | ⟨a, a1, a2, a3, a4, a5, a6⟩
      · refine Or.inl ⟨g1, g2, fun w hw hs => ?_⟩
        rcases Nat.lt_succ_iff_lt_or_eq.mp hw with e | rfl
        · exact g3 w e hs
        · rw [hb] at hs; cases hs
      · refine Or.inr ⟨a, by omega, a2, a3, a4, a5, fun w hw hs => ?_⟩
        rcases Nat.lt_succ_iff_lt_or_eq.mp hw with e | rfl
        · exact a6 w e hs
        · rw [hb] at hs; cases hs
    | true =>
      have hV := st_vr hx.nc.np hk hz hb
      have hle := rs_le (p := p) h hV
      have hsz2 := hsl z hz
      rw [if_neg (show ¬ nI true.toNat = nI 0 by decide)]
      refine e_rest hx h hc hV hp ?_
      rw [e_rising hx.st hk hz, calP_s]
      have take : (∀ w, w < z → stB O (i / 3) r w (i / 3 + 1) = true → rs n O sp (i / 3 + 1) lv p z < rs n O sp (i / 3 + 1) lv p w ∨ rs n O sp (i / 3 + 1) lv p z = rs n O sp (i / 3 + 1) lv p w ∧ srt (i / 3 + 1) z ≤ srt (i / 3 + 1) w) → rs n O sp (i / 3 + 1) lv p z < 1048576 → Ok (rec (nI (srt (i / 3 + 1) z)) (nI (rs n O sp (i / 3 + 1) lv p z)) (nI (z + 1))) (fun x => ∃ out, x = nI out ∧ HM n O sp (i / 3) lv p r (8 ^ (i / 3 + 1)) out) := fun hw hlt => kk _ _ ⟨_, rfl, hsz2, Or.inr ⟨z, by omega, rfl, hb, hlt, rfl, fun w h1 hs => by
          rcases Nat.lt_succ_iff_lt_or_eq.mp h1 with e | rfl
          · exact hw w e hs
          · exact Or.inr ⟨rfl, Nat.le_refl _⟩⟩⟩
      rcases hI with ⟨rfl, g2, g3⟩ | ⟨a, a1, rfl, a3, a4, rfl, a6⟩
      · by_cases q : rs n O sp (i / 3 + 1) lv p z < 1048576
        · rw [if_pos (nI_lt q (by omega))]
          exact take (fun w hw hs => Or.inl (by rw [g3 w hw hs]; exact q)) q
        · have qe : rs n O sp (i / 3 + 1) lv p z = 1048576 := by omega
          have hkeep : Ok (rec (nI out) (nI 1048576) (nI (z + 1))) (fun x => ∃ out, x = nI out ∧ HM n O sp (i / 3) lv p r (8 ^ (i / 3 + 1)) out) := kk _ _ ⟨out, rfl, ho, Or.inl ⟨rfl, g2, fun w hw hs => by
            rcases Nat.lt_succ_iff_lt_or_eq.mp hw with e | rfl
            · exact g3 w e hs
            · exact qe⟩⟩
          rw [qe, if_neg (nI_nlt (Nat.le_refl _) (by omega)), if_pos rfl, if_neg (nI_nlt (Nat.le_refl _) (by omega))]
          exact hkeep
      · have hVa := st_vr hx.nc.np hk (show a < 8 ^ (i / 3 + 1) by omega) a3
        have hkeep : (rs n O sp (i / 3 + 1) lv p a < rs n O sp (i / 3 + 1) lv p z ∨ rs n O sp (i / 3 + 1) lv p a = rs n O sp (i / 3 + 1) lv p z ∧ srt (i / 3 + 1) a ≤ srt (i / 3 + 1) z) → Ok (rec (nI (srt (i / 3 + 1) a)) (nI (rs n O sp (i / 3 + 1) lv p a)) (nI (z + 1))) (fun x => ∃ out, x = nI out ∧ HM n O sp (i / 3) lv p r (8 ^ (i / 3 + 1)) out) := fun hz' => kk _ _ ⟨_, rfl, ho, Or.inr ⟨a, by omega, rfl, a3, a4, rfl, fun w h1 hs => by
            rcases Nat.lt_succ_iff_lt_or_eq.mp h1 with e | rfl
            · exact a6 w e hs
            · exact hz'⟩⟩
        by_cases q : rs n O sp (i / 3 + 1) lv p z < rs n O sp (i / 3 + 1) lv p a
        · rw [if_pos (nI_lt q (by omega))]
          exact take (fun w hw hs => by have := a6 w hw hs; omega) (by omega)
        · rw [if_neg (nI_nlt (by omega) (by omega))]
          by_cases q2 : rs n O sp (i / 3 + 1) lv p z = rs n O sp (i / 3 + 1) lv p a
          · rw [if_pos (by rw [q2]), if_pos (nI_lt (by omega) (by omega))]
            by_cases q3 : srt (i / 3 + 1) z < srt (i / 3 + 1) a
            · rw [if_pos (nI_lt q3 (by omega))]
              exact take (fun w hw hs => by have := a6 w hw hs; omega) (by omega)
            · rw [if_neg (nI_nlt (by omega) (by omega))]
              exact hkeep (by omega)
          · rw [if_neg (fun e => q2 ((nI_eq (by omega) (by omega)).mp e))]
            exact hkeep (by omega)
  · rintro rec x y ⟨out, rfl, ho, hI⟩
    rw [hsz, calP_s, if_neg (nI_nlt (Nat.le_refl _) (by omega))]
    refine ok_some ⟨out, rfl, ?_⟩
    rcases hI with ⟨-, g2, g3⟩ | ⟨a, a1, -, a3, a4, a5, a6⟩
    · exact Or.inl ⟨g2, g3⟩
    · exact Or.inr ⟨a, a1, a3, a4, a5, a6⟩
end HUNT2
