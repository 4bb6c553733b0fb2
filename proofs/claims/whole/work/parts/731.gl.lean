section GLS
variable {n k : Nat} {L : List (Nat × Nat × Nat)}
theorem gl_len (hk : k < 2) (h : GL n k L) : L.length ≤ 2816 := by
  rw [← h.cnt]
  refine Nat.le_trans (sm_le (g := fun q => if vkB k q = true then 1 else 0) (fun q => ?_) 16384) ?_
  · by_cases g : hasK L q = true
    · obtain ⟨x, h1, h2⟩ := has_iff.mp g
      rw [if_pos g, if_pos (by rw [← h2]; exact (h.vk x h1).1)]
      exact Nat.le_refl _
    · rw [if_neg g]; exact Nat.zero_le _
  · rw [show 16384 = 256 * 64 from rfl, sm_blk]
    exact vk_blk k hk
theorem gl_nil : GL n k [] := by
  refine ⟨fun x h => (by cases h), fun i j x y h => (by cases h), fun i x h => (by cases h), fun i x h => (by cases h), ?_⟩
  have : ∀ N, sm (fun q => if hasK [] q = true then 1 else 0) N = 0 := by
    intro N
    induction N with
    | zero => rfl
    | succ N ih => rw [sm, ih]; rfl
  exact this 16384
theorem gl_snoc (hk : k < 2) (h : GL n k L) {q p w : Nat} (he : endB L = false) (hh : hasK L q = false) (hv : vkB k q = true) (hV : Vr n (k + 1) (q / 256)) (hp : (p = 0 ∧ w = q / 256 ∧ w < 64) ∨ ∃ i y, p = i + 1 ∧ L[i]? = some y ∧ w = y.2.2 + 64) : GL n k (L ++ [(q, p, w)]) := by
  have nk : ∀ (i : Nat) (x : Nat × Nat × Nat), L[i]? = some x → x.1 ≠ q := fun i x hi e => by
    have : hasK L q = true := has_iff.mpr ⟨x, mem_get.mpr ⟨i, hi⟩, e⟩
    rw [hh] at this; cases this
  refine ⟨fun x hx => ?_, fun i j x y hi hj e => ?_, fun i x hi => ?_, fun i x hi hl => ?_, ?_⟩
  · rcases List.mem_append.mp hx with a | a
    · exact h.vk x a
    · rw [List.mem_singleton.mp a]; exact ⟨hv, hV⟩
  · rcases get_snoc.mp hi with a | ⟨a1, a2⟩ <;> rcases get_snoc.mp hj with b | ⟨b1, b2⟩
    · exact h.uq i j x y a b e
    · rw [b2] at e; exact absurd e (nk i x a)
    · rw [a2] at e; exact absurd e.symm (nk j y b)
    · omega
  · rcases get_snoc.mp hi with a | ⟨a1, a2⟩
    · rcases h.par i x a with b | ⟨p, y, b1, b2, b3, b4⟩
      · exact Or.inl b
      · exact Or.inr ⟨p, y, b1, b2, get_snoc.mpr (Or.inl b3), b4⟩
    · rw [a2]
      rcases hp with b | ⟨i', y, b1, b2, b3⟩
      · exact Or.inl b
      · exact Or.inr ⟨i', y, b1, by have := get_lt b2; omega, get_snoc.mpr (Or.inl b2), b3⟩
  · rw [List.length_append] at hl
    rcases get_snoc.mp hi with a | ⟨a1, a2⟩
    · by_cases q : i + 1 < L.length
      · exact h.mid i x a q
      · have := get_lt a
        exact end_not he (show L[L.length - 1]? = some x by rw [show L.length - 1 = i by omega]; exact a)
    · simp at hl; omega
  · rw [List.length_append, ← h.cnt]
    refine sm_pt (a := q) (fun z hz => ?_) ?_ 16384 (vk_lt hk hv)
    · rw [has_snoc, show decide ((q, p, w).1 = z) = false from decide_eq_false (fun e => hz e.symm), Bool.or_false]
    · rw [has_snoc, show decide ((q, p, w).1 = q) = true from decide_eq_true rfl, Bool.or_true, if_pos rfl, hh, if_neg (by decide)]
theorem gl_mt (hk : k < 2) (h : GL n k L) {q p w : Nat} (hv : vkB k q = true) (hV : Vr n (k + 1) (q / 256)) (hp : (p = 0 ∧ w = q / 256 ∧ w < 64) ∨ ∃ i y, p = i + 1 ∧ L[i]? = some y ∧ w = y.2.2 + 64) : GL n k (mtL L q p w) := by
  rcases mt_cases L q p w with ⟨e, -⟩ | ⟨e, h1, h2⟩
  · rw [e]; exact h
  · rw [e]; exact gl_snoc hk h h1 h2 hv hV hp
theorem gl_new (hk : k < 2) (h : GL n k L) {q : Nat} (he : endB L = false) (hh : hasK L q = false) (hv : vkB k q = true) (hV : Vr n (k + 1) (q / 256)) : L.length < 2816 := by
  by_cases e : L = []
  · rw [e]; decide
  · have := gl_len hk (gl_snoc hk h he hh hv hV (p := 0 + 1) (w := (L[0]'(List.length_pos_iff.mpr e)).2.2 + 64) (Or.inr ⟨0, _, rfl, List.getElem?_eq_getElem (List.length_pos_iff.mpr e), rfl⟩))
    rw [List.length_append] at this
    simp at this
    omega
theorem mt_pre {q p w : Nat} {i : Nat} {x : Nat × Nat × Nat} (h : L[i]? = some x) : (mtL L q p w)[i]? = some x := by
  rcases mt_cases L q p w with ⟨e, -⟩ | ⟨e, -⟩
  · rw [e]; exact h
  · rw [e]; exact get_snoc.mpr (Or.inl h)
theorem mt_end {q p w : Nat} (h : endB L = true) : mtL L q p w = L := by unfold mtL; rw [if_pos h]
end GLS
