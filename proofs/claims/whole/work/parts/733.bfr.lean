section BFR
variable {n k : Nat} {O : Nat → Nat} {P : Nat → Bool}
theorem rt_ok (h : NP n O) (hk : k < 2) (hP : ∀ r, r < 8 ^ (k + 1) → P r = true → Sg n (k + 1) r) : ∀ m, m ≤ 8 ^ (k + 1) → (endB (rtL n k P m) = false ∧ GL n k (rtL n k P m) ∧ (∀ (a b : Nat) (x y : Nat × Nat × Nat), (rtL n k P m)[a]? = some x → (rtL n k P m)[b]? = some y → a ≤ b → x.2.2 ≤ y.2.2) ∧ (∀ x, x ∈ rtL n k P m → x.2.2 < m ∧ ∃ t, RW n O k P t x.2.2 x.1) ∧ ∀ r, r < m → P r = true → ∃ y, y ∈ rtL n k P m ∧ y.1 = rky n k r ∧ y.2.2 ≤ r) ∨ EN n O k P (rtL n k P m) := by
  intro m
  have h64 := p82 k hk
  induction m with
  | zero => intro _; exact Or.inl ⟨rfl, gl_nil, fun a b x y e => (by cases e), fun x e => (by cases e), fun r hr => absurd hr (Nat.not_lt_zero _)⟩
  | succ m ih =>
    intro hm
    rw [rtL]
    rcases ih (by omega) with ⟨h1, h2, h3, h4, h5⟩ | h1
    · by_cases hp : P m = true
      · rw [if_pos hp]
        have sg := hP m (by omega) hp
        obtain ⟨v1, v2⟩ := rky_vk h sg
        have hR : ∃ t, RW n O k P t m (rky n k m) := ⟨0, m, by omega, hp, rfl, rfl⟩
        rcases mt_cases (rtL n k P m) (rky n k m) 0 m with ⟨e, e1 | e1⟩ | ⟨e, e1, e2⟩
        · rw [h1] at e1; cases e1
        · rw [e]
          obtain ⟨x, k1, k2⟩ := has_iff.mp e1
          refine Or.inl ⟨h1, h2, h3, fun x hx => ⟨by have := (h4 x hx).1; omega, (h4 x hx).2⟩, fun r hr hpr => ?_⟩
          rcases Nat.lt_succ_iff_lt_or_eq.mp hr with g | rfl
          · exact h5 r g hpr
          · exact ⟨x, k1, k2, Nat.le_of_lt (h4 x k1).1⟩
        · rw [e]
          have hg := gl_snoc hk h2 e1 e2 v1 v2 (p := 0) (w := m) (Or.inl ⟨rfl, (rky_div m h).symm, by omega⟩)
          by_cases g : rky n k m % 256 = 0
          · refine Or.inr (en_snoc hk hg g hR (fun t' w' q' hw hq => ?_))
            cases t' with
            | zero =>
              obtain ⟨r, r1, r2, rfl, rfl⟩ := hw
              rcases Nat.lt_or_ge w' m with q | q
              · obtain ⟨y, y1, y2, -⟩ := h5 w' q r2
                rw [← y2] at hq
                exact absurd hq (bi_no h2 h1 y1)
              · exact q
            | succ t' =>
              have := (rw_w hk _ _ _ hw).1
              omega
          · refine Or.inl ⟨by rw [end_snoc]; exact decide_eq_false g, hg, ?_, ?_, ?_⟩
            · intro a b x x' ha hb hab
              rcases get_snoc.mp ha with a1 | ⟨a1, a2⟩ <;> rcases get_snoc.mp hb with b1 | ⟨b1, b2⟩
              · exact h3 a b x x' a1 b1 hab
              · rw [b2]; exact Nat.le_of_lt (h4 x (mem_get.mpr ⟨a, a1⟩)).1
              · have := get_lt b1; omega
              · rw [a2, b2]; exact Nat.le_refl _
            · intro x hx
              rcases List.mem_append.mp hx with a | a
              · exact ⟨by have := (h4 x a).1; omega, (h4 x a).2⟩
              · rw [List.mem_singleton.mp a]; exact ⟨Nat.lt_succ_self m, hR⟩
            · intro r hr hpr
              rcases Nat.lt_succ_iff_lt_or_eq.mp hr with q | rfl
              · obtain ⟨y, y1, y2⟩ := h5 r q hpr
                exact ⟨y, List.mem_append.mpr (Or.inl y1), y2⟩
              · exact ⟨_, List.mem_append.mpr (Or.inr (List.mem_singleton.mpr rfl)), rfl, Nat.le_refl _⟩
      · rw [if_neg hp]
        refine Or.inl ⟨h1, h2, h3, fun x hx => ⟨by have := (h4 x hx).1; omega, (h4 x hx).2⟩, fun r hr hpr => ?_⟩
        rcases Nat.lt_succ_iff_lt_or_eq.mp hr with g | rfl
        · exact h5 r g hpr
        · exact absurd hpr hp
    · split
      · rw [mt_end h1.2.1]; exact Or.inr h1
      · exact Or.inr h1
def BL (n : Nat) (O : Nat → Nat) (k : Nat) (P : Nat → Bool) : List (Nat × Nat × Nat) := rnL O k 3000 (rtL n k P (8 ^ (k + 1))) 0
theorem bl_ok (h : NP n O) (hk : k < 2) (hP : ∀ r, r < 8 ^ (k + 1) → P r = true → Sg n (k + 1) r) : NE n O k P (BL n O k P) ∨ EN n O k P (BL n O k P) := by
  have h64 := p82 k hk
  refine bi_run h hk 3000 _ 0 (by omega) ?_
  rcases rt_ok h hk hP (8 ^ (k + 1)) (Nat.le_refl _) with ⟨h1, h2, h3, h4, h5⟩ | h1
  · refine Or.inl ?_
    cases e : (rtL n k P (8 ^ (k + 1)))[0]? with
    | none => exact ⟨0, ⟨h2, h3, fun x hx => (h4 x hx).2, fun x hx => by have := (h4 x hx).1; omega, fun a x ha => absurd ha (Nat.not_lt_zero _), h5, h1⟩, fun y hy => by cases hy⟩
    | some y => exact ⟨y.2.2, ⟨h2, h3, fun x hx => (h4 x hx).2, fun x hx => by have := (h4 x hx).1; omega, fun a x ha => absurd ha (Nat.not_lt_zero _), h5, h1⟩, fun y' hy => by rw [Option.some.inj hy]⟩
  · exact Or.inr h1
theorem rt_gl (h : NP n O) (hk : k < 2) (hP : ∀ r, r < 8 ^ (k + 1) → P r = true → Sg n (k + 1) r) (m : Nat) (hm : m ≤ 8 ^ (k + 1)) : GL n k (rtL n k P m) := by
  rcases rt_ok h hk hP m hm with h1 | h1
  · exact h1.2.1
  · exact h1.1
theorem ex_gl (h : NP n O) (hk : k < 2) {L : List (Nat × Nat × Nat)} {i : Nat} {y : Nat × Nat × Nat} (hg : GL n k L) (hy : L[i]? = some y) : ∀ m, m ≤ 8 ^ (k + 1) → GL n k (exL O k i y.1 y.2.2 L m) ∧ (exL O k i y.1 y.2.2 L m)[i]? = some y := by
  intro m
  induction m with
  | zero => intro _; exact ⟨hg, hy⟩
  | succ m ih =>
    intro hm
    obtain ⟨h1, h2⟩ := ih (by omega)
    rw [exL]
    by_cases hs : scB O k (y.1 / 256) m = true
    · rw [if_pos hs]
      obtain ⟨v1, v2⟩ := nky_vk h hk (by omega) hs
      exact ⟨gl_mt hk h1 v1 v2 (Or.inr ⟨i, y, rfl, h2, rfl⟩), mt_pre h2⟩
    · rw [if_neg hs]; exact ⟨h1, h2⟩
theorem ex_skip {L : List (Nat × Nat × Nat)} {i q w a : Nat} : ∀ d, (∀ x, a ≤ x → x < a + d → scB O k (q / 256) x = false) → exL O k i q w L (a + d) = exL O k i q w L a := by
  intro d
  induction d with
  | zero => intro _; rfl
  | succ d ih =>
    intro hh
    rw [← Nat.add_assoc, exL, if_neg (by rw [hh (a + d) (by omega) (by omega)]; decide)]
    exact ih (fun x h1 h2 => hh x h1 (by omega))
theorem run_gl (h : NP n O) (hk : k < 2) : ∀ f L i, GL n k L → GL n k (rnL O k f L i) := by
  intro f
  induction f with
  | zero => intro L i hg; exact hg
  | succ f ih =>
    intro L i hg
    rw [rnL]
    cases e : L[i]? with
    | none => exact hg
    | some y =>
      show GL n k (if endB L = true then L else _)
      split
      · exact hg
      · exact ih _ _ (ex_gl h hk hg e _ (Nat.le_refl _)).1
end BFR
