/-! the best step is one, whatever the order of the row -/
section HMF
variable {n k s : Nat} {O : Nat → Nat} {lv : Nat → Nat → Nat}
theorem hm_fun {p r m a b : Nat} (h : HM n O s k lv p r m a) (g : HM n O s k lv p r m b) : a = b := by
  rcases h with ⟨h1, h2⟩ | ⟨x, h1, h2, h3, h4, h5⟩
  · rcases g with ⟨g1, g2⟩ | ⟨y, g1, g2, g3, g4, g5⟩
    · rw [h1, g1]
    · have := h2 y g1 g2; omega
  · rcases g with ⟨g1, g2⟩ | ⟨y, g1, g2, g3, g4, g5⟩
    · have := g2 x h1 h2; omega
    · have u := h5 y g1 g2
      have w := g5 x h1 h2
      omega
theorem rs_pm (h : HL n O k s lv) (hk : k < 3) {p x y : Nat} (hx : Vr n (k + 1) x) (hy : Vr n (k + 1) y) (e : srt (k + 1) x = srt (k + 1) y) : rs n O s (k + 1) lv p x = rs n O s (k + 1) lv p y := by
  rw [← rs_srt h hk hx, ← rs_srt h hk hy, e]
theorem hm_srt (h : HL n O k s lv) (hN : NP n O) (hk : k < 3) {p r out : Nat} (hr : Vr n (k + 1) r) (g : HM n O s k lv p r (8 ^ (k + 1)) out) : HM n O s k lv p (srt (k + 1) r) (8 ^ (k + 1)) out := by
  obtain ⟨j, hj, ej⟩ := pm_srt k hk r hr.1
  obtain ⟨j', hj', ej'⟩ := pm_inv k hk j hj
  have bk : ∀ y, y < 8 ^ (k + 1) → stB O k (srt (k + 1) r) y (k + 1) = true → ∃ x, x < 8 ^ (k + 1) ∧ stB O k r x (k + 1) = true ∧ srt (k + 1) x = srt (k + 1) y ∧ rs n O s (k + 1) lv p x = rs n O s (k + 1) lv p y := by
    intro y hy hs
    obtain ⟨q1, q2⟩ := pm_all k hk y hy j' hj'
    have hs' : stB O k r (pm k j' y) (k + 1) = true := by
      rw [← pm_st hk hj hr.1 q1, ej' y hy, ← ej]; exact hs
    exact ⟨pm k j' y, q1, hs', q2, rs_pm h hk (st_vr hN hk q1 hs') (st_vr hN hk hy hs) q2⟩
  rcases g with ⟨g1, g2⟩ | ⟨x, g1, g2, g3, g4, g5⟩
  · refine Or.inl ⟨by rw [srt_srt (by omega) (by omega) hr.1]; exact g1, fun y hy hs => ?_⟩
    obtain ⟨x, x1, x2, -, x4⟩ := bk y hy hs
    rw [← x4]; exact g2 x x1 x2
  · obtain ⟨q1, q2⟩ := pm_all k hk x g1 j hj
    have hs' : stB O k (srt (k + 1) r) (pm k j x) (k + 1) = true := by
      rw [ej, pm_st hk hj hr.1 g1]; exact g2
    have er := rs_pm (p := p) h hk (st_vr hN hk q1 hs') (st_vr hN hk g1 g2) q2
    refine Or.inr ⟨pm k j x, q1, hs', by rw [er]; exact g3, by rw [q2]; exact g4, fun y hy hs => ?_⟩
    obtain ⟨z, z1, z2, z3, z4⟩ := bk y hy hs
    rw [er, q2, ← z3, ← z4]
    exact g5 z z1 z2
end HMF
