/-! what the search finds: the end of the least weight -/
def SC (O : Nat → Nat) (k q q' : Nat) : Prop := ∃ t, t < 8 ^ (k + 1) ∧ scB O k (q / 256) t = true ∧ q' = nky O k t q
def RW (n : Nat) (O : Nat → Nat) (k : Nat) (P : Nat → Bool) : Nat → Nat → Nat → Prop
  | 0, w, q => ∃ r, r < 8 ^ (k + 1) ∧ P r = true ∧ q = rky n k r ∧ w = r
  | t + 1, w, q => ∃ w0 q0, RW n O k P t w0 q0 ∧ SC O k q0 q ∧ w = w0 + 64
section BFW
variable {n k : Nat} {O : Nat → Nat} {P : Nat → Bool}
theorem nky_div (t q : Nat) (h : NP n O) : nky O k t q / 256 = t := by
  unfold nky
  have : sprd O k t (q % 256) < 256 := nd_lt (ah_lt8 h _)
  omega
theorem nky_mod (t q : Nat) (h : NP n O) : nky O k t q % 256 = sprd O k t (q % 256) := by
  unfold nky
  have : sprd O k t (q % 256) < 256 := nd_lt (ah_lt8 h _)
  omega
theorem rky_div (r : Nat) (h : NP n O) : rky n k r / 256 = r := by
  unfold rky
  have : nd (2 ^ n - 1) (plc (dgs (k + 1) r)) < 256 := nd_lt (all_lt h)
  omega
theorem rky_mod (r : Nat) (h : NP n O) : rky n k r % 256 = nd (2 ^ n - 1) (plc (dgs (k + 1) r)) := by
  unfold rky
  have : nd (2 ^ n - 1) (plc (dgs (k + 1) r)) < 256 := nd_lt (all_lt h)
  omega
theorem nd_and (a b : Nat) : nd a b &&& b = 0 := tb_ext (fun i => by
  rw [Nat.testBit_and, nd_tb, Nat.zero_testBit]
  cases a.testBit i <;> cases b.testBit i <;> rfl)
theorem sc2 : ∀ t, t < 64 → (t / 8 ≤ t % 8 ↔ srt 2 t = t) := by decide +kernel
theorem sc_sg (h : NP n O) (hk : k < 2) {r t : Nat} (ht : t < 8 ^ (k + 1)) (hs : scB O k r t = true) : Sg n (k + 1) t := by
  rcases (show k = 0 ∨ k = 1 by omega) with rfl | rfl
  · unfold scB at hs
    rw [if_pos rfl] at hs
    have := (np_lt8 h hs).2
    refine ⟨⟨ht, fun d hd => ?_⟩, rfl⟩
    rw [dgs1] at hd
    simp at hd
    omega
  · unfold scB at hs
    rw [if_neg (by decide), Bool.and_eq_true] at hs
    have h1 := (sc2 t ht).mp (of_decide_eq_true hs.1)
    have h2 : t / 8 < n ∧ t % 8 < n := by
      have := hs.2
      rw [Bool.or_eq_true, Bool.and_eq_true, Bool.and_eq_true] at this
      rcases this with ⟨a, b⟩ | ⟨a, b⟩
      · exact ⟨(np_lt8 h a).2, (np_lt8 h b).2⟩
      · exact ⟨(np_lt8 h b).2, (np_lt8 h a).2⟩
    refine ⟨⟨ht, fun d hd => ?_⟩, h1⟩
    rw [dgs2] at hd
    have h3 : t < 64 := ht
    simp at hd
    rcases hd with e | e <;> omega
theorem vk_sg (h : NP n O) {t S : Nat} (ht : Sg n (k + 1) t) (hS : S < 256) (hd : S &&& plc (dgs (k + 1) t) = 0) : vkB k (256 * t + S) = true ∧ Vr n (k + 1) ((256 * t + S) / 256) := by
  have e1 : (256 * t + S) / 256 = t := by omega
  have e2 : (256 * t + S) % 256 = S := by omega
  unfold vkB
  rw [e1, e2, decide_eq_true ht.2, decide_eq_true hd]
  have h1 := ht.1.1
  have h3 : 256 * (t + 1) ≤ 256 * 8 ^ (k + 1) := Nat.mul_le_mul_left _ h1
  exact ⟨by rw [decide_eq_true (show 256 * t + S < 256 * 8 ^ (k + 1) by omega)]; rfl, ht.1⟩
theorem nky_vk (h : NP n O) (hk : k < 2) {q t : Nat} (ht : t < 8 ^ (k + 1)) (hs : scB O k (q / 256) t = true) : vkB k (nky O k t q) = true ∧ Vr n (k + 1) (nky O k t q / 256) := vk_sg h (sc_sg h hk ht hs) (nd_lt (ah_lt8 h _)) (nd_and _ _)
theorem rky_vk (h : NP n O) {r : Nat} (hr : Sg n (k + 1) r) : vkB k (rky n k r) = true ∧ Vr n (k + 1) (rky n k r / 256) := vk_sg h hr (nd_lt (all_lt h)) (nd_and _ _)
theorem rw_w (hk : k < 2) : ∀ t w q, RW n O k P t w q → w / 64 = t ∧ P (w % 64) = true ∧ w % 64 < 8 ^ (k + 1) := by
  intro t
  have h64 := p82 k hk
  induction t with
  | zero =>
    rintro w q ⟨r, h1, h2, h3, rfl⟩
    have : w % 64 = w := by omega
    exact ⟨by omega, by rw [this]; exact h2, by omega⟩
  | succ t ih =>
    rintro w q ⟨w0, q0, h1, h2, rfl⟩
    obtain ⟨a, b, c⟩ := ih w0 q0 h1
    have : (w0 + 64) % 64 = w0 % 64 := by omega
    exact ⟨by omega, by rw [this]; exact b, by omega⟩
def BI (n : Nat) (O : Nat → Nat) (k : Nat) (P : Nat → Bool) (L : List (Nat × Nat × Nat)) (i z : Nat) : Prop := (GL n k L) ∧ (∀ (a b : Nat) (x y : Nat × Nat × Nat), L[a]? = some x → L[b]? = some y → a ≤ b → x.2.2 ≤ y.2.2) ∧ (∀ x, x ∈ L → ∃ t, RW n O k P t x.2.2 x.1) ∧ (∀ x, x ∈ L → x.2.2 ≤ z + 64) ∧ (∀ (a : Nat) (x : Nat × Nat × Nat), a < i → L[a]? = some x → ∀ q', SC O k x.1 q' → ∃ y, y ∈ L ∧ y.1 = q' ∧ y.2.2 ≤ x.2.2 + 64) ∧ (∀ r, r < 8 ^ (k + 1) → P r = true → ∃ y, y ∈ L ∧ y.1 = rky n k r ∧ y.2.2 ≤ r) ∧ (endB L = false)
theorem BI.gl {n : Nat} {O : Nat → Nat} {k : Nat} {P : Nat → Bool} {L : List (Nat × Nat × Nat)} {i z : Nat} (h : BI n O k P L i z) : GL n k L := h.1
theorem BI.so {n : Nat} {O : Nat → Nat} {k : Nat} {P : Nat → Bool} {L : List (Nat × Nat × Nat)} {i z : Nat} (h : BI n O k P L i z) : ∀ (a b : Nat) (x y : Nat × Nat × Nat), L[a]? = some x → L[b]? = some y → a ≤ b → x.2.2 ≤ y.2.2 := h.2.1
theorem BI.sd {n : Nat} {O : Nat → Nat} {k : Nat} {P : Nat → Bool} {L : List (Nat × Nat × Nat)} {i z : Nat} (h : BI n O k P L i z) : ∀ x, x ∈ L → ∃ t, RW n O k P t x.2.2 x.1 := h.2.2.1
theorem BI.up {n : Nat} {O : Nat → Nat} {k : Nat} {P : Nat → Bool} {L : List (Nat × Nat × Nat)} {i z : Nat} (h : BI n O k P L i z) : ∀ x, x ∈ L → x.2.2 ≤ z + 64 := h.2.2.2.1
theorem BI.cl {n : Nat} {O : Nat → Nat} {k : Nat} {P : Nat → Bool} {L : List (Nat × Nat × Nat)} {i z : Nat} (h : BI n O k P L i z) : ∀ (a : Nat) (x : Nat × Nat × Nat), a < i → L[a]? = some x → ∀ q', SC O k x.1 q' → ∃ y, y ∈ L ∧ y.1 = q' ∧ y.2.2 ≤ x.2.2 + 64 := h.2.2.2.2.1
theorem BI.rt {n : Nat} {O : Nat → Nat} {k : Nat} {P : Nat → Bool} {L : List (Nat × Nat × Nat)} {i z : Nat} (h : BI n O k P L i z) : ∀ r, r < 8 ^ (k + 1) → P r = true → ∃ y, y ∈ L ∧ y.1 = rky n k r ∧ y.2.2 ≤ r := h.2.2.2.2.2.1
theorem BI.no {n : Nat} {O : Nat → Nat} {k : Nat} {P : Nat → Bool} {L : List (Nat × Nat × Nat)} {i z : Nat} (h : BI n O k P L i z) : endB L = false := h.2.2.2.2.2.2
def EN (n : Nat) (O : Nat → Nat) (k : Nat) (P : Nat → Bool) (L : List (Nat × Nat × Nat)) : Prop := GL n k L ∧ endB L = true ∧ ∃ x, L[L.length - 1]? = some x ∧ x.1 % 256 = 0 ∧ (∃ t, RW n O k P t x.2.2 x.1) ∧ ∀ t w q, RW n O k P t w q → q % 256 = 0 → x.2.2 ≤ w
theorem bi_no {L : List (Nat × Nat × Nat)} (hg : GL n k L) (he : endB L = false) {x : Nat × Nat × Nat} (hx : x ∈ L) : ¬ x.1 % 256 = 0 := by
  obtain ⟨i, hi⟩ := mem_get.mp hx
  have := get_lt hi
  by_cases q : i + 1 < L.length
  · exact hg.mid i x hi q
  · exact end_not he (show L[L.length - 1]? = some x by rw [show L.length - 1 = i by omega]; exact hi)
theorem en_snoc (hk : k < 2) {L : List (Nat × Nat × Nat)} {q p w : Nat} (hg : GL n k (L ++ [(q, p, w)])) (hq : q % 256 = 0) (hr : ∃ t, RW n O k P t w q) (hm : ∀ t w' q', RW n O k P t w' q' → q' % 256 = 0 → w ≤ w') : EN n O k P (L ++ [(q, p, w)]) := by
  refine ⟨hg, by rw [end_snoc]; exact decide_eq_true hq, (q, p, w), ?_, hq, hr, hm⟩
  rw [List.length_append]
  exact get_snoc.mpr (Or.inr ⟨by simp, rfl⟩)
theorem bi_reach {L : List (Nat × Nat × Nat)} {i : Nat} {y : Nat × Nat × Nat} (h : BI n O k P L i y.2.2) (hy : L[i]? = some y) : ∀ t w q, RW n O k P t w q → w < y.2.2 + 64 → ∃ x, x ∈ L ∧ x.1 = q ∧ x.2.2 ≤ w := by
  intro t
  induction t with
  | zero =>
    rintro w q ⟨r, h1, h2, rfl, rfl⟩ _
    exact h.rt _ h1 h2
  | succ t ih =>
    rintro w q ⟨w0, q0, h1, h2, rfl⟩ hw
    obtain ⟨x, hx, e1, e2⟩ := ih w0 q0 h1 (by omega)
    obtain ⟨a, ha⟩ := mem_get.mp hx
    have hai : a < i := by
      rcases Nat.lt_or_ge a i with g | g
      · exact g
      · have := h.so i a y x hy ha g; omega
    rw [← e1] at h2
    obtain ⟨z, hz, e3, e4⟩ := h.cl a x hai ha q h2
    exact ⟨z, hz, e3, by omega⟩
/-- one more stand met while the i-th one is looked at -/
theorem bi_mt (h : NP n O) (hk : k < 2) {L : List (Nat × Nat × Nat)} {i : Nat} {y : Nat × Nat × Nat} (hB : BI n O k P L i y.2.2) (hy : L[i]? = some y) {t : Nat} (ht : t < 8 ^ (k + 1)) (hs : scB O k (y.1 / 256) t = true) : (BI n O k P (mtL L (nky O k t y.1) (i + 1) (y.2.2 + 64)) i y.2.2 ∧ ∃ z, z ∈ mtL L (nky O k t y.1) (i + 1) (y.2.2 + 64) ∧ z.1 = nky O k t y.1 ∧ z.2.2 ≤ y.2.2 + 64) ∨ EN n O k P (mtL L (nky O k t y.1) (i + 1) (y.2.2 + 64)) := by
  obtain ⟨v1, v2⟩ := nky_vk h hk ht hs
  rcases mt_cases L (nky O k t y.1) (i + 1) (y.2.2 + 64) with ⟨e, e1 | e1⟩ | ⟨e, e1, e2⟩
  · rw [hB.no] at e1; cases e1
  · rw [e]
    obtain ⟨x, h1, h2⟩ := has_iff.mp e1
    exact Or.inl ⟨hB, x, h1, h2, hB.up x h1⟩
  · rw [e]
    have hg := gl_snoc hk hB.gl e1 e2 v1 v2 (p := i + 1) (w := y.2.2 + 64) (Or.inr ⟨i, y, rfl, hy, rfl⟩)
    obtain ⟨t0, hr⟩ := hB.sd y (mem_get.mpr ⟨i, hy⟩)
    have hR : ∃ t', RW n O k P t' (y.2.2 + 64) (nky O k t y.1) := ⟨t0 + 1, y.2.2, y.1, hr, ⟨t, ht, hs, rfl⟩, rfl⟩
    by_cases g : nky O k t y.1 % 256 = 0
    · refine Or.inr (en_snoc hk hg g hR (fun t' w' q' hw hq => ?_))
      rcases Nat.lt_or_ge w' (y.2.2 + 64) with q | q
      · obtain ⟨x, hx, e3, -⟩ := bi_reach hB hy t' w' q' hw q
        rw [← e3] at hq
        exact absurd hq (bi_no hB.gl hB.no hx)
      · exact q
    · refine Or.inl ⟨⟨hg, ?_, ?_, ?_, ?_, ?_, ?_⟩, _, List.mem_append.mpr (Or.inr (List.mem_singleton.mpr rfl)), rfl, Nat.le_refl _⟩
      · intro a b x x' ha hb hab
        rcases get_snoc.mp ha with a1 | ⟨a1, a2⟩ <;> rcases get_snoc.mp hb with b1 | ⟨b1, b2⟩
        · exact hB.so a b x x' a1 b1 hab
        · rw [b2]; exact hB.up x (mem_get.mpr ⟨a, a1⟩)
        · have := get_lt b1; omega
        · rw [a2, b2]; exact Nat.le_refl _
      · intro x hx
        rcases List.mem_append.mp hx with a | a
        · exact hB.sd x a
        · rw [List.mem_singleton.mp a]; exact hR
      · intro x hx
        rcases List.mem_append.mp hx with a | a
        · exact hB.up x a
        · rw [List.mem_singleton.mp a]; exact Nat.le_refl _
      · intro a x ha hx q' hq
        rcases get_snoc.mp hx with a1 | ⟨a1, a2⟩
        · obtain ⟨z, hz, e3⟩ := hB.cl a x ha a1 q' hq
          exact ⟨z, List.mem_append.mpr (Or.inl hz), e3⟩
        · have := get_lt hy; omega
      · intro r hr hp
        obtain ⟨z, hz, e3⟩ := hB.rt r hr hp
        exact ⟨z, List.mem_append.mpr (Or.inl hz), e3⟩
      · rw [end_snoc]; exact decide_eq_false g
theorem mt_mem {L : List (Nat × Nat × Nat)} {q p w : Nat} {x : Nat × Nat × Nat} (h : x ∈ L) : x ∈ mtL L q p w := by
  obtain ⟨i, hi⟩ := mem_get.mp h
  exact mem_get.mpr ⟨i, mt_pre hi⟩
theorem bi_ex (h : NP n O) (hk : k < 2) {L : List (Nat × Nat × Nat)} {i : Nat} {y : Nat × Nat × Nat} (hB : BI n O k P L i y.2.2) (hy : L[i]? = some y) : ∀ m, m ≤ 8 ^ (k + 1) → (BI n O k P (exL O k i y.1 y.2.2 L m) i y.2.2 ∧ (exL O k i y.1 y.2.2 L m)[i]? = some y ∧ ∀ t, t < m → scB O k (y.1 / 256) t = true → ∃ z, z ∈ exL O k i y.1 y.2.2 L m ∧ z.1 = nky O k t y.1 ∧ z.2.2 ≤ y.2.2 + 64) ∨ EN n O k P (exL O k i y.1 y.2.2 L m) := by
  intro m
  induction m with
  | zero => intro _; exact Or.inl ⟨hB, hy, fun t ht => absurd ht (Nat.not_lt_zero _)⟩
  | succ m ih =>
    intro hm
    rw [exL]
    rcases ih (by omega) with ⟨h1, h2, h3⟩ | h1
    · by_cases hs : scB O k (y.1 / 256) m = true
      · rw [if_pos hs]
        rcases bi_mt h hk h1 h2 (by omega) hs with ⟨h4, z, h5, h6⟩ | h4
        · refine Or.inl ⟨h4, mt_pre h2, fun t ht hst => ?_⟩
          rcases Nat.lt_succ_iff_lt_or_eq.mp ht with e | rfl
          · obtain ⟨z', a, b⟩ := h3 t e hst
            exact ⟨z', mt_mem a, b⟩
          · exact ⟨z, h5, h6⟩
        · exact Or.inr h4
      · rw [if_neg hs]
        refine Or.inl ⟨h1, h2, fun t ht hst => ?_⟩
        rcases Nat.lt_succ_iff_lt_or_eq.mp ht with e | rfl
        · exact h3 t e hst
        · exact absurd hst hs
    · split
      · rw [mt_end h1.2.1]; exact Or.inr h1
      · exact Or.inr h1
def NE (n : Nat) (O : Nat → Nat) (k : Nat) (P : Nat → Bool) (L : List (Nat × Nat × Nat)) : Prop := GL n k L ∧ endB L = false ∧ ∀ t w q, RW n O k P t w q → ¬ q % 256 = 0
theorem bi_run (h : NP n O) (hk : k < 2) : ∀ f L i, 2817 ≤ f + i → ((∃ z, BI n O k P L i z ∧ (∀ y, L[i]? = some y → y.2.2 = z)) ∨ EN n O k P L) → NE n O k P (rnL O k f L i) ∨ EN n O k P (rnL O k f L i) := by
  intro f
  have key : ∀ L i, (∃ z, BI n O k P L i z) → L[i]? = none → NE n O k P L := by
    rintro L i ⟨z, hB⟩ hn
    refine ⟨hB.gl, hB.no, ?_⟩
    have hl : L.length ≤ i := by
      rcases Nat.lt_or_ge i L.length with g | g
      · obtain ⟨x, hx⟩ := get_ex g; rw [hx] at hn; cases hn
      · exact g
    have all : ∀ t w q, RW n O k P t w q → ∃ x, x ∈ L ∧ x.1 = q := by
      intro t
      induction t with
      | zero =>
        rintro w q ⟨r, h1, h2, rfl, rfl⟩
        obtain ⟨y, a, b, -⟩ := hB.rt _ h1 h2
        exact ⟨y, a, b⟩
      | succ t ih =>
        rintro w q ⟨w0, q0, h1, h2, rfl⟩
        obtain ⟨x, hx, e1⟩ := ih w0 q0 h1
        obtain ⟨a, ha⟩ := mem_get.mp hx
        rw [← e1] at h2
        obtain ⟨z, hz, e3, -⟩ := hB.cl a x (by have := get_lt ha; omega) ha q h2
        exact ⟨z, hz, e3⟩
    intro t w q hq
    obtain ⟨x, hx, rfl⟩ := all t w q hq
    exact bi_no hB.gl hB.no hx
  induction f with
  | zero =>
    rintro L i hf (⟨z, hB, hz⟩ | hE)
    · have := gl_len hk hB.gl
      exact Or.inl (key L i ⟨z, hB⟩ (List.getElem?_eq_none (by omega)))
    · exact Or.inr hE
  | succ f ih =>
    rintro L i hf (⟨z, hB, hz⟩ | hE)
    · rw [rnL]
      cases e : L[i]? with
      | none => exact Or.inl (key L i ⟨z, hB⟩ e)
      | some y =>
        show NE n O k P (if endB L = true then L else _) ∨ EN n O k P (if endB L = true then L else _)
        rw [if_neg (by rw [hB.no]; decide)]
        refine ih _ (i + 1) (by omega) ?_
        obtain rfl := hz y e
        rcases bi_ex h hk hB e (8 ^ (k + 1)) (Nat.le_refl _) with ⟨h1, h2, h3⟩ | h1
        · refine Or.inl ?_
          have cl' : ∀ (a : Nat) (x : Nat × Nat × Nat), a < i + 1 → (exL O k i y.1 y.2.2 L (8 ^ (k + 1)))[a]? = some x → ∀ q', SC O k x.1 q' → ∃ z, z ∈ exL O k i y.1 y.2.2 L (8 ^ (k + 1)) ∧ z.1 = q' ∧ z.2.2 ≤ x.2.2 + 64 := by
            intro a x ha hx q' hq
            rcases Nat.lt_succ_iff_lt_or_eq.mp ha with g | rfl
            · exact h1.cl a x g hx q' hq
            · rw [h2] at hx
              obtain rfl := Option.some.inj hx
              obtain ⟨t, t1, t2, rfl⟩ := hq
              exact h3 t t1 t2
          cases e2 : (exL O k i y.1 y.2.2 L (8 ^ (k + 1)))[i + 1]? with
          | none => exact ⟨y.2.2, ⟨h1.gl, h1.so, h1.sd, h1.up, cl', h1.rt, h1.no⟩, fun y' hy' => by cases hy'⟩
          | some y2 =>
            refine ⟨y2.2.2, ⟨h1.gl, h1.so, h1.sd, fun x hx => ?_, cl', h1.rt, h1.no⟩, fun y' hy' => by rw [Option.some.inj hy']⟩
            have a1 := h1.up x hx
            have a2 := h1.so i (i + 1) y y2 h2 e2 (Nat.le_succ i)
            omega
        · exact Or.inr h1
    · rw [rnL]
      cases e : L[i]? with
      | none => exact Or.inr hE
      | some y =>
        show NE n O k P (if endB L = true then L else _) ∨ EN n O k P (if endB L = true then L else _)
        rw [if_pos hE.2.1]
        exact Or.inr hE
end BFW
