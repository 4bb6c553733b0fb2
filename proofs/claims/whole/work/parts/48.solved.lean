/-! the class's chase: solved -/
def sm (f : Nat → Nat) : Nat → Nat
  | 0 => 0
  | k + 1 => sm f k + f k
theorem sm_le {f g : Nat → Nat} (h : ∀ r, f r ≤ g r) : ∀ k, sm f k ≤ sm g k := by
  intro k
  induction k with
  | zero => exact Nat.le_refl _
  | succ k ih => have := h k; rw [sm, sm]; omega
theorem sm_lt {f g : Nat → Nat} (h : ∀ r, f r ≤ g r) {r : Nat} (hr : f r < g r) : ∀ k, r < k → sm f k < sm g k := by
  intro k
  induction k with
  | zero => intro h; omega
  | succ k ih =>
    intro hk
    rw [sm, sm]
    rcases Nat.lt_succ_iff_lt_or_eq.mp hk with q | rfl
    · have := ih q; have := h k; omega
    · have := sm_le h r; omega
theorem sm_bd {f : Nat → Nat} {b : Nat} (h : ∀ r, f r ≤ b) : ∀ k, sm f k ≤ b * k := by
  intro k
  induction k with
  | zero => exact Nat.zero_le _
  | succ k ih => have := h k; rw [sm, Nat.mul_succ]; omega
theorem pc_mono {S T : Nat} (h : ∀ i, S.testBit i = true → T.testBit i = true) : ∀ k, pc S k ≤ pc T k := by
  intro k
  induction k with
  | zero => exact Nat.le_refl _
  | succ k ih =>
    rw [pc, pc]
    by_cases q : S.testBit k = true
    · rw [if_pos q, if_pos (h k q)]; omega
    · rw [if_neg q]; omega
theorem pc_strict {S T p : Nat} (h : ∀ i, S.testBit i = true → T.testBit i = true) (h1 : S.testBit p = false) (h2 : T.testBit p = true) : ∀ k, p < k → pc S k < pc T k := by
  intro k
  induction k with
  | zero => intro h; omega
  | succ k ih =>
    intro hk
    rw [pc, pc]
    rcases Nat.lt_succ_iff_lt_or_eq.mp hk with q | rfl
    · have := ih q
      by_cases q : S.testBit k = true
      · rw [if_pos q, if_pos (h k q)]; omega
      · rw [if_neg q]; omega
    · have := pc_mono h p
      rw [if_neg (by rw [h1]; decide), if_pos h2]; omega
theorem nz_bit {x : Nat} (h : x ≠ 0) : ∃ i, x.testBit i = true := Nat.exists_testBit_of_ne_zero h
section SOLVED
variable {σ : St} {n c i sp : Nat} {O : Nat → Nat}
theorem fg_ext {k r r' : Nat} (hk : k < 3) (h1 : r < 8 ^ (k + 1)) (h2 : r' < 8 ^ (k + 1)) (h : ∀ m, m ≤ k → fg k m r = fg k m r') : r = r' := by
  rcases (show k = 0 ∨ k = 1 ∨ k = 2 by omega) with rfl | rfl | rfl
  · have := h 0 (by omega)
    unfold fg at this
    simp at this h1 h2
    omega
  · have a := h 0 (by omega)
    have b := h 1 (by omega)
    unfold fg at a b
    simp at a b h1 h2
    omega
  · have a := h 0 (by omega)
    have b := h 1 (by omega)
    have d := h 2 (by omega)
    unfold fg at a b d
    simp at a b d h1 h2
    omega
/-- what is trapped when the first j hunters have stepped -/
def wid (n k : Nat) (O : Nat → Nat) (T : Nat → Nat) : Nat → Nat → Nat
  | 0, r => T r
  | j + 1, r => uS (fun t => wid n k O T j (sub (8 ^ (k - j)) r t)) (O (fg k j r)) n
theorem wid_tb (h : NP n O) {k : Nat} (hk : k < 3) (T : Nat → Nat) (p : Nat) : ∀ j, j ≤ k + 1 → ∀ r, Vr n (k + 1) r → ((wid n k O T j r).testBit p = true ↔ ∃ r', Vr n (k + 1) r' ∧ (∀ m, m < j → (O (fg k m r)).testBit (fg k m r') = true) ∧ (∀ m, j ≤ m → m ≤ k → fg k m r' = fg k m r) ∧ (T r').testBit p = true) := by
  intro j
  have h8 := h.h8
  induction j with
  | zero =>
    intro _ r hr
    constructor
    · intro q; exact ⟨r, hr, fun m hm => by omega, fun m _ _ => rfl, q⟩
    · rintro ⟨r', h1, -, h2, h3⟩
      rw [wid, fg_ext hk hr.1 h1.1 (fun m hm => (h2 m (by omega) hm).symm)]
      exact h3
  | succ j ih =>
    intro hj r hr
    rw [wid, uS_tb]
    have hrf := ((vr_fg hk).mp hr).2
    constructor
    · rintro ⟨t, h1, h2, h3⟩
      have hv := sub_vr hk (show j ≤ k by omega) h8 hr h1
      have hs := (sub_fg hk (show j ≤ k by omega) hr.1 (show t < 8 by omega)).2
      obtain ⟨r', g1, g2, g3, g4⟩ := (ih (by omega) _ hv).mp h3
      have hjt : fg k j r' = t := by rw [g3 j (by omega) (by omega), hs j (by omega), if_pos rfl]
      refine ⟨r', g1, fun m hm => ?_, fun m hm hm2 => ?_, g4⟩
      · rcases Nat.lt_succ_iff_lt_or_eq.mp hm with q | rfl
        · have := g2 m q
          rw [hs m (by omega), if_neg (by omega)] at this
          exact this
        · rw [hjt]; exact h2
      · rw [g3 m (by omega) hm2, hs m hm2, if_neg (by omega)]
    · rintro ⟨r', g1, g2, g3, g4⟩
      have ht : fg k j r' < n := ((vr_fg hk).mp g1).2 j (by omega)
      have hv := sub_vr hk (show j ≤ k by omega) h8 hr ht
      have hs := (sub_fg hk (show j ≤ k by omega) hr.1 (show fg k j r' < 8 by omega)).2
      refine ⟨fg k j r', ht, g2 j (by omega), (ih (by omega) _ hv).mpr ⟨r', g1, fun m hm => ?_, fun m hm hm2 => ?_, g4⟩⟩
      · rw [hs m (by omega), if_neg (by omega)]; exact g2 m (by omega)
      · rw [hs m hm2]
        by_cases e : m = j
        · rw [if_pos e, e]
        · rw [if_neg e]; exact g3 m (by omega) hm2
/-- the table of those surely caught within t rounds -/
def TB (n : Nat) (O : Nat → Nat) (sp K t : Nat) (S : Nat → Nat) : Prop := ∀ r, Vr n K r → ∀ p, (S r).testBit p = true ↔ p < n ∧ Su O sp t (dgs K r) p
theorem tb_lt8 (h : NP n O) {K t : Nat} {S : Nat → Nat} (hT : TB n O sp K t S) {r : Nat} (hr : Vr n K r) : S r < 2 ^ n := lt_tb (fun i hi => by
  cases hb : (S r).testBit i with
  | false => rfl
  | true => have := ((hT r hr i).mp hb).1; omega)
theorem su_mem {t : Nat} {l : List Nat} {p : Nat} (h : p ∈ l) : Su O sp t l p := su_le (Nat.zero_le t) (show Su O sp 0 l p from h)
theorem tp_tb (h : NP n O) {K t : Nat} {S : Nat → Nat} (hT : TB n O sp K t S) {r : Nat} (hr : Vr n K r) (p : Nat) : (tpS n O sp K r (S r)).testBit p = true ↔ p < n ∧ (p ∈ dgs K r ∨ ∀ q, Pa O (plc (dgs K r)) sp p q → Su O sp t (dgs K r) q) := by
  have h8 := h.h8
  have ha := all_lt h
  have hX : ∀ q, (nd (2 ^ n - 1) (S r)).testBit q = true ↔ q < n ∧ ¬ Su O sp t (dgs K r) q := by
    intro q
    rw [nd_tb, Nat.testBit_two_pow_sub_one, Bool.and_eq_true, decide_eq_true_iff, Bool.not_eq_true']
    constructor
    · rintro ⟨h1, h2⟩
      refine ⟨h1, fun q1 => ?_⟩
      rw [(hT r hr q).mpr ⟨h1, q1⟩] at h2
      cases h2
    · rintro ⟨h1, h2⟩
      refine ⟨h1, ?_⟩
      cases hb : (S r).testBit q with
      | false => rfl
      | true => exact (h2 ((hT r hr q).mp hb).2).elim
  have hpl : ∀ q, (plc (dgs K r)).testBit q = false ↔ q ∉ dgs K r := by
    intro q
    rw [plc_tb]
    by_cases hm : q ∈ dgs K r
    · have := dgs_lt8 _ _ _ hm
      simp [hm, this]
    · simp [hm]
  have hd : ∀ q, (nd (2 ^ n - 1) (S r)).testBit q = true → (plc (dgs K r)).testBit q = false := fun q hq => (hpl q).mpr (fun hm => ((hX q).mp hq).2 (su_mem hm))
  unfold tpS
  rw [nd_tb, Nat.testBit_two_pow_sub_one, Bool.and_eq_true, decide_eq_true_iff, Bool.not_eq_true']
  constructor
  · rintro ⟨h1, h2⟩
    refine ⟨h1, ?_⟩
    by_cases hm : p ∈ dgs K r
    · exact Or.inl hm
    · refine Or.inr (fun q hq => ?_)
      by_cases hs : Su O sp t (dgs K r) q
      · exact hs
      · have := (hop_tb h (nd_lt ha) hd sp p (by omega)).mpr ⟨(hpl p).mpr hm, q, hq, (hX q).mpr ⟨pa_n h sp p q h1 hq, hs⟩⟩
        rw [this] at h2
        cases h2
  · rintro ⟨h1, h2⟩
    refine ⟨h1, ?_⟩
    cases hb : (hop O (plc (dgs K r)) sp (nd (2 ^ n - 1) (S r))).testBit p with
    | false => rfl
    | true =>
      obtain ⟨g1, q, g2, g3⟩ := (hop_tb h (nd_lt ha) hd sp p (by omega)).mp hb
      rcases h2 with h2 | h2
      · exact ((hpl p).mp g1 h2).elim
      · exact (((hX q).mp g3).2 (h2 q g2)).elim
theorem tb_next (h : NP n O) {k t : Nat} (hk : k < 3) {S : Nat → Nat} (hT : TB n O sp (k + 1) t S) : TB n O sp (k + 1) (t + 1) (fun r => S r ||| wid n k O (fun r => tpS n O sp (k + 1) r (S r)) (k + 1) r) := by
  intro r hr p
  rw [Nat.testBit_or, Bool.or_eq_true, hT r hr p, wid_tb h hk _ p (k + 1) (Nat.le_refl _) r hr]
  constructor
  · rintro (⟨h1, h2⟩ | ⟨r', g1, g2, -, g4⟩)
    · exact ⟨h1, Or.inl h2⟩
    · obtain ⟨a1, a2⟩ := (tp_tb h hT g1 p).mp g4
      refine ⟨a1, Or.inr ⟨dgs (k + 1) r', ?_, a2⟩⟩
      exact (stB_iff hk).mp (stB_true (k + 1) (fun m hm => g2 m hm))
  · rintro ⟨h1, h2 | ⟨l', h2, h3⟩⟩
    · exact Or.inl ⟨h1, h2⟩
    · obtain ⟨r', g1, rfl⟩ := row_of (by omega) (by omega) h h2
      refine Or.inr ⟨r', g1, fun m hm => ?_, fun m hm hm2 => by omega, (tp_tb h hT g1 p).mpr ⟨h1, h3⟩⟩
      have hs := (stB_iff hk).mpr h2
      cases hb : (O (fg k m r)).testBit (fg k m r') with
      | true => rfl
      | false => rw [stB_false hb (k + 1) hm] at hs; cases hs
theorem stat (h : NP n O) {k t : Nat} (hk : k < 3) (hs : ∀ r p, Vr n (k + 1) r → p < n → Su O sp (t + 1) (dgs (k + 1) r) p → Su O sp t (dgs (k + 1) r) p) : ∀ t' r p, Vr n (k + 1) r → p < n → Su O sp t' (dgs (k + 1) r) p → Su O sp t (dgs (k + 1) r) p := by
  intro t'
  induction t' with
  | zero => intro r p _ _ q; exact su_le (Nat.zero_le _) q
  | succ t' ih =>
    rintro r p hr hp (q | ⟨l', q1, q2⟩)
    · exact ih r p hr hp q
    · obtain ⟨r', g1, rfl⟩ := row_of (by omega) (by omega) h q1
      refine hs r p hr hp (Or.inr ⟨_, q1, ?_⟩)
      rcases q2 with q2 | q2
      · exact Or.inl q2
      · exact Or.inr (fun x hx => ih r' x g1 (pa_n h sp p x hp hx) (q2 x hx))
/-- the least round up to t -/
def LvT (O : Nat → Nat) (s t : Nat) (l : List Nat) (p v : Nat) : Prop := (v ≤ t ∧ Su O s v l p ∧ ∀ t', t' < v → ¬ Su O s t' l p) ∨ (v = 1048576 ∧ ¬ Su O s t l p)
theorem lvT_fin {s t : Nat} {l : List Nat} {p v : Nat} (ht : t < 8192) (h : LvT O s t l p v) (hs : ∀ t', Su O s t' l p → Su O s t l p) : Lv O s l p v := by
  rcases h with ⟨h1, h2, h3⟩ | ⟨h1, h2⟩
  · exact Or.inl ⟨by omega, h2, h3⟩
  · exact Or.inr ⟨h1, fun t' q => h2 (hs t' q)⟩
/-- the class's table of a chase -/
def CT (s : St) (n : Nat) (O : Nat → Nat) (i sp : Nat) : Prop := (∀ r, Vr n (i / 3 + 1) r → ∃ S, S < 256 ∧ s.1 (42 + 5 * i) r = nI S ∧ ∀ p, S.testBit p = true ↔ p < n ∧ ∃ t, Su O sp t (dgs (i / 3 + 1) r) p) ∧ (∀ r p, Vr n (i / 3 + 1) r → p < n → ∃ v, s.1 (41 + 5 * i) (r * 8 + p) = nI v ∧ Lv O sp (dgs (i / 3 + 1) r) p v)
theorem CT.su {s : St} {n : Nat} {O : Nat → Nat} {i sp : Nat} (h : CT s n O i sp) : ∀ r, Vr n (i / 3 + 1) r → ∃ S, S < 256 ∧ s.1 (42 + 5 * i) r = nI S ∧ ∀ p, S.testBit p = true ↔ p < n ∧ ∃ t, Su O sp t (dgs (i / 3 + 1) r) p := h.1
theorem CT.lv {s : St} {n : Nat} {O : Nat → Nat} {i sp : Nat} (h : CT s n O i sp) : ∀ r p, Vr n (i / 3 + 1) r → p < n → ∃ v, s.1 (41 + 5 * i) (r * 8 + p) = nI v ∧ Lv O sp (dgs (i / 3 + 1) r) p v := h.2
def cntS (n K : Nat) (S : Nat → Nat) : Nat := sm (fun r => if vrB n K r = true then pc (S r) 8 else 0) (8 ^ K)
theorem cnt_le (n K : Nat) (S : Nat → Nat) : cntS n K S ≤ 8 * 8 ^ K := sm_bd (fun r => by
  split
  · exact pc_le _ 8
  · omega) _
theorem cnt_lt (K : Nat) {S W : Nat → Nat} {r : Nat} (hr : Vr n K r) (hw : W r < 256) (hf : nd (W r) (S r) ≠ 0) : cntS n K S < cntS n K (fun r => S r ||| W r) := by
  have hm : ∀ r i, (S r).testBit i = true → (S r ||| W r).testBit i = true := fun r i h => by rw [Nat.testBit_or, h]; rfl
  refine sm_lt (r := r) (fun r => ?_) ?_ _ hr.1
  · dsimp only
    split
    · exact pc_mono (hm r) 8
    · exact Nat.le_refl _
  · dsimp only
    rw [if_pos (vrB_iff.mpr hr), if_pos (vrB_iff.mpr hr)]
    obtain ⟨b, hb⟩ := nz_bit hf
    rw [nd_tb, Bool.and_eq_true, Bool.not_eq_true'] at hb
    exact pc_strict (p := b) (hm r) hb.2 (by rw [Nat.testBit_or, hb.1]; simp) 8 (tb_lt (n := 8) hw hb.1)
end SOLVED
