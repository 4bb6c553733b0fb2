/-! the search for the unseen one, as lists -/
theorem get_snoc {α : Type} {L : List α} {x y : α} {i : Nat} : (L ++ [x])[i]? = some y ↔ L[i]? = some y ∨ (i = L.length ∧ y = x) := by
  rcases Nat.lt_trichotomy i L.length with h | h | h
  · rw [List.getElem?_append_left h]
    constructor
    · intro e; exact Or.inl e
    · rintro (e | ⟨e, _⟩)
      · exact e
      · omega
  · subst h
    rw [List.getElem?_append_right (Nat.le_refl _), Nat.sub_self, List.getElem?_eq_none (Nat.le_refl _)]
    constructor
    · intro e; exact Or.inr ⟨rfl, (Option.some.inj e).symm⟩
    · rintro (e | ⟨_, e⟩)
      · cases e
      · rw [e]; rfl
  · rw [List.getElem?_eq_none (by rw [List.length_append]; simp; omega), List.getElem?_eq_none (by omega)]
    constructor
    · intro e; cases e
    · rintro (e | ⟨e, _⟩)
      · cases e
      · omega
theorem get_lt {α : Type} {L : List α} {x : α} {i : Nat} (h : L[i]? = some x) : i < L.length := by
  rcases Nat.lt_or_ge i L.length with q | q
  · exact q
  · rw [List.getElem?_eq_none q] at h; cases h
theorem get_ex {α : Type} {L : List α} {i : Nat} (h : i < L.length) : ∃ x, L[i]? = some x := ⟨L[i], List.getElem?_eq_getElem h⟩
theorem mem_get {α : Type} {L : List α} {x : α} : x ∈ L ↔ ∃ i : Nat, L[i]? = some x := List.mem_iff_getElem?
def endB (L : List (Nat × Nat × Nat)) : Bool := match L.getLast? with
  | some x => decide (x.1 % 256 = 0)
  | none => false
def hasK (L : List (Nat × Nat × Nat)) (q : Nat) : Bool := L.any (fun x => decide (x.1 = q))
def mtL (L : List (Nat × Nat × Nat)) (q p w : Nat) : List (Nat × Nat × Nat) := if endB L = true then L else if hasK L q = true then L else L ++ [(q, p, w)]
theorem end_snoc (L : List (Nat × Nat × Nat)) (x : Nat × Nat × Nat) : endB (L ++ [x]) = decide (x.1 % 256 = 0) := by
  unfold endB
  rw [List.getLast?_concat]
theorem has_iff {L : List (Nat × Nat × Nat)} {q : Nat} : hasK L q = true ↔ ∃ x, x ∈ L ∧ x.1 = q := by
  unfold hasK
  rw [List.any_eq_true]
  constructor
  · rintro ⟨x, h1, h2⟩; exact ⟨x, h1, of_decide_eq_true h2⟩
  · rintro ⟨x, h1, h2⟩; exact ⟨x, h1, decide_eq_true h2⟩
theorem has_snoc (L : List (Nat × Nat × Nat)) (x : Nat × Nat × Nat) (q : Nat) : hasK (L ++ [x]) q = (hasK L q || decide (x.1 = q)) := by
  unfold hasK
  rw [List.any_append]
  simp
theorem end_last {L : List (Nat × Nat × Nat)} (h : endB L = true) : ∃ x, L[L.length - 1]? = some x ∧ x.1 % 256 = 0 ∧ 1 ≤ L.length := by
  unfold endB at h
  rw [List.getLast?_eq_getElem?] at h
  cases e : L[L.length - 1]? with
  | none => rw [e] at h; cases h
  | some x =>
    rw [e] at h
    have := get_lt e
    exact ⟨x, rfl, of_decide_eq_true h, by omega⟩
theorem end_not {L : List (Nat × Nat × Nat)} (h : endB L = false) {x : Nat × Nat × Nat} (e : L[L.length - 1]? = some x) : ¬ x.1 % 256 = 0 := by
  unfold endB at h
  rw [List.getLast?_eq_getElem?, e] at h
  exact of_decide_eq_false h
theorem mt_cases (L : List (Nat × Nat × Nat)) (q p w : Nat) : (mtL L q p w = L ∧ (endB L = true ∨ hasK L q = true)) ∨ (mtL L q p w = L ++ [(q, p, w)] ∧ endB L = false ∧ hasK L q = false) := by
  unfold mtL
  cases h1 : endB L with
  | true => exact Or.inl ⟨by rw [if_pos rfl], Or.inl rfl⟩
  | false =>
    cases h2 : hasK L q with
    | true => exact Or.inl ⟨by rw [if_neg (by decide), if_pos rfl], Or.inr rfl⟩
    | false => exact Or.inr ⟨by rw [if_neg (by decide), if_neg (by decide)], rfl, rfl⟩
/-- steps of a setting; keys -/
def scB (O : Nat → Nat) (k r t : Nat) : Bool := if k = 0 then (O r).testBit t else decide (t / 8 ≤ t % 8) && ((O (r / 8)).testBit (t / 8) && (O (r % 8)).testBit (t % 8) || (O (r / 8)).testBit (t % 8) && (O (r % 8)).testBit (t / 8))
def sprd (O : Nat → Nat) (k t S : Nat) : Nat := nd (ah O (nd S (plc (dgs (k + 1) t)))) (plc (dgs (k + 1) t))
def rky (n k r : Nat) : Nat := 256 * r + nd (2 ^ n - 1) (plc (dgs (k + 1) r))
def nky (O : Nat → Nat) (k t q : Nat) : Nat := 256 * t + sprd O k t (q % 256)
def exL (O : Nat → Nat) (k i q w : Nat) (L : List (Nat × Nat × Nat)) : Nat → List (Nat × Nat × Nat)
  | 0 => L
  | m + 1 => if scB O k (q / 256) m = true then mtL (exL O k i q w L m) (nky O k m q) (i + 1) (w + 64) else exL O k i q w L m
def rnL (O : Nat → Nat) (k : Nat) : Nat → List (Nat × Nat × Nat) → Nat → List (Nat × Nat × Nat)
  | 0, L, _ => L
  | f + 1, L, i => match L[i]? with
    | none => L
    | some x => if endB L = true then L else rnL O k f (exL O k i x.1 x.2.2 L (8 ^ (k + 1))) (i + 1)
def rtL (n k : Nat) (P : Nat → Bool) : Nat → List (Nat × Nat × Nat)
  | 0 => []
  | m + 1 => if P m = true then mtL (rtL n k P m) (rky n k m) 0 m else rtL n k P m
def vkB (k q : Nat) : Bool := decide (q < 256 * 8 ^ (k + 1)) && decide (srt (k + 1) (q / 256) = q / 256) && decide (q % 256 &&& plc (dgs (k + 1) (q / 256)) = 0)
def GL (n : Nat) (k : Nat) (L : List (Nat × Nat × Nat)) : Prop := (∀ x, x ∈ L → vkB k x.1 = true ∧ Vr n (k + 1) (x.1 / 256)) ∧ (∀ (i j : Nat) (x y : Nat × Nat × Nat), L[i]? = some x → L[j]? = some y → x.1 = y.1 → i = j) ∧ (∀ (i : Nat) (x : Nat × Nat × Nat), L[i]? = some x → (x.2.1 = 0 ∧ x.2.2 = x.1 / 256 ∧ x.2.2 < 64) ∨ ∃ p y, x.2.1 = p + 1 ∧ p < i ∧ L[p]? = some y ∧ x.2.2 = y.2.2 + 64) ∧ (∀ (i : Nat) (x : Nat × Nat × Nat), L[i]? = some x → i + 1 < L.length → ¬ x.1 % 256 = 0) ∧ (sm (fun q => if hasK L q = true then 1 else 0) 16384 = L.length)
theorem GL.vk {n : Nat} {k : Nat} {L : List (Nat × Nat × Nat)} (h : GL n k L) : ∀ x, x ∈ L → vkB k x.1 = true ∧ Vr n (k + 1) (x.1 / 256) := h.1
theorem GL.uq {n : Nat} {k : Nat} {L : List (Nat × Nat × Nat)} (h : GL n k L) : ∀ (i j : Nat) (x y : Nat × Nat × Nat), L[i]? = some x → L[j]? = some y → x.1 = y.1 → i = j := h.2.1
theorem GL.par {n : Nat} {k : Nat} {L : List (Nat × Nat × Nat)} (h : GL n k L) : ∀ (i : Nat) (x : Nat × Nat × Nat), L[i]? = some x → (x.2.1 = 0 ∧ x.2.2 = x.1 / 256 ∧ x.2.2 < 64) ∨ ∃ p y, x.2.1 = p + 1 ∧ p < i ∧ L[p]? = some y ∧ x.2.2 = y.2.2 + 64 := h.2.2.1
theorem GL.mid {n : Nat} {k : Nat} {L : List (Nat × Nat × Nat)} (h : GL n k L) : ∀ (i : Nat) (x : Nat × Nat × Nat), L[i]? = some x → i + 1 < L.length → ¬ x.1 % 256 = 0 := h.2.2.2.1
theorem GL.cnt {n : Nat} {k : Nat} {L : List (Nat × Nat × Nat)} (h : GL n k L) : sm (fun q => if hasK L q = true then 1 else 0) 16384 = L.length := h.2.2.2.2
theorem sm_pt {f g : Nat → Nat} {a : Nat} (h : ∀ q, q ≠ a → g q = f q) (h1 : g a = f a + 1) : ∀ N, a < N → sm g N = sm f N + 1 := by
  intro N
  induction N with
  | zero => intro h; omega
  | succ N ih =>
    intro hN
    rw [sm, sm]
    rcases Nat.lt_succ_iff_lt_or_eq.mp hN with e | rfl
    · rw [ih e, h N (by omega)]; omega
    · have : ∀ M, M ≤ a → sm g M = sm f M := by
        intro M
        induction M with
        | zero => intro _; rfl
        | succ M ihM => intro hM; rw [sm, sm, ihM (by omega), h M (by omega)]
      rw [this a (Nat.le_refl _), h1]; omega
theorem sm_add (f : Nat → Nat) (a : Nat) : ∀ b, sm f (a + b) = sm f a + sm (fun i => f (a + i)) b := by
  intro b
  induction b with
  | zero => rfl
  | succ b ih => rw [← Nat.add_assoc, sm, sm, ih]; omega
theorem sm_blk (f : Nat → Nat) : ∀ m, sm f (256 * m) = sm (fun r => sm (fun S => f (256 * r + S)) 256) m := by
  intro m
  induction m with
  | zero => rfl
  | succ m ih => rw [Nat.mul_succ, sm_add, ih]; rfl
theorem vk_blk : ∀ k, k < 2 → sm (fun r => sm (fun S => if vkB k (256 * r + S) = true then 1 else 0) 256) 64 ≤ 2816 := by decide +kernel
theorem p82 : ∀ k, k < 2 → 8 ^ (k + 1) ≤ 64 := by decide
theorem vk_lt {k q : Nat} (hk : k < 2) (h : vkB k q = true) : q < 16384 := by
  unfold vkB at h
  rw [Bool.and_eq_true, Bool.and_eq_true] at h
  have h1 := of_decide_eq_true h.1.1
  have h2 := p82 k hk
  have h3 : 256 * 8 ^ (k + 1) ≤ 256 * 64 := Nat.mul_le_mul_left _ h2
  omega
