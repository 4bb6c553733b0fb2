/-! chases: rows of hunters are lists; surely caught within t rounds -/
def Sp (O : Nat → Nat) : List Nat → List Nat → Prop
  | [], [] => True
  | x :: l, y :: l' => (O x).testBit y = true ∧ Sp O l l'
  | [], _ :: _ => False
  | _ :: _, [] => False
def plc (l : List Nat) : Nat := mkS (fun p => decide (p ∈ l)) 8
theorem plc_tb {l : List Nat} {p : Nat} : (plc l).testBit p = (decide (p < 8) && decide (p ∈ l)) := mkS_tb _ _ _
theorem plc_lt (l : List Nat) : plc l < 256 := mkS_lt _ 8
/-- paths of j steps that come to no place of H -/
def Pa (O : Nat → Nat) (H : Nat) : Nat → Nat → Nat → Prop
  | 0, p, q => p = q
  | j + 1, p, q => ∃ r, Pa O H j p r ∧ (O r).testBit q = true ∧ H.testBit q = false
def Su (O : Nat → Nat) (s : Nat) : Nat → List Nat → Nat → Prop
  | 0, l, p => p ∈ l
  | t + 1, l, p => Su O s t l p ∨ ∃ l', Sp O l l' ∧ (p ∈ l' ∨ ∀ q, Pa O (plc l') s p q → Su O s t l' q)
theorem sp_perm {O : Nat → Nat} {l1 l2 : List Nat} (h : l1.Perm l2) : ∀ {l1' : List Nat}, Sp O l1 l1' → ∃ l2', l1'.Perm l2' ∧ Sp O l2 l2' := by
  induction h with
  | nil => intro l1' h; exact ⟨l1', List.Perm.refl _, h⟩
  | cons x _ ih =>
    intro l1' h
    cases l1' with
    | nil => exact h.elim
    | cons y l' =>
      obtain ⟨m, h1, h2⟩ := ih h.2
      exact ⟨y :: m, h1.cons y, h.1, h2⟩
  | swap x y l =>
    intro l1' h
    cases l1' with
    | nil => exact h.elim
    | cons a m =>
      cases m with
      | nil => exact h.2.elim
      | cons b m => exact ⟨b :: a :: m, List.Perm.swap _ _ _, h.2.1, h.1, h.2.2⟩
  | trans _ _ ih1 ih2 =>
    intro l1' h
    obtain ⟨m, h1, h2⟩ := ih1 h
    obtain ⟨m', h3, h4⟩ := ih2 h2
    exact ⟨m', h1.trans h3, h4⟩
theorem plc_perm {l1 l2 : List Nat} (h : l1.Perm l2) : plc l1 = plc l2 := mkS_cg (fun i _ => by rw [decide_eq_decide]; exact h.mem_iff)
theorem su_perm {O : Nat → Nat} {s : Nat} : ∀ (t : Nat) {l1 l2 : List Nat} (p : Nat), l1.Perm l2 → Su O s t l1 p → Su O s t l2 p := by
  intro t
  induction t with
  | zero => intro l1 l2 p h k; exact h.mem_iff.mp k
  | succ t ih =>
    rintro l1 l2 p h (k | ⟨l', h1, h2⟩)
    · exact Or.inl (ih p h k)
    · obtain ⟨m, h3, h4⟩ := sp_perm h h1
      refine Or.inr ⟨m, h4, ?_⟩
      rcases h2 with h2 | h2
      · exact Or.inl (h3.mem_iff.mp h2)
      · exact Or.inr (fun q hq => ih q h3 (h2 q (by rw [plc_perm h3]; exact hq)))
theorem su_le {O : Nat → Nat} {s t t' : Nat} {l : List Nat} {p : Nat} (h : t ≤ t') (k : Su O s t l p) : Su O s t' l p := by
  induction h with
  | refl => exact k
  | step _ ih => exact Or.inl ih
/-- the places reached in j steps, and those from which one comes in j steps -/
def flB (O : Nat → Nat) (H : Nat) : Nat → Nat → Nat
  | 0, S => S
  | j + 1, S => nd (ah O (flB O H j S)) H
def hop (O : Nat → Nat) (H : Nat) : Nat → Nat → Nat
  | 0, S => S
  | j + 1, S => nd (ah (inv O) (hop O H j S)) H
section SURE
variable {n : Nat} {O : Nat → Nat}
theorem np_lt8 (h : NP n O) {p q : Nat} (k : (O p).testBit q = true) : p < n ∧ q < n := by
  constructor
  · rcases Nat.lt_or_ge p n with e | e
    · exact e
    · rw [h.out p e] at k; simp at k
  · exact tb_lt (h.lt p) k
theorem ah_tb (h : NP n O) (S q : Nat) : (ah O S).testBit q = true ↔ ∃ p, S.testBit p = true ∧ (O p).testBit q = true := by
  have h8 := h.h8
  rw [ah, uS_tb]
  constructor
  · rintro ⟨p, -, h2, h3⟩; exact ⟨p, h2, h3⟩
  · rintro ⟨p, h2, h3⟩; exact ⟨p, by have := (np_lt8 h h3).1; omega, h2, h3⟩
theorem be_tb (h : NP n O) {S : Nat} (hS : S < 256) (q : Nat) (hq : q < 8) : (ah (inv O) S).testBit q = true ↔ ∃ p, S.testBit p = true ∧ (O q).testBit p = true := by
  rw [ah, uS_tb]
  constructor
  · rintro ⟨p, h1, h2, h3⟩
    rw [inv_tb hq] at h3
    exact ⟨p, h2, h3⟩
  · rintro ⟨p, h2, h3⟩
    exact ⟨p, tb_lt (n := 8) hS h2, h2, by rw [inv_tb hq]; exact h3⟩
theorem flB_lt (h : NP n O) (H : Nat) (j : Nat) {S : Nat} (hS : S < 2 ^ n) : flB O H j S < 2 ^ n := by
  cases j with
  | zero => exact hS
  | succ j => exact nd_lt (ah_lt h _)
theorem flB_tb (h : NP n O) (H p : Nat) : ∀ j q, (flB O H j (2 ^ p)).testBit q = true ↔ Pa O H j p q := by
  intro j
  induction j with
  | zero => intro q; rw [flB, tb_pow]; simp [Pa]
  | succ j ih =>
    intro q
    rw [flB, nd_tb, Bool.and_eq_true, ah_tb h, Bool.not_eq_true']
    constructor
    · rintro ⟨⟨r, h1, h2⟩, h3⟩; exact ⟨r, (ih r).mp h1, h2, h3⟩
    · rintro ⟨r, h1, h2, h3⟩; exact ⟨⟨r, (ih r).mpr h1, h2⟩, h3⟩
theorem pa_first (O : Nat → Nat) (H : Nat) : ∀ j p q, Pa O H (j + 1) p q ↔ ∃ r, (O p).testBit r = true ∧ H.testBit r = false ∧ Pa O H j r q := by
  intro j
  induction j with
  | zero =>
    intro p q
    constructor
    · rintro ⟨r, rfl, h2, h3⟩; exact ⟨q, h2, h3, rfl⟩
    · rintro ⟨r, h2, h3, rfl⟩; exact ⟨p, rfl, h2, h3⟩
  | succ j ih =>
    intro p q
    constructor
    · rintro ⟨r, h1, h2, h3⟩
      obtain ⟨r', a1, a2, a3⟩ := (ih p r).mp h1
      exact ⟨r', a1, a2, r, a3, h2, h3⟩
    · rintro ⟨r', a1, a2, r, a3, h2, h3⟩
      exact ⟨r, (ih p r).mpr ⟨r', a1, a2, a3⟩, h2, h3⟩
theorem hop_lt (H : Nat) (j : Nat) {S : Nat} (hS : S < 256) : hop O H j S < 256 := by
  cases j with
  | zero => exact hS
  | succ j => exact nd_lt (be_lt8 _)
theorem hop_tb (h : NP n O) {H X : Nat} (hX : X < 256) (hd : ∀ q, X.testBit q = true → H.testBit q = false) : ∀ j p, p < 8 → ((hop O H j X).testBit p = true ↔ H.testBit p = false ∧ ∃ q, Pa O H j p q ∧ X.testBit q = true) := by
  intro j
  induction j with
  | zero =>
    intro p _
    rw [hop]
    constructor
    · intro k; exact ⟨hd p k, p, rfl, k⟩
    · rintro ⟨-, q, rfl, k⟩; exact k
  | succ j ih =>
    intro p hp
    rw [hop, nd_tb, Bool.and_eq_true, be_tb h (hop_lt H j hX) p hp, Bool.not_eq_true']
    have h8 := h.h8
    constructor
    · rintro ⟨⟨r, h1, h2⟩, h3⟩
      obtain ⟨h4, q, h5, h6⟩ := (ih r (by have := (np_lt8 h h2).2; omega)).mp h1
      exact ⟨h3, q, (pa_first O H j p q).mpr ⟨r, h2, h4, h5⟩, h6⟩
    · rintro ⟨h3, q, h5, h6⟩
      obtain ⟨r, a1, a2, a3⟩ := (pa_first O H j p q).mp h5
      exact ⟨⟨r, (ih r (by have := (np_lt8 h a1).2; omega)).mpr ⟨a2, q, a3, h6⟩, a1⟩, h3⟩
theorem pa_n (h : NP n O) {H : Nat} : ∀ j p q, p < n → Pa O H j p q → q < n := by
  intro j
  cases j with
  | zero => rintro p q hp rfl; exact hp
  | succ j => rintro p q hp ⟨r, -, h2, -⟩; exact (np_lt8 h h2).2
theorem pa_self (h : NP n O) {H p : Nat} (hp : p < n) (hH : H.testBit p = false) : ∀ j, Pa O H j p p := by
  intro j
  induction j with
  | zero => rfl
  | succ j ih => exact ⟨p, ih, h.self p hp, hH⟩
end SURE
/-- rows as numbers -/
def dgs : Nat → Nat → List Nat
  | 0, _ => []
  | K + 1, r => dgs K (r / 8) ++ [r % 8]
def num : List Nat → Nat
  | [] => 0
  | x :: l => x * 8 ^ l.length + num l
theorem dgs1 (r : Nat) : dgs 1 r = [r % 8] := rfl
theorem dgs2 (r : Nat) : dgs 2 r = [r / 8 % 8, r % 8] := rfl
theorem dgs3 (r : Nat) : dgs 3 r = [r / 64 % 8, r / 8 % 8, r % 8] := by
  show [r / 8 / 8 % 8, r / 8 % 8, r % 8] = _
  rw [Nat.div_div_eq_div_mul]
/-- a row of known places -/
def Vr (n K r : Nat) : Prop := r < 8 ^ K ∧ ∀ d, d ∈ dgs K r → d < n
/-- the row, rising -/
def srt : Nat → Nat → Nat
  | 1, r => r
  | 2, r => min (r / 8 % 8) (r % 8) * 8 + max (r / 8 % 8) (r % 8)
  | 3, r =>
    let a := r / 64 % 8
    let b := r / 8 % 8
    let c := r % 8
    let lo := min a (min b c)
    let hi := max a (max b c)
    lo * 64 + (a + b + c - lo - hi) * 8 + hi
  | _, r => r
theorem srt_all2 : ∀ r, r < 64 → srt 2 r < 64 ∧ (dgs 2 r).isPerm (dgs 2 (srt 2 r)) = true ∧ srt 2 (srt 2 r) = srt 2 r := by decide +kernel
theorem srt_all3 : ∀ r, r < 512 → srt 3 r < 512 ∧ (dgs 3 r).isPerm (dgs 3 (srt 3 r)) = true ∧ srt 3 (srt 3 r) = srt 3 r := by decide +kernel
theorem k123 {K : Nat} (h1 : 1 ≤ K) (h3 : K ≤ 3) : K = 1 ∨ K = 2 ∨ K = 3 := by omega
theorem srt_lt {K r : Nat} (h1 : 1 ≤ K) (h3 : K ≤ 3) (h : r < 8 ^ K) : srt K r < 8 ^ K := by
  rcases k123 h1 h3 with rfl | rfl | rfl
  · exact h
  · exact (srt_all2 r h).1
  · exact (srt_all3 r h).1
theorem srt_perm {K r : Nat} (h1 : 1 ≤ K) (h3 : K ≤ 3) (h : r < 8 ^ K) : (dgs K r).Perm (dgs K (srt K r)) := by
  rcases k123 h1 h3 with rfl | rfl | rfl
  · exact List.Perm.refl _
  · exact List.isPerm_iff.mp (srt_all2 r h).2.1
  · exact List.isPerm_iff.mp (srt_all3 r h).2.1
theorem srt_srt {K r : Nat} (h1 : 1 ≤ K) (h3 : K ≤ 3) (h : r < 8 ^ K) : srt K (srt K r) = srt K r := by
  rcases k123 h1 h3 with rfl | rfl | rfl
  · rfl
  · exact (srt_all2 r h).2.2
  · exact (srt_all3 r h).2.2
theorem srt_vr {n K r : Nat} (h1 : 1 ≤ K) (h3 : K ≤ 3) (h : Vr n K r) : Vr n K (srt K r) := ⟨srt_lt h1 h3 h.1, fun d hd => h.2 d ((srt_perm h1 h3 h.1).mem_iff.mpr hd)⟩
theorem dgs_lt8 : ∀ (K r d : Nat), d ∈ dgs K r → d < 8 := by
  intro K
  induction K with
  | zero => intro r d h; cases h
  | succ K ih =>
    intro r d h
    rw [dgs, List.mem_append] at h
    rcases h with h | h
    · exact ih _ d h
    · rw [List.mem_singleton] at h; omega
/-- rows of a list -/
theorem row_of {K : Nat} (h1 : 1 ≤ K) (h3 : K ≤ 3) {r : Nat} {O : Nat → Nat} {n : Nat} (h : NP n O) {l : List Nat} (hs : Sp O (dgs K r) l) : ∃ r', Vr n K r' ∧ dgs K r' = l := by
  have h8 := h.h8
  rcases k123 h1 h3 with rfl | rfl | rfl
  · rw [dgs1] at hs
    cases l with
    | nil => exact hs.elim
    | cons a l =>
      cases l with
      | nil =>
        have ha := (np_lt8 h hs.1).2
        refine ⟨a, ⟨by omega, ?_⟩, ?_⟩
        · rw [dgs1]; intro d hd; rw [List.mem_singleton] at hd; omega
        · rw [dgs1, Nat.mod_eq_of_lt (by omega)]
      | cons b l => exact hs.2.elim
  · rw [dgs2] at hs
    cases l with
    | nil => exact hs.elim
    | cons a l =>
      cases l with
      | nil => exact hs.2.elim
      | cons b l =>
        cases l with
        | nil =>
          have ha := (np_lt8 h hs.1).2
          have hb := (np_lt8 h hs.2.1).2
          have e : dgs 2 (8 * a + b) = [a, b] := by
            rw [dgs2, show (8 * a + b) / 8 % 8 = a by omega, show (8 * a + b) % 8 = b by omega]
          refine ⟨8 * a + b, ⟨by omega, ?_⟩, e⟩
          rw [e]; intro d hd
          simp only [List.mem_cons, List.not_mem_nil, or_false] at hd
          omega
        | cons c l => exact hs.2.2.elim
  · rw [dgs3] at hs
    cases l with
    | nil => exact hs.elim
    | cons a l =>
      cases l with
      | nil => exact hs.2.elim
      | cons b l =>
        cases l with
        | nil => exact hs.2.2.elim
        | cons c l =>
          cases l with
          | nil =>
            have ha := (np_lt8 h hs.1).2
            have hb := (np_lt8 h hs.2.1).2
            have hc := (np_lt8 h hs.2.2.1).2
            have e : dgs 3 (64 * a + 8 * b + c) = [a, b, c] := by
              rw [dgs3, show (64 * a + 8 * b + c) / 64 % 8 = a by omega, show (64 * a + 8 * b + c) / 8 % 8 = b by omega, show (64 * a + 8 * b + c) % 8 = c by omega]
            refine ⟨64 * a + 8 * b + c, ⟨by omega, ?_⟩, e⟩
            rw [e]; intro d hd
            simp only [List.mem_cons, List.not_mem_nil, or_false] at hd
            omega
          | cons d l => exact hs.2.2.2.elim
/-- the least number of rounds; 2 ^ 20: none -/
def Lv (O : Nat → Nat) (s : Nat) (l : List Nat) (p v : Nat) : Prop := (v < 8192 ∧ Su O s v l p ∧ ∀ t, t < v → ¬ Su O s t l p) ∨ (v = 1048576 ∧ ∀ t, ¬ Su O s t l p)
theorem lv_fun {O : Nat → Nat} {s : Nat} {l l' : List Nat} {p v w : Nat} (e : l.Perm l') (h : Lv O s l p v) (k : Lv O s l' p w) : v = w := by
  rcases h with ⟨-, h1, h2⟩ | ⟨h0, h1⟩
  · rcases k with ⟨-, k1, k2⟩ | ⟨-, k1⟩
    · rcases Nat.lt_trichotomy v w with q | q | q
      · exact (k2 v q (su_perm v p e h1)).elim
      · exact q
      · exact (h2 w q (su_perm w p e.symm k1)).elim
    · exact (k1 v (su_perm v p e h1)).elim
  · rcases k with ⟨-, k1, k2⟩ | ⟨k0, -⟩
    · exact (h1 w (su_perm w p e.symm k1)).elim
    · rw [h0, k0]
theorem lv_le {O : Nat → Nat} {s : Nat} {l : List Nat} {p v : Nat} (h : Lv O s l p v) : v ≤ 1048576 := by
  rcases h with ⟨h, -⟩ | ⟨h, -⟩ <;> omega
