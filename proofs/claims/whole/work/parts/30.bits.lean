/-! numbers and bits -/
theorem zl (n : Nat) : (OfNat.ofNat n : Int32) = nI n := rfl
theorem z_and (a b : Nat) : nI a &&& nI b = nI (a &&& b) := by
  apply Int32.toBitVec_inj.1
  show BitVec.ofNat 32 a &&& BitVec.ofNat 32 b = BitVec.ofNat 32 (a &&& b)
  apply BitVec.eq_of_getLsbD_eq
  intro i hi
  simp [hi]
theorem z_or (a b : Nat) : nI a ||| nI b = nI (a ||| b) := by
  apply Int32.toBitVec_inj.1
  show BitVec.ofNat 32 a ||| BitVec.ofNat 32 b = BitVec.ofNat 32 (a ||| b)
  apply BitVec.eq_of_getLsbD_eq
  intro i hi
  simp [hi]
theorem z_xor (a b : Nat) : nI a ^^^ nI b = nI (a ^^^ b) := by
  apply Int32.toBitVec_inj.1
  show BitVec.ofNat 32 a ^^^ BitVec.ofNat 32 b = BitVec.ofNat 32 (a ^^^ b)
  apply BitVec.eq_of_getLsbD_eq
  intro i hi
  simp [hi]
theorem z_sl : ∀ n, n < 32 → ((nI n &&& 31).toBitVec.smod 32).toNat = n := by decide +kernel
theorem z_shl {a p : Nat} (hp : p < 32) (h : a * 2 ^ p < 2 ^ 32) : nI a <<< (nI p &&& 31) = nI (a * 2 ^ p) := pk_shlN _ p (z_sl p hp) h
theorem z_pow {p : Nat} (hp : p < 31) : (1 : Int32) <<< (nI p &&& 31) = nI (2 ^ p) := by
  have h := z_shl (a := 1) (p := p) (by omega) (by rw [Nat.one_mul]; exact Nat.pow_lt_pow_right (by decide) (by omega))
  rw [Nat.one_mul] at h
  exact h
theorem z_shr {S p : Nat} (hS : S < 2 ^ 31) (hp : p < 32) : nI S >>> (nI p &&& 31) = nI (S / 2 ^ p) := pk_shrN hS _ p (z_sl p hp)
def bI (b : Bool) : Int32 := if b = true then 1 else 0
theorem bI_t : bI true = 1 := rfl
theorem bI_f : bI false = 0 := rfl
theorem bI_0 {b : Bool} : bI b = 0 ↔ b = false := by cases b <;> decide
theorem bI_1 {b : Bool} : bI b = 1 ↔ b = true := by cases b <;> decide
theorem bI_n (b : Bool) : bI b = nI b.toNat := by cases b <;> rfl
theorem z_bit {S p : Nat} (hS : S < 2 ^ 31) (hp : p < 32) : (nI S >>> (nI p &&& 31)) &&& 1 = bI (S.testBit p) := by
  rw [z_shr hS hp, zl, z_and, Nat.testBit_eq_decide_div_mod_eq, Nat.and_one_is_mod]
  rcases Nat.mod_two_eq_zero_or_one (S / 2 ^ p) with h | h <;> rw [h] <;> rfl
/-- a without b -/
def nd (a b : Nat) : Nat := a &&& (a ^^^ b)
theorem nd_tb (a b i : Nat) : (nd a b).testBit i = (a.testBit i && !b.testBit i) := by
  unfold nd
  rw [Nat.testBit_and, Nat.testBit_xor]
  cases a.testBit i <;> cases b.testBit i <;> rfl
theorem z_not (x y : Int32) : x &&& (y ^^^ (-1)) = x &&& (x ^^^ y) := by
  apply Int32.toBitVec_inj.1
  rw [Int32.toBitVec_and, Int32.toBitVec_xor, Int32.toBitVec_and, Int32.toBitVec_xor]
  apply BitVec.eq_of_getLsbD_eq
  intro i hi
  have h1 : (Int32.toBitVec (-1)).getLsbD i = true := (by decide +kernel : ∀ i, i < 32 → (Int32.toBitVec (-1)).getLsbD i = true) i hi
  rw [BitVec.getLsbD_and, BitVec.getLsbD_xor, BitVec.getLsbD_and, BitVec.getLsbD_xor, h1]
  cases x.toBitVec.getLsbD i <;> cases y.toBitVec.getLsbD i <;> rfl
theorem z_nd (a b : Nat) : nI a &&& (nI b ^^^ (-1)) = nI (nd a b) := by rw [z_not, z_xor, z_and]; rfl
theorem nd_lt {a b n : Nat} (h : a < n) : nd a b < n := Nat.lt_of_le_of_lt Nat.and_le_left h
theorem tb_ext {a b : Nat} (h : ∀ i, a.testBit i = b.testBit i) : a = b := Nat.eq_of_testBit_eq h
theorem tb_ge {S n i : Nat} (h : S < 2 ^ n) (hi : n ≤ i) : S.testBit i = false := Nat.testBit_lt_two_pow (Nat.lt_of_lt_of_le h (Nat.pow_le_pow_right (by decide) hi))
theorem tb_lt {S n i : Nat} (h : S < 2 ^ n) (hi : S.testBit i = true) : i < n := by
  rcases Nat.lt_or_ge i n with q | q
  · exact q
  · rw [tb_ge h q] at hi; cases hi
theorem lt_tb {S n : Nat} (h : ∀ i, n ≤ i → S.testBit i = false) : S < 2 ^ n := Nat.lt_pow_two_of_testBit S h
theorem tb_pow (p i : Nat) : (2 ^ p).testBit i = decide (p = i) := Nat.testBit_two_pow
/-- a set by its members among the first k places -/
def mkS (f : Nat → Bool) : Nat → Nat
  | 0 => 0
  | k + 1 => mkS f k ||| (if f k = true then 2 ^ k else 0)
theorem mkS_tb (f : Nat → Bool) (k i : Nat) : (mkS f k).testBit i = (decide (i < k) && f i) := by
  induction k with
  | zero => simp [mkS]
  | succ k ih =>
    rw [mkS, Nat.testBit_or, ih]
    by_cases h : f k = true
    · rw [if_pos h, tb_pow]
      by_cases e : k = i
      · subst e; simp [h]
      · have : (i < k + 1) ↔ i < k := by omega
        simp [e, this]
    · rw [if_neg h]
      by_cases e : k = i
      · subst e; simp [Bool.not_eq_true _ ▸ h]
      · have : (i < k + 1) ↔ i < k := by omega
        simp [this]
theorem mkS_lt (f : Nat → Bool) (k : Nat) : mkS f k < 2 ^ k := lt_tb (fun i hi => by rw [mkS_tb]; simp; omega)
theorem mkS_cg {f g : Nat → Bool} {k : Nat} (h : ∀ i, i < k → f i = g i) : mkS f k = mkS g k := tb_ext (fun i => by
  rw [mkS_tb, mkS_tb]
  by_cases hi : i < k
  · rw [h i hi]
  · simp [hi])
theorem mkS_of {S k : Nat} (h : S < 2 ^ k) : mkS S.testBit k = S := tb_ext (fun i => by
  rw [mkS_tb]
  by_cases hi : i < k
  · simp [hi]
  · simp [hi]; exact tb_ge h (Nat.not_lt.mp hi))
/-- the union of f p for the members p of S among the first k -/
def uS (f : Nat → Nat) (S : Nat) : Nat → Nat
  | 0 => 0
  | k + 1 => uS f S k ||| (if S.testBit k = true then f k else 0)
theorem uS_tb (f : Nat → Nat) (S k i : Nat) : (uS f S k).testBit i = true ↔ ∃ p, p < k ∧ S.testBit p = true ∧ (f p).testBit i = true := by
  induction k with
  | zero => simp [uS]
  | succ k ih =>
    rw [uS, Nat.testBit_or, Bool.or_eq_true, ih]
    constructor
    · rintro (⟨p, h1, h2⟩ | h)
      · exact ⟨p, by omega, h2⟩
      · by_cases hk : S.testBit k = true
        · rw [if_pos hk] at h; exact ⟨k, by omega, hk, h⟩
        · rw [if_neg hk] at h; simp at h
    · rintro ⟨p, h1, h2, h3⟩
      rcases Nat.lt_succ_iff_lt_or_eq.mp h1 with h | rfl
      · exact Or.inl ⟨p, h, h2, h3⟩
      · exact Or.inr (by rw [if_pos h2]; exact h3)
theorem uS_lt {f : Nat → Nat} {S k n : Nat} (h : ∀ p, p < k → f p < 2 ^ n) : uS f S k < 2 ^ n := lt_tb (fun i hi => by
  cases hb : (uS f S k).testBit i with
  | false => rfl
  | true =>
    obtain ⟨p, h1, -, h3⟩ := (uS_tb f S k i).mp hb
    rw [tb_ge (h p h1) hi] at h3
    cases h3)
theorem or_lt {a b n : Nat} (ha : a < 2 ^ n) (hb : b < 2 ^ n) : a ||| b < 2 ^ n := Nat.or_lt_two_pow ha hb
theorem pow_le8 {n : Nat} (h : n ≤ 8) : 2 ^ n ≤ 256 := Nat.pow_le_pow_right (n := 2) (by decide) h
/-- how many members -/
def pc (S : Nat) : Nat → Nat
  | 0 => 0
  | k + 1 => pc S k + (if S.testBit k = true then 1 else 0)
theorem pc_le (S k : Nat) : pc S k ≤ k := by
  induction k with
  | zero => exact Nat.le_refl _
  | succ k ih => rw [pc]; split <;> omega
/-! the words of the pure texts, when they go well -/
theorem calP_s {β R : Type} (v : β) (K : β → Option R) : calP (some v) K = K v := rfl
theorem cal_s {β R : Type} (v : β) (σ : St) (K : β → St → Option R) : cal (some (v, σ)) K = K v σ := rfl
theorem bd_s {α R : Type} (e : α) (K : α → R) : bd e K = K e := rfl
theorem ck_s {R : Type} {j n : Nat} (k : Option R) (h : j < n) (hn : n < 2 ^ 31) : ck (nI j) n k = k := by
  unfold ck
  rw [if_neg (nI_pos (by omega)), nI_clamp (by omega), if_neg (by omega)]
theorem ckN_s {R : Type} {i n : Nat} (k : Option R) (h : i < n) : ckN i n k = k := by unfold ckN; rw [if_pos h]
theorem ckZ_0 {R : Type} (k : Option R) : ckZ 0 k = k := rfl
theorem ckZ_1 {R : Type} (k : Option R) : ckZ 1 k = k := rfl
theorem ckZ_b {R : Type} (b : Bool) (k : Option R) : ckZ (bI b) k = k := by cases b <;> rfl
theorem nI_m1 {a : Nat} (h : a < 2 ^ 31) : ¬ nI a = -1 := by
  intro e
  have h1 := congrArg Int32.toInt e
  rw [nI_toInt h] at h1
  have h2 : Int32.toInt (-1) = -1 := by decide
  omega
theorem m1_nI {a : Nat} (h : a < 2 ^ 31) : ¬ (-1 : Int32) = nI a := fun e => nI_m1 h e.symm
theorem m1_lt {a : Nat} (h : a < 2 ^ 31) : (-1 : Int32) < nI a := by
  rw [Int32.lt_iff_toInt_lt, nI_toInt h, show Int32.toInt (-1) = -1 by decide]
  omega
theorem nlt_m1 {a : Nat} (h : a < 2 ^ 31) : ¬ nI a < (-1 : Int32) := by
  rw [Int32.lt_iff_toInt_lt, nI_toInt h, show Int32.toInt (-1) = -1 by decide]
  omega
theorem some_wp {R : Type} {Q : R → Prop} {r : R} (h : Q r) : ∃ r', some r = some r' ∧ Q r' := ⟨r, rfl, h⟩
theorem lo1_wp {A0 R : Type} {F : (A0 → Option R) → A0 → Option R} (Q : R → Prop) (I : A0 → Prop) (μ : A0 → Nat) (hs : ∀ rec a0, I a0 → (∀ b0, I b0 → μ b0 < μ a0 → ∃ r, rec b0 = some r ∧ Q r) → ∃ r, F rec a0 = some r ∧ Q r) : ∀ N a0, I a0 → μ a0 < N → ∃ r, lo1 N F a0 = some r ∧ Q r := by
  intro N
  induction N with
  | zero => intro a0 _ h; omega
  | succ N ih => intro a0 hI hm; exact hs (lo1 N F) a0 hI (fun b0 hb hlt => ih b0 hb (by omega))
theorem lo2_wp {A0 A1 R : Type} {F : (A0 → A1 → Option R) → A0 → A1 → Option R} (Q : R → Prop) (I : A0 → A1 → Prop) (μ : A0 → A1 → Nat) (hs : ∀ rec a0 a1, I a0 a1 → (∀ b0 b1, I b0 b1 → μ b0 b1 < μ a0 a1 → ∃ r, rec b0 b1 = some r ∧ Q r) → ∃ r, F rec a0 a1 = some r ∧ Q r) : ∀ N a0 a1, I a0 a1 → μ a0 a1 < N → ∃ r, lo2 N F a0 a1 = some r ∧ Q r := by
  intro N
  induction N with
  | zero => intro a0 a1 _ h; omega
  | succ N ih => intro a0 a1 hI hm; exact hs (lo2 N F) a0 a1 hI (fun b0 b1 hb hlt => ih b0 b1 hb (by omega))
theorem lo3_wp {A0 A1 A2 R : Type} {F : (A0 → A1 → A2 → Option R) → A0 → A1 → A2 → Option R} (Q : R → Prop) (I : A0 → A1 → A2 → Prop) (μ : A0 → A1 → A2 → Nat) (hs : ∀ rec a0 a1 a2, I a0 a1 a2 → (∀ b0 b1 b2, I b0 b1 b2 → μ b0 b1 b2 < μ a0 a1 a2 → ∃ r, rec b0 b1 b2 = some r ∧ Q r) → ∃ r, F rec a0 a1 a2 = some r ∧ Q r) : ∀ N a0 a1 a2, I a0 a1 a2 → μ a0 a1 a2 < N → ∃ r, lo3 N F a0 a1 a2 = some r ∧ Q r := by
  intro N
  induction N with
  | zero => intro a0 a1 a2 _ h; omega
  | succ N ih => intro a0 a1 a2 hI hm; exact hs (lo3 N F) a0 a1 a2 hI (fun b0 b1 b2 hb hlt => ih b0 b1 b2 hb (by omega))
theorem lo4_wp {A0 A1 A2 A3 R : Type} {F : (A0 → A1 → A2 → A3 → Option R) → A0 → A1 → A2 → A3 → Option R} (Q : R → Prop) (I : A0 → A1 → A2 → A3 → Prop) (μ : A0 → A1 → A2 → A3 → Nat) (hs : ∀ rec a0 a1 a2 a3, I a0 a1 a2 a3 → (∀ b0 b1 b2 b3, I b0 b1 b2 b3 → μ b0 b1 b2 b3 < μ a0 a1 a2 a3 → ∃ r, rec b0 b1 b2 b3 = some r ∧ Q r) → ∃ r, F rec a0 a1 a2 a3 = some r ∧ Q r) : ∀ N a0 a1 a2 a3, I a0 a1 a2 a3 → μ a0 a1 a2 a3 < N → ∃ r, lo4 N F a0 a1 a2 a3 = some r ∧ Q r := by
  intro N
  induction N with
  | zero => intro a0 a1 a2 a3 _ h; omega
  | succ N ih => intro a0 a1 a2 a3 hI hm; exact hs (lo4 N F) a0 a1 a2 a3 hI (fun b0 b1 b2 b3 hb hlt => ih b0 b1 b2 b3 hb (by omega))
theorem lo5_wp {A0 A1 A2 A3 A4 R : Type} {F : (A0 → A1 → A2 → A3 → A4 → Option R) → A0 → A1 → A2 → A3 → A4 → Option R} (Q : R → Prop) (I : A0 → A1 → A2 → A3 → A4 → Prop) (μ : A0 → A1 → A2 → A3 → A4 → Nat) (hs : ∀ rec a0 a1 a2 a3 a4, I a0 a1 a2 a3 a4 → (∀ b0 b1 b2 b3 b4, I b0 b1 b2 b3 b4 → μ b0 b1 b2 b3 b4 < μ a0 a1 a2 a3 a4 → ∃ r, rec b0 b1 b2 b3 b4 = some r ∧ Q r) → ∃ r, F rec a0 a1 a2 a3 a4 = some r ∧ Q r) : ∀ N a0 a1 a2 a3 a4, I a0 a1 a2 a3 a4 → μ a0 a1 a2 a3 a4 < N → ∃ r, lo5 N F a0 a1 a2 a3 a4 = some r ∧ Q r := by
  intro N
  induction N with
  | zero => intro a0 a1 a2 a3 a4 _ h; omega
  | succ N ih => intro a0 a1 a2 a3 a4 hI hm; exact hs (lo5 N F) a0 a1 a2 a3 a4 hI (fun b0 b1 b2 b3 b4 hb hlt => ih b0 b1 b2 b3 b4 hb (by omega))
theorem lo6_wp {A0 A1 A2 A3 A4 A5 R : Type} {F : (A0 → A1 → A2 → A3 → A4 → A5 → Option R) → A0 → A1 → A2 → A3 → A4 → A5 → Option R} (Q : R → Prop) (I : A0 → A1 → A2 → A3 → A4 → A5 → Prop) (μ : A0 → A1 → A2 → A3 → A4 → A5 → Nat) (hs : ∀ rec a0 a1 a2 a3 a4 a5, I a0 a1 a2 a3 a4 a5 → (∀ b0 b1 b2 b3 b4 b5, I b0 b1 b2 b3 b4 b5 → μ b0 b1 b2 b3 b4 b5 < μ a0 a1 a2 a3 a4 a5 → ∃ r, rec b0 b1 b2 b3 b4 b5 = some r ∧ Q r) → ∃ r, F rec a0 a1 a2 a3 a4 a5 = some r ∧ Q r) : ∀ N a0 a1 a2 a3 a4 a5, I a0 a1 a2 a3 a4 a5 → μ a0 a1 a2 a3 a4 a5 < N → ∃ r, lo6 N F a0 a1 a2 a3 a4 a5 = some r ∧ Q r := by
  intro N
  induction N with
  | zero => intro a0 a1 a2 a3 a4 a5 _ h; omega
  | succ N ih => intro a0 a1 a2 a3 a4 a5 hI hm; exact hs (lo6 N F) a0 a1 a2 a3 a4 a5 hI (fun b0 b1 b2 b3 b4 b5 hb hlt => ih b0 b1 b2 b3 b4 b5 hb (by omega))
theorem lo7_wp {A0 A1 A2 A3 A4 A5 A6 R : Type} {F : (A0 → A1 → A2 → A3 → A4 → A5 → A6 → Option R) → A0 → A1 → A2 → A3 → A4 → A5 → A6 → Option R} (Q : R → Prop) (I : A0 → A1 → A2 → A3 → A4 → A5 → A6 → Prop) (μ : A0 → A1 → A2 → A3 → A4 → A5 → A6 → Nat) (hs : ∀ rec a0 a1 a2 a3 a4 a5 a6, I a0 a1 a2 a3 a4 a5 a6 → (∀ b0 b1 b2 b3 b4 b5 b6, I b0 b1 b2 b3 b4 b5 b6 → μ b0 b1 b2 b3 b4 b5 b6 < μ a0 a1 a2 a3 a4 a5 a6 → ∃ r, rec b0 b1 b2 b3 b4 b5 b6 = some r ∧ Q r) → ∃ r, F rec a0 a1 a2 a3 a4 a5 a6 = some r ∧ Q r) : ∀ N a0 a1 a2 a3 a4 a5 a6, I a0 a1 a2 a3 a4 a5 a6 → μ a0 a1 a2 a3 a4 a5 a6 < N → ∃ r, lo7 N F a0 a1 a2 a3 a4 a5 a6 = some r ∧ Q r := by
  intro N
  induction N with
  | zero => intro a0 a1 a2 a3 a4 a5 a6 _ h; omega
  | succ N ih => intro a0 a1 a2 a3 a4 a5 a6 hI hm; exact hs (lo7 N F) a0 a1 a2 a3 a4 a5 a6 hI (fun b0 b1 b2 b3 b4 b5 b6 hb hlt => ih b0 b1 b2 b3 b4 b5 b6 hb (by omega))
theorem lo8_wp {A0 A1 A2 A3 A4 A5 A6 A7 R : Type} {F : (A0 → A1 → A2 → A3 → A4 → A5 → A6 → A7 → Option R) → A0 → A1 → A2 → A3 → A4 → A5 → A6 → A7 → Option R} (Q : R → Prop) (I : A0 → A1 → A2 → A3 → A4 → A5 → A6 → A7 → Prop) (μ : A0 → A1 → A2 → A3 → A4 → A5 → A6 → A7 → Nat) (hs : ∀ rec a0 a1 a2 a3 a4 a5 a6 a7, I a0 a1 a2 a3 a4 a5 a6 a7 → (∀ b0 b1 b2 b3 b4 b5 b6 b7, I b0 b1 b2 b3 b4 b5 b6 b7 → μ b0 b1 b2 b3 b4 b5 b6 b7 < μ a0 a1 a2 a3 a4 a5 a6 a7 → ∃ r, rec b0 b1 b2 b3 b4 b5 b6 b7 = some r ∧ Q r) → ∃ r, F rec a0 a1 a2 a3 a4 a5 a6 a7 = some r ∧ Q r) : ∀ N a0 a1 a2 a3 a4 a5 a6 a7, I a0 a1 a2 a3 a4 a5 a6 a7 → μ a0 a1 a2 a3 a4 a5 a6 a7 < N → ∃ r, lo8 N F a0 a1 a2 a3 a4 a5 a6 a7 = some r ∧ Q r := by
  intro N
  induction N with
  | zero => intro a0 a1 a2 a3 a4 a5 a6 a7 _ h; omega
  | succ N ih => intro a0 a1 a2 a3 a4 a5 a6 a7 hI hm; exact hs (lo8 N F) a0 a1 a2 a3 a4 a5 a6 a7 hI (fun b0 b1 b2 b3 b4 b5 b6 b7 hb hlt => ih b0 b1 b2 b3 b4 b5 b6 b7 hb (by omega))
