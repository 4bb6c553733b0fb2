/-! long words by bits -/
def lb (x : Int64) (i : Nat) : Bool := x.toBitVec.getLsbD i
theorem lb_ge {x : Int64} {i : Nat} (h : 64 ≤ i) : lb x i = false := BitVec.getLsbD_of_ge _ _ h
theorem lb_ext {x y : Int64} (h : ∀ i, i < 64 → lb x i = lb y i) : x = y := by
  apply Int64.toBitVec_inj.1
  apply BitVec.eq_of_getLsbD_eq
  intro i hi
  exact h i hi
theorem lb_and (x y : Int64) (i : Nat) : lb (x &&& y) i = (lb x i && lb y i) := by
  unfold lb; rw [Int64.toBitVec_and, BitVec.getLsbD_and]
theorem lb_or (x y : Int64) (i : Nat) : lb (x ||| y) i = (lb x i || lb y i) := by
  unfold lb; rw [Int64.toBitVec_or, BitVec.getLsbD_or]
theorem lb_m1 : ∀ i, i < 64 → lb (-1) i = true := by decide +kernel
theorem lb_0 (i : Nat) : lb 0 i = false := by
  unfold lb
  show (BitVec.ofNat 64 0).getLsbD i = false
  simp
theorem lb_not (x : Int64) {i : Nat} (h : i < 64) : lb (x ^^^ (-1)) i = !lb x i := by
  have h1 := lb_m1 i h
  unfold lb at h1 ⊢
  rw [Int64.toBitVec_xor, BitVec.getLsbD_xor, h1]
  cases x.toBitVec.getLsbD i <;> rfl
theorem l_sl : ∀ k, k < 64 → (((nI k).toInt64 &&& 63).toBitVec.smod 64).toNat = k := by decide +kernel
theorem lb_shl (x : Int64) {k i : Nat} (hk : k < 64) (hi : i < 64) : lb (x <<< ((nI k).toInt64 &&& 63)) i = (decide (k ≤ i) && lb x (i - k)) := by
  unfold lb
  rw [Int64.toBitVec_shiftLeft, BitVec.getLsbD_shiftLeft', l_sl k hk]
  by_cases h : k ≤ i
  · have : ¬ i < k := by omega
    simp [h, this, hi]
  · have : i < k := by omega
    simp [h, this]
theorem lb_one {k i : Nat} (hk : k < 64) (hi : i < 64) : lb ((1 : Int64) <<< ((nI k).toInt64 &&& 63)) i = decide (i = k) := by
  rw [lb_shl _ hk hi]
  have : ∀ j, j < 64 → lb 1 j = decide (j = 0) := by decide +kernel
  by_cases h : k ≤ i
  · rw [this (i - k) (by omega), decide_eq_true h, Bool.true_and, decide_eq_decide]
    omega
  · rw [decide_eq_false h, decide_eq_false (by omega)]; rfl
theorem lb_shr {x : Int64} {k : Nat} (hk : k < 64) : (x >>> ((nI k).toInt64 &&& 63)) &&& 1 = 0 ↔ lb x k = false := by
  have h1 : ∀ j, j < 64 → lb 1 j = decide (j = 0) := by decide +kernel
  have h0 : lb ((x >>> ((nI k).toInt64 &&& 63)) &&& 1) 0 = lb x k := by
    rw [lb_and, h1 0 (by decide)]
    unfold lb
    rw [Int64.toBitVec_shiftRight, BitVec.getLsbD_sshiftRight', l_sl k hk]
    simp [hk]
  constructor
  · intro e
    rw [← h0, e, lb_0]
  · intro e
    refine lb_ext (fun i hi => ?_)
    rw [lb_0]
    by_cases g : i = 0
    · rw [g, h0]; exact e
    · rw [lb_and, h1 i hi, decide_eq_false g, Bool.and_false]
theorem cmp0 (x : Int64) : lg_cmp x 0 = 0 ↔ x = 0 := by
  unfold lg_cmp
  by_cases h1 : x > 0
  · rw [if_pos h1]
    constructor
    · intro e; exact absurd e (by decide)
    · intro e; rw [e] at h1; exact absurd h1 (by decide)
  · rw [if_neg h1]
    by_cases h2 : x = 0
    · rw [if_pos h2]; exact ⟨fun _ => h2, fun _ => rfl⟩
    · rw [if_neg h2]
      constructor
      · intro e; exact absurd e (by decide)
      · intro e; exact absurd e h2
theorem lb_zero {x : Int64} : x = 0 ↔ ∀ i, i < 64 → lb x i = false := by
  constructor
  · rintro rfl i _; exact lb_0 i
  · intro h; exact lb_ext (fun i hi => by rw [h i hi, lb_0])
theorem low_bit {x : Int64} {k : Nat} (hk : k < 64) (h1 : lb x k = true) (h2 : ∀ j, j < k → lb x j = false) : x &&& (-x) = (1 : Int64) <<< ((nI k).toInt64 &&& 63) := by
  refine lb_ext (fun i hi => ?_)
  rw [lb_one hk hi, lb_and]
  have hn : lb (-x) i = (lb x i ^^ decide (i < 64) && decide (∃ j, j < i ∧ lb x j = true)) := by
    unfold lb
    rw [Int64.toBitVec_neg, BitVec.getLsbD_neg]
  rw [hn, decide_eq_true hi, Bool.true_and]
  rcases Nat.lt_trichotomy i k with g | g | g
  · rw [h2 i g, decide_eq_false (show ¬ i = k by omega)]; rfl
  · subst g
    rw [h1, decide_eq_true rfl, decide_eq_false (show ¬ ∃ j, j < i ∧ lb x j = true from fun ⟨j, a, b⟩ => by rw [h2 j a] at b; cases b)]
    rfl
  · rw [decide_eq_true (show ∃ j, j < i ∧ lb x j = true from ⟨k, g, h1⟩), decide_eq_false (show ¬ i = k by omega)]
    cases lb x i <;> rfl
theorem bc64 : ∀ k, k < 64 → f_J13_bitCount_95d88 σ0 ((1 : Int64) <<< ((nI k).toInt64 &&& 63) - 1) = some (nI k) := by decide +kernel
theorem e_low {s : St} {x : Int64} {k : Nat} (hk : k < 64) (h1 : lb x k = true) (h2 : ∀ j, j < k → lb x j = false) : f_J13_bitCount_95d88 s ((x &&& (-x)) - 1) = some (nI k) := by
  rw [low_bit hk h1 h2]
  exact bc64 k hk
def hv (p w : Nat) : Int64 := (f_X2_having σ0 (nI p) (nI w)).getD 0
theorem hv_all : ∀ p, p < 8 → ∀ w, w < 4 → f_X2_having σ0 (nI p) (nI w) = some (hv p w) ∧ ∀ i, i < 64 → lb (hv p w) i = (64 * w + i).testBit p := by decide +kernel
theorem e_having {s : St} {p w : Nat} (hp : p < 8) (hw : w < 4) : f_X2_having s (nI p) (nI w) = some (hv p w) := (hv_all p hp w hw).1
theorem hv_tb {p w i : Nat} (hp : p < 8) (hw : w < 4) (hi : i < 64) : lb (hv p w) i = (64 * w + i).testBit p := (hv_all p hp w hw).2 i hi
/-- the bit of a set in a row of four words -/
def rb (f : Nat → Int64) (b T : Nat) : Bool := lb (f (b + T / 64)) (T % 64)
theorem y_and63 (x : Nat) : nI x &&& (63 : Int32) = nI (x % 64) := by
  rw [show (63 : Int32) = nI 63 from rfl, z_and]
  exact congrArg nI (Nat.and_two_pow_sub_one_eq_mod x 6)
theorem e_put {σ : St} {a b T : Nat} (hT : T < 256) (hl : b + 4 ≤ ln a) (hl2 : ln a < 100000) : Ok (f_X2_put σ a (nI b) (nI T)) (fun q => q.2 = setL σ a (b + T / 64) (σ.2 a (b + T / 64) ||| ((1 : Int64) <<< ((nI (T % 64)).toInt64 &&& 63)))) := by
  unfold f_X2_put
  rw [q_6, z_shr (by omega) (by omega), show T / 2 ^ 6 = T / 64 from rfl, nI_add, bd_s, q_0, if_neg (nI_nlt (Nat.zero_le _) (by omega)), if_pos (nI_lt (by omega) (by omega)), y_ck _ (by omega) (by omega), y_ck _ (by omega) (by omega), nI_clamp (by omega), y_and63, bd_s]
  exact ok_some rfl
theorem rb_put {f : Nat → Int64} {b T : Nat} : ∀ y i, i < 64 → lb ((vp_updL f (b + T / 64) (f (b + T / 64) ||| ((1 : Int64) <<< ((nI (T % 64)).toInt64 &&& 63)))) y) i = (lb (f y) i || (decide (y = b + T / 64) && decide (i = T % 64))) := by
  intro y i hi
  show lb (if y = b + T / 64 then (f (b + T / 64) ||| ((1 : Int64) <<< ((nI (T % 64)).toInt64 &&& 63))) else f y) i = _
  by_cases e : y = b + T / 64
  · rw [if_pos e, lb_or, lb_one (Nat.mod_lt _ (by decide)) hi, decide_eq_true e, Bool.true_and, e]
  · rw [if_neg e, decide_eq_false e, Bool.false_and, Bool.or_false]
theorem e_fillL {σ : St} {a : Nat} (v : Int64) (hl : ln a < 100000) : Ok (f_J7_fill_d0a16 σ a v) (fun q => (∀ x, x < ln a → q.2.2 a x = v) ∧ Fr (fun c => c = a) σ q.2 ∧ q.2.1 = σ.1) := by
  unfold f_J7_fill_d0a16
  rw [bd_s, q_0, q_1]
  refine lo2_for (fun i s => (∀ x, x < i → s.2 a x = v) ∧ Fr (fun c => c = a) σ s ∧ s.1 = σ.1) (ln a) ?_ ?_ FU 0 _ (Nat.zero_le _) (fu_lt (by omega)) ⟨fun x hx => absurd hx (Nat.not_lt_zero _), fr_refl, rfl⟩
  · rintro rec i s hi ⟨h1, h2, h3⟩ kk
    rw [if_pos (nI_lt hi (by omega)), y_ck _ hi (by omega), nI_clamp (by omega), bd_s, nI_add]
    refine kk _ ⟨fun x hx => ?_, fr_setL h2 rfl, h3⟩
    rw [gsL_s]
    by_cases e : x = i
    · rw [if_pos e]
    · rw [if_neg e]; exact h1 x (by omega)
  · rintro rec s h
    rw [if_neg (nI_nlt (Nat.le_refl _) (by omega))]
    exact ok_some h
