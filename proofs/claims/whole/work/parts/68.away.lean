/-! the first number of a kind; places taken away -/
theorem nI_mm {a : Nat} (h : a < 2 ^ 31) : ¬ nI a = M1 := nI_m1 h
theorem b_t0 : ¬ nI true.toNat = nI 0 := by decide
theorem b_f0 : nI false.toNat = nI 0 := rfl
theorem b_t1 : nI true.toNat = nI 1 := rfl
theorem b_f1 : ¬ nI false.toNat = nI 1 := by decide
theorem b_10 : ¬ nI 1 = nI 0 := by decide
theorem b_01 : ¬ nI 0 = nI 1 := by decide
theorem nI_ne {a b : Nat} (ha : a < 2 ^ 31) (hb : b < 2 ^ 31) (h : ¬ a = b) : ¬ nI a = nI b := fun e => h ((nI_eq ha hb).mp e)
def fsN (f : Nat → Bool) : Nat → Nat
  | 0 => 0
  | m + 1 => if fsN f m < m then fsN f m else if f m = true then m else m + 1
theorem fs_sp (f : Nat → Bool) : ∀ m, fsN f m ≤ m ∧ (fsN f m < m → f (fsN f m) = true) ∧ ∀ q, q < fsN f m → f q = false := by
  intro m
  induction m with
  | zero => exact ⟨Nat.le_refl _, fun h => absurd h (Nat.lt_irrefl _), fun q h => absurd h (Nat.not_lt_zero _)⟩
  | succ m ih =>
    obtain ⟨h1, h2, h3⟩ := ih
    rw [fsN]
    by_cases q : fsN f m < m
    · rw [if_pos q]; exact ⟨by omega, fun _ => h2 q, h3⟩
    · rw [if_neg q]
      have e : fsN f m = m := by omega
      rw [e] at h3
      by_cases g : f m = true
      · rw [if_pos g]; exact ⟨by omega, fun _ => g, h3⟩
      · rw [if_neg g]
        refine ⟨Nat.le_refl _, fun h => absurd h (Nat.lt_irrefl _), fun x hx => ?_⟩
        rcases Nat.lt_succ_iff_lt_or_eq.mp hx with h | rfl
        · exact h3 x h
        · simpa using g
theorem fs_eq {f : Nat → Bool} {m a : Nat} (ha : a ≤ m) (h1 : a < m → f a = true) (h2 : ∀ q, q < a → f q = false) : fsN f m = a := by
  obtain ⟨k1, k2, k3⟩ := fs_sp f m
  rcases Nat.lt_trichotomy (fsN f m) a with h | h | h
  · have := k2 (by omega); rw [h2 _ h] at this; cases this
  · exact h
  · have := h1 (by omega); rw [k3 _ h] at this; cases this
theorem fs_ext {f : Nat → Bool} {j : Nat} (h : ∀ q, q < j → f q = false) (g : f j = false) : ∀ q, q < j + 1 → f q = false := fun q hq => by
  rcases Nat.lt_succ_iff_lt_or_eq.mp hq with e | rfl
  · exact h q e
  · exact g
theorem fs_ext' {P : Nat → Prop} {j : Nat} (h : ∀ q, q < j → P q) (g : P j) : ∀ q, q < j + 1 → P q := fun q hq => by
  rcases Nat.lt_succ_iff_lt_or_eq.mp hq with e | rfl
  · exact h q e
  · exact g
theorem fs_nil {f : Nat → Bool} : ∀ q, q < 0 → f q = false := fun q h => absurd h (Nat.not_lt_zero _)
theorem fs_hit {f : Nat → Bool} {n j : Nat} (hj : j < n) (h : ∀ q, q < j → f q = false) (g : f j = true) : fsN f n = j := fs_eq (by omega) (fun _ => g) h
theorem fs_miss {f : Nat → Bool} {n : Nat} (h : ∀ q, q < n → f q = false) : fsN f n = n := fs_eq (Nat.le_refl _) (fun h => absurd h (Nat.lt_irrefl _)) h
def fi (f : Nat → Bool) (m : Nat) : Int32 := if fsN f m < m then nI (fsN f m) else M1
theorem fi_hit {f : Nat → Bool} {n j : Nat} (hj : j < n) (h : ∀ q, q < j → f q = false) (g : f j = true) : fi f n = nI j := by
  unfold fi; rw [fs_hit hj h g, if_pos hj]
theorem fi_miss {f : Nat → Bool} {n : Nat} (h : ∀ q, q < n → f q = false) : fi f n = M1 := by
  unfold fi; rw [fs_miss h, if_neg (Nat.lt_irrefl _)]
theorem hit_s (f : Nat → Bool) (q : Nat) : decide (fsN f (q + 1) < q + 1) = (decide (fsN f q < q) || f q) := by
  have h := (fs_sp f q).1
  rw [fsN]
  by_cases g : fsN f q < q
  · rw [if_pos g]; have : fsN f q < q + 1 := by omega
    simp [g, this]
  · rw [if_neg g]
    cases e : f q <;> simp [g]
theorem fs_false {f : Nat → Bool} (h : ∀ q, f q = false) (n : Nat) : decide (fsN f n < n) = false := by
  rw [fs_miss (fun q _ => h q)]; simp
/-- the first of a kind, sought downwards -/
def LD (f : Nat → Bool) (n j : Nat) (x : Int32) : Prop := (x = M1 ∧ ∀ p, j ≤ p → p < n → f p = false) ∨ ∃ a, j ≤ a ∧ a < n ∧ x = nI a ∧ f a = true ∧ ∀ p, j ≤ p → p < a → f p = false
theorem ld_top (f : Nat → Bool) (n : Nat) : LD f n n M1 := Or.inl ⟨rfl, fun p h1 h2 => by omega⟩
theorem ld_hit {f : Nat → Bool} {n j : Nat} (hj : j < n) (h : f j = true) : LD f n j (nI j) := Or.inr ⟨j, Nat.le_refl _, hj, rfl, h, fun p h1 h2 => by omega⟩
theorem ld_miss {f : Nat → Bool} {n j : Nat} {x : Int32} (h : LD f n (j + 1) x) (g : f j = false) : LD f n j x := by
  have hh : ∀ p, j ≤ p → p = j ∨ j + 1 ≤ p := fun p hp => by omega
  rcases h with ⟨e, h⟩ | ⟨a, h1, h2, h3, h4, h5⟩
  · refine Or.inl ⟨e, fun p h1 h2 => ?_⟩
    rcases hh p h1 with rfl | h3
    · exact g
    · exact h p h3 h2
  · refine Or.inr ⟨a, by omega, h2, h3, h4, fun p k1 k2 => ?_⟩
    rcases hh p k1 with rfl | k3
    · exact g
    · exact h5 p k3 k2
theorem ld_fin {f : Nat → Bool} {n : Nat} {x : Int32} (h : LD f n 0 x) : x = fi f n := by
  rcases h with ⟨e, h⟩ | ⟨a, h1, h2, h3, h4, h5⟩
  · rw [e, fi_miss (fun q hq => h q (Nat.zero_le _) hq)]
  · rw [h3, fi_hit h2 (fun q hq => h5 q (Nat.zero_le _) hq) h4]
/-- both ways; covered -/
def bw (O : Nat → Nat) (p : Nat) : Nat := O p &&& inv O p
def cvT (O : Nat → Nat) (S p q : Nat) : Bool := !decide (q = p) && S.testBit q && decide (nd (bw O p &&& S) (bw O q) = 0)
def cvA (n : Nat) (O : Nat → Nat) (S p : Nat) : Bool := S.testBit p && decide (fsN (cvT O S p) n < n)
section AWAY
variable {σ : St} {n c : Nat} {O : Nat → Nat}
theorem bw_lt (h : NP n O) (p : Nat) : bw O p < 256 := Nat.lt_of_le_of_lt Nat.and_le_left (h.lt8 p)
theorem cvn_lt (h : NP n O) (S p q : Nat) : nd (bw O p &&& S) (bw O q) < 256 := nd_lt (Nat.lt_of_le_of_lt Nat.and_le_left (bw_lt h p))
theorem e_bw (h : N0 σ n O) {p : Nat} (hp : p < 2 ^ 31) : f_X3_bothWays σ (nI p) = some (nI (bw O p)) := e_bothWays h hp
theorem e_isCovered (h : N0 σ n O) {S p : Nat} (hS : S < 256) (hp : p < n) : f_X1_isCovered σ (nI S) (nI p) = some (nI (decide (fsN (cvT O S p) n < n)).toNat) := by
  have h8 := h.np.h8
  unfold f_X1_isCovered f_X3_places
  rw [q_mm, q_0, q_1]
  refine ok_eq (lo1_for (fun j => ∀ q, q < j → cvT O S p q = false) n ?_ ?_ FU 0 (by omega) (fu_lt (by omega)) fs_nil)
  · intro rec j hj hI kk
    have hb : f_X9_has σ (nI S) (nI j) = some (nI (S.testBit j).toNat) := e_has (by omega) (by omega)
    have hl := cvn_lt h.np S p j
    rw [h.pl, calP_s, if_pos (nI_lt hj (by omega)), jn1, nI_add, hb, calP_s, e_bw h (p := p) (by omega), calP_s, e_bw h (p := j) (by omega), calP_s, z_and, y_nd]
    dsimp only
    by_cases q : j = p
    · rw [if_pos (by rw [q]), if_pos rfl]
      exact kk (fs_ext hI (by simp [cvT, q]))
    · rw [if_neg (nI_ne (by omega) (by omega) q)]
      cases hb2 : S.testBit j with
      | false => rw [if_pos b_f0, if_pos rfl]; exact kk (fs_ext hI (by simp [cvT, hb2]))
      | true =>
        rw [if_neg b_t0, if_neg b_10]
        by_cases g : nd (bw O p &&& S) (bw O j) = 0
        · rw [if_pos (by rw [g])]
          exact ok_some (by rw [fs_hit hj hI (by simp [cvT, q, hb2, g])]; simp [hj])
        · rw [if_neg (nI_ne (Nat.lt_trans hl (by decide)) (by decide) g)]
          exact kk (fs_ext hI (by simp [cvT, g]))
  · intro rec hI
    rw [h.pl, calP_s, if_neg (nI_nlt (Nat.le_refl _) (by omega))]
    exact ok_some (by rw [fs_miss hI]; simp)
theorem e_leastCovered (h : N0 σ n O) {S : Nat} (hS : S < 256) : f_X1_leastCovered σ (nI S) = some (fi (cvA n O S) n) := by
  have h8 := h.np.h8
  unfold f_X1_leastCovered f_X3_places
  rw [q_0, q_mm]
  refine ok_eq (lo1_for (fun j => ∀ q, q < j → cvA n O S q = false) n ?_ ?_ FU 0 (by omega) (fu_lt (by omega)) fs_nil)
  · intro rec j hj hI kk
    have hb : f_X9_has σ (nI S) (nI j) = some (nI (S.testBit j).toNat) := e_has (by omega) (by omega)
    rw [h.pl, calP_s, if_pos (nI_lt hj (by omega)), hb, calP_s, e_isCovered h hS hj, calP_s, q_1, nI_add]
    cases hb2 : S.testBit j with
    | false => rw [if_pos b_f0]; exact kk (fs_ext hI (by simp [cvA, hb2]))
    | true =>
      rw [if_neg b_t0]
      cases g : decide (fsN (cvT O S j) n < n) with
      | false => rw [if_pos b_f0]; exact kk (fs_ext hI (by rw [cvA, hb2, g]; rfl))
      | true => rw [if_neg b_t0]; exact ok_some (fi_hit hj hI (by rw [cvA, hb2, g]; rfl)).symm
  · intro rec hI
    rw [h.pl, calP_s, if_neg (nI_nlt (Nat.le_refl _) (by omega))]
    exact ok_some (fi_miss hI).symm
def awS (n : Nat) (O : Nat → Nat) : Nat → Nat
  | 0 => 2 ^ n - 1
  | j + 1 => nd (awS n O j) (2 ^ fsN (cvA n O (awS n O j)) n)
def awP (n : Nat) (O : Nat → Nat) (j : Nat) : Nat := fsN (cvA n O (awS n O j)) n
theorem aw_lt (h : NP n O) (j : Nat) : awS n O j < 256 := by
  induction j with
  | zero => exact all_lt h
  | succ j ih => exact nd_lt ih
theorem aw_bit {j : Nat} (h : awP n O j < n) : (awS n O j).testBit (awP n O j) = true := by
  have := (fs_sp (cvA n O (awS n O j)) n).2.1 h
  rw [cvA, Bool.and_eq_true] at this
  exact this.1
theorem pc_all : ∀ n, n ≤ 8 → pc (2 ^ n - 1) 8 = n := by decide +kernel
theorem aw_pc (h : NP n O) : ∀ j, (∀ i, i < j → awP n O i < n) → pc (awS n O j) 8 + j = n := by
  intro j
  have h8 := h.h8
  induction j with
  | zero => intro _; exact pc_all n h8
  | succ j ih =>
    intro hh
    have h1 := ih (fun i hi => hh i (by omega))
    have h2 := hh j (by omega)
    have h3 := aw_bit h2
    have h4 := pc_pos h3 8 (by omega)
    have h5 := pc_nd h3 8 (by omega)
    rw [awS, show fsN (cvA n O (awS n O j)) n = awP n O j from rfl]
    omega
theorem aw_8 (h : NP n O) {j : Nat} (hh : ∀ i, i < j → awP n O i < n) (hj : awP n O j < n) : j < 8 := by
  have h1 := aw_pc h j hh
  have h2 := pc_pos (aw_bit hj) 8 (by have := h.h8; omega)
  have := h.h8
  omega
theorem aw_T (h : NP n O) : ∃ T, (∀ j, j < T → awP n O j < n) ∧ ¬ awP n O T < n := by
  obtain ⟨h1, h2, h3⟩ := fs_sp (fun j => !decide (awP n O j < n)) 9
  have h4 : ∀ j, j < fsN (fun j => !decide (awP n O j < n)) 9 → awP n O j < n := fun j hj => by simpa using h3 j hj
  rcases Nat.lt_or_ge (fsN (fun j => !decide (awP n O j < n)) 9) 9 with q | q
  · exact ⟨_, h4, by simpa using h2 q⟩
  · have := aw_8 h (j := 8) (fun i hi => h4 i (by omega)) (h4 8 (by omega))
    omega
def AW (n : Nat) (O : Nat → Nat) (v x : Int32) : Prop := ∃ T, (∀ j, j < T → awP n O j < n) ∧ ¬ awP n O T < n ∧ ((v = M1 ∧ x = nI (pc (awS n O T) 8)) ∨ ∃ i, i < 2 ^ 31 ∧ v = nI i ∧ x = if i < T then nI (awP n O i) else M1)
theorem aw_fun {v x y : Int32} (h : AW n O v x) (g : AW n O v y) : x = y := by
  obtain ⟨T, h1, h2, h3⟩ := h
  obtain ⟨U, g1, g2, g3⟩ := g
  have e : T = U := by
    rcases Nat.lt_trichotomy T U with q | q | q
    · exact absurd (g1 T q) h2
    · exact q
    · exact absurd (h1 U q) g2
  subst e
  rcases h3 with ⟨e1, e2⟩ | ⟨i, hi, e1, e2⟩ <;> rcases g3 with ⟨d1, d2⟩ | ⟨j, hj, d1, d2⟩
  · rw [e2, d2]
  · exact absurd (d1.symm.trans e1) (nI_m1 hj)
  · exact absurd (e1.symm.trans d1) (nI_m1 hi)
  · have : i = j := (nI_eq hi hj).mp (e1.symm.trans d1)
    subst this
    rw [e2, d2]
theorem e_takenAway (h : N0 σ n O) {v : Int32} (hv : v = M1 ∨ ∃ i, i < 2 ^ 31 ∧ v = nI i) : Ok (f_X1_takenAway σ v) (fun x => AW n O v x) := by
  have h8 := h.np.h8
  unfold f_X1_takenAway
  rw [e_all h, calP_s, q_0, q_mm]
  have fin : ∀ j, (∀ i, i < j → awP n O i < n) → ¬ awP n O j < n → (∀ i, v = nI i → i < 2 ^ 31 → j ≤ i) → Ok (if v = M1 then calP (f_J6_bitCount_0f7a4 σ (nI (awS n O j))) fun r7 => some r7 else some M1) (fun x => AW n O v x) := by
    intro j h1 h2 h3
    rcases hv with rfl | ⟨i, hi, rfl⟩
    · rw [if_pos rfl, e_bc (aw_lt h.np j), calP_s]
      exact ok_some ⟨j, h1, h2, Or.inl ⟨rfl, rfl⟩⟩
    · rw [if_neg (nI_mm hi)]
      have := h3 i rfl hi
      exact ok_some ⟨j, h1, h2, Or.inr ⟨i, hi, rfl, by rw [if_neg (by omega)]⟩⟩
  refine lo2_for (fun j x => x = nI (awS n O j) ∧ (∀ i, i < j → awP n O i < n) ∧ (∀ i, v = nI i → i < 2 ^ 31 → j ≤ i)) 8 ?_ ?_ FU 0 _ (by omega) (fu_lt (by omega)) ⟨rfl, fun i hi => absurd hi (Nat.not_lt_zero _), fun i _ _ => Nat.zero_le _⟩
  · rintro rec j x hj ⟨rfl, h1, h2⟩ kk
    have f := fin j h1
    rw [jn0, q_8, if_pos (nI_lt hj (by omega)), e_leastCovered h (aw_lt h.np j), calP_s, bd_s, q_1, nI_add]
    have ea : fi (cvA n O (awS n O j)) n = if awP n O j < n then nI (awP n O j) else M1 := rfl
    rw [ea]
    by_cases g : awP n O j < n
    · have hpw : nI 1 <<< (nI (awP n O j) &&& 31) = nI (2 ^ awP n O j) := by
        simp (disch := omega) only [q_0, q_1, q_2, q_3, q_4, q_5, q_6, q_7, q_8, q_9, q_15, q_16, q_31, q_32, q_48, q_57, q_59, q_63, q_64, q_97, q_100, q_122, q_127, q_160, q_255, q_256, q_512, q_1024, q_2816, q_4096, q_16384, q_1048576, q_m1, q_m2, q_m3, q_m4, q_m5, bd_s, calP_s, cal_s, nI_add, pk_mul, pk_sub, z_and, z_or, z_xor, y_nd, y_shl, y_shr, y_tb, y_ck, nI_ltI, nI_eq, nI_clamp, y_m1a, y_m1b, y_m1c, y_m1d, y_m1e, y_b0, y_b1, y_and255, gsI_o, gsI_s, gsI_2, gsR_o, gsR_s, gsR_2, gsL_1, gsL_o, gsL_s, jn0, jn1, jn2, jn3, jn4, jn5, ↓reduceIte, if_true, if_false, ite_self, ne_eq, not_true_eq_false, not_false_eq_true, and_true, true_and, and_false, false_and, Nat.reduceAdd, Nat.reduceMul, Nat.reduceSub, Nat.reducePow, Nat.reduceLT, Nat.reduceEqDiff, Nat.reduceLeDiff, Nat.not_lt_zero, Nat.add_sub_cancel, Nat.add_zero, Nat.zero_add, pk_div, y_dn, Nat.one_mul, Nat.mul_one, reduceCtorEq, y_pow]
      rw [if_pos g, if_neg (nI_mm (a := awP n O j) (by omega)), hpw, y_nd]
      by_cases q : nI j = v
      · rw [if_pos q]
        obtain ⟨T, t1, t2⟩ := aw_T h.np
        have hT : j < T := by
          rcases Nat.lt_or_ge j T with e | e
          · exact e
          · rcases Nat.lt_or_ge T j with e2 | e2
            · exact absurd (h1 T e2) t2
            · have : T = j := by omega
              subst this; exact absurd g t2
        exact ok_some ⟨T, t1, t2, Or.inr ⟨j, by omega, q.symm, by rw [if_pos hT]⟩⟩
      · rw [if_neg q]
        refine kk _ ⟨rfl, fs_ext' h1 g, fun i e hi => ?_⟩
        have := h2 i e hi
        rcases Nat.lt_or_ge j i with e2 | e2
        · exact e2
        · have : i = j := by omega
          subst this; exact absurd e.symm q
    · rw [if_neg g, if_pos rfl]
      exact f g h2
  · rintro rec x ⟨rfl, h1, h2⟩
    rw [jn0, q_8, if_neg (nI_nlt (Nat.le_refl _) (by omega))]
    exact fin 8 h1 (fun e => by have := aw_8 h.np h1 e; omega) h2
end AWAY
