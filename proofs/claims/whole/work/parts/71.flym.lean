/-! flying hunters, of the reference -/
def sy (O : Nat → Nat) (p : Nat) : Nat := O p ||| inv O p
def bo (O : Nat → Nat) (p : Nat) : Nat := nd (sy O p) (2 ^ p)
section FLYM
variable {σ : St} {n : Nat} {O : Nat → Nat} {sn : Bool}
theorem adj_comm (a b : Nat) : adj O a b = adj O b a := Bool.or_comm _ _
theorem adj_lt (h : NP n O) {a b : Nat} (k : adj O a b = true) : a < n ∧ b < n := by
  rw [adj, Bool.or_eq_true] at k
  rcases k with k | k
  · exact np_lt8 h k
  · exact (np_lt8 h k).symm
theorem sy_tb (h : NP n O) (p q : Nat) : (sy O p).testBit q = adj O p q := by
  rw [sy, Nat.testBit_or, adj, inv, mkS_tb]
  by_cases hq : q < 8
  · simp [hq]
  · rw [h.out q (by have := h.h8; omega)]; simp [hq]
theorem bo_tb (h : NP n O) (p q : Nat) : (bo O p).testBit q = (adj O p q && !decide (p = q)) := by
  rw [bo, nd_tb, sy_tb h, tb_pow]
theorem bo_lt (h : NP n O) (p : Nat) : bo O p < 2 ^ n := lt_tb (fun i hi => by
  rw [bo_tb h]
  cases e : adj O p i with
  | false => rfl
  | true => have := adj_lt h e; omega)
theorem bo_lt8 (h : NP n O) (p : Nat) : bo O p < 256 := Nat.lt_of_lt_of_le (bo_lt h p) (p256 h.h8)
theorem ar_tb (h : NP n O) (S q : Nat) : (ar O S).testBit q = true ↔ ∃ p, S.testBit p = true ∧ adj O p q = true := by
  rw [ar, Nat.testBit_or, Bool.or_eq_true, ah, ah, uS_tb, uS_tb]
  constructor
  · rintro (⟨p, h1, h2, h3⟩ | ⟨p, h1, h2, h3⟩)
    · exact ⟨p, h2, by rw [adj, h3]; rfl⟩
    · refine ⟨p, h2, ?_⟩
      rw [← sy_tb h, sy, Nat.testBit_or, h3, Bool.or_true]
  · rintro ⟨p, h2, h3⟩
    have hl := adj_lt h h3
    have h8 := h.h8
    rw [← sy_tb h, sy, Nat.testBit_or, Bool.or_eq_true] at h3
    rcases h3 with h3 | h3
    · exact Or.inl ⟨p, by omega, h2, h3⟩
    · exact Or.inr ⟨p, by omega, h2, h3⟩
theorem m_joinBoth (h : NM σ n O) : Ok (f_X10_joinBoth σ) (fun q => (∀ p, p < 8 → q.2.1 115 p = nI (bo O p)) ∧ Fr (fun c => c = 115) σ q.2) := by
  have h8 := h.np.h8
  unfold f_X10_joinBoth
  rw [q_0, q_1, q_8]
  refine lo2_for (fun a s => (∀ p, p < a → s.1 115 p = nI (bo O p)) ∧ Fr (fun c => c = 115) σ s) 8 ?_ ?_ FU 0 _ (by omega) (fu_lt (by omega)) ⟨fun p hp => absurd hp (Nat.not_lt_zero _), fr_refl⟩
  · rintro rec a s ha ⟨i1, i2⟩ kk
    rw [if_pos (nI_lt ha (by omega)), y_ck _ ha (by omega), bd_s, nI_add, nI_clamp (by omega)]
    have ebo : mkS (fun b => (nd (O a) (2 ^ a)).testBit b || (nd (O b) (2 ^ b)).testBit a) 8 = bo O a := tb_ext (fun i => by
      rw [bo_tb h.np, mkS_tb, nd_tb, nd_tb, tb_pow, tb_pow, adj]
      by_cases e : a = i
      · subst e; simp
      · have e2 : ¬ i = a := fun w => e w.symm
        by_cases hi : i < 8
        · simp [e, e2, hi]
        · rw [h.np.out i (by omega), tb_ge (h.np.lt a) (by omega)]
          simp)
    refine lo2_for (fun b t => t.1 115 a = nI (mkS (fun b => (nd (O a) (2 ^ a)).testBit b || (nd (O b) (2 ^ b)).testBit a) b) ∧ (∀ p, p < a → t.1 115 p = nI (bo O p)) ∧ Fr (fun c => c = 115) σ t) 8 ?_ ?_ FU 0 _ (by omega) (fu_lt (by omega)) ⟨by rw [gsI_s, if_pos rfl]; rfl, fun p hp => by rw [gsI_s, if_neg (by omega)]; exact i1 p hp, fr_setI i2 rfl⟩
    · rintro rec2 b t hb ⟨j1, j2, j3⟩ k2
      have ra : t.1 101 a = nI (nd (O a) (2 ^ a)) := by rw [j3.1 _ (by decide)]; exact h.r a ha
      have rb : t.1 101 b = nI (nd (O b) (2 ^ b)) := by rw [j3.1 _ (by decide)]; exact h.r b hb
      have la : nd (O a) (2 ^ a) < 2 ^ 31 := Nat.lt_trans (nd_lt (h.np.lt8 a)) (by decide)
      have lb : nd (O b) (2 ^ b) < 2 ^ 31 := Nat.lt_trans (nd_lt (h.np.lt8 b)) (by decide)
      rw [mkS] at k2
      rw [if_pos (nI_lt hb (by omega)), jn1, y_ck _ ha (by omega)]
      simp only [y_ck _ ha (show 8 < 2 ^ 31 by decide), y_ck _ hb (show 8 < 2 ^ 31 by decide), nI_clamp (show a < 2 ^ 31 by omega), nI_clamp (show b < 2 ^ 31 by omega), ra, rb, y_bt la (show b < 32 by omega), y_bt lb (show a < 32 by omega), nI_add, bd_s, j1, z_or, y_pw hb, b_10, if_false, if_true]
      have fin : ∀ w : Bool, w = ((nd (O a) (2 ^ a)).testBit b || (nd (O b) (2 ^ b)).testBit a) → Ok (rec2 (setI t 115 a (nI (mkS (fun b => (nd (O a) (2 ^ a)).testBit b || (nd (O b) (2 ^ b)).testBit a) b ||| if w = true then 2 ^ b else 0))) (nI (b + 1))) (fun q => (∀ p, p < 8 → q.2.1 115 p = nI (bo O p)) ∧ Fr (fun c => c = 115) σ q.2) := by
        intro w hw
        refine k2 _ ⟨by rw [gsI_s, if_pos rfl, hw], fun p hp => by rw [gsI_s, if_neg (by omega)]; exact j2 p hp, fr_setI j3 rfl⟩
      cases g1 : (nd (O a) (2 ^ a)).testBit b with
      | true => rw [if_pos b_t1]; exact fin true (by rw [g1]; rfl)
      | false =>
        rw [if_neg b_f1]
        cases g2 : (nd (O b) (2 ^ b)).testBit a with
        | true => rw [if_pos b_t1]; exact fin true (by rw [g1, g2]; rfl)
        | false => rw [if_neg b_f1]; exact fin false (by rw [g1, g2]; rfl)
    · rintro rec2 t ⟨j1, j2, j3⟩
      rw [if_neg (nI_nlt (Nat.le_refl _) (by omega))]
      refine kk _ ⟨fun p hp => ?_, j3⟩
      rcases Nat.lt_succ_iff_lt_or_eq.mp hp with e | rfl
      · exact j2 p e
      · rw [j1, ebo]
  · rintro rec s ⟨i1, i2⟩
    rw [if_neg (nI_nlt (Nat.le_refl _) (by omega))]
    exact ok_some ⟨i1, i2⟩
theorem bo_ar (h : NP n O) {S q : Nat} (hb : S.testBit q = true) : (ar O (nd (2 ^ n - 1) S)).testBit q = true ↔ ¬ nd (bo O q) S = 0 := by
  rw [ar_tb h]
  constructor
  · rintro ⟨p, h1, h2⟩ e
    rw [nd_tb, Bool.and_eq_true] at h1
    have e2 := congrArg (fun x => Nat.testBit x p) e
    simp only [nd_tb, bo_tb h, Nat.zero_testBit] at e2
    have hne : ¬ q = p := fun w => by rw [← w, hb] at h1; simp at h1
    rw [adj_comm, h2] at e2
    simp [hne] at e2
    rw [e2] at h1
    simp at h1
  · intro e
    obtain ⟨i, hi⟩ := nz_bit e
    rw [nd_tb, bo_tb h, Bool.and_eq_true, Bool.and_eq_true] at hi
    refine ⟨i, ?_, by rw [adj_comm]; exact hi.1.1⟩
    rw [nd_tb, hi.2, Nat.testBit_two_pow_sub_one, decide_eq_true (adj_lt h hi.1.1).2]
    rfl
theorem mt_sub (S p : Nat) : ∀ k i, (mtS O S p k).testBit i = true → i = p ∨ S.testBit i = true := by
  intro k
  induction k with
  | zero => intro i h; rw [mtS, tb_pow] at h; exact Or.inl (of_decide_eq_true h).symm
  | succ k ih =>
    intro i h
    rw [mtS, Nat.testBit_or, Bool.or_eq_true, Nat.testBit_and, Bool.and_eq_true] at h
    rcases h with h | h
    · exact ih i h
    · exact Or.inr h.2
theorem mt_mono (S p : Nat) {a b : Nat} (hab : a ≤ b) {i : Nat} (h : (mtS O S p a).testBit i = true) : (mtS O S p b).testBit i = true := by
  induction hab with
  | refl => exact h
  | step _ ih => rw [mtS, Nat.testBit_or, ih]; rfl
theorem mt_st (h : NP n O) {S p : Nat} (hS : S < 256) (hp : p < 8) : mtS O S p 9 = mtS O S p 8 := by
  have key : ∀ k, (∃ m, m < k ∧ mtS O S p (m + 1) = mtS O S p m) ∨ k + 1 ≤ pc (mtS O S p k) 8 := by
    intro k
    induction k with
    | zero => exact Or.inr (pc_pos (show (mtS O S p 0).testBit p = true by rw [mtS, tb_pow]; simp) 8 hp)
    | succ k ih =>
      rcases ih with ⟨m, h1, h2⟩ | ih
      · exact Or.inl ⟨m, by omega, h2⟩
      · by_cases e : mtS O S p (k + 1) = mtS O S p k
        · exact Or.inl ⟨k, by omega, e⟩
        · refine Or.inr ?_
          have hx : ∃ i, (mtS O S p k).testBit i = false ∧ (mtS O S p (k + 1)).testBit i = true := by
            obtain ⟨h1, h2, h3⟩ := fs_sp (fun i => !(mtS O S p k).testBit i && (mtS O S p (k + 1)).testBit i) 8
            rcases Nat.lt_or_ge (fsN (fun i => !(mtS O S p k).testBit i && (mtS O S p (k + 1)).testBit i) 8) 8 with q | q
            · have h5 := h2 q
              rw [Bool.and_eq_true, Bool.not_eq_true'] at h5
              exact ⟨_, h5.1, h5.2⟩
            · refine absurd (tb_ext (fun i => ?_)) e
              by_cases hi : i < 8
              · have h4 := h3 i (by omega)
                cases a : (mtS O S p k).testBit i with
                | true => exact mt_mono S p (Nat.le_succ k) a
                | false => simpa [a] using h4
              · rw [tb_ge (n := 8) (mtS_lt h hS hp (k + 1)) (by omega), tb_ge (n := 8) (mtS_lt h hS hp k) (by omega)]
          obtain ⟨i, h1, h2⟩ := hx
          have := pc_strict (T := mtS O S p (k + 1)) (fun x hx => mt_mono S p (Nat.le_succ k) hx) h1 h2 8 (tb_lt (n := 8) (mtS_lt h hS hp (k + 1)) h2)
          omega
  rcases key 8 with ⟨m, h1, h2⟩ | k8
  · have st : ∀ j, m ≤ j → mtS O S p j = mtS O S p m := by
      intro j hj
      induction hj with
      | refl => rfl
      | step _ ih => rw [mtS, ih, ← mtS]; exact h2
    rw [st 9 (by omega), st 8 (by omega)]
  · have := pc_le (mtS O S p 8) 8
    omega
theorem pk_mulb (b : Bool) (x : Nat) : nI b.toNat * nI x = nI (if b = true then x else 0) := by
  cases b
  · rw [pk_mul]; simp
  · rw [pk_mul]; simp
theorem m_costOf (h : NM σ n O) (hB : ∀ p, p < 8 → σ.1 115 p = nI (bo O p)) {S p : Nat} (hS : S < 2 ^ n) (hp : p < n) : f_X10_costOf σ (nI sn.toNat) (nI S) (nI p) = some (nI (cst n O sn S p)) := by
  have h8 := h.np.h8
  have hS8 : S < 256 := Nat.lt_of_lt_of_le hS (p256 h8)
  have hp8 : p < 8 := by omega
  unfold f_X10_costOf
  rw [q_mm, q_0, q_1, q_8]
  cases sn with
  | false =>
    have hl : S ||| 2 ^ p < 2 ^ n := or_lt hS (Nat.pow_lt_pow_right (by decide) hp)
    have hl8 : S ||| 2 ^ p < 256 := Nat.lt_of_lt_of_le hl (p256 h8)
    rw [if_pos b_f0, y_pw hp8, z_or, bd_s]
    have hX : (S ||| 2 ^ p) &&& ar O (nd (2 ^ n - 1) (S ||| 2 ^ p)) < 2 ^ n := Nat.lt_of_le_of_lt Nat.and_le_left hl
    have ec : cst n O false S p = pc ((S ||| 2 ^ p) &&& ar O (nd (2 ^ n - 1) (S ||| 2 ^ p))) n := by
      rw [← pc_ext hX 8 h8]; rfl
    rw [ec]
    refine ok_eq (lo2_for (fun q x => x = nI (pc ((S ||| 2 ^ p) &&& ar O (nd (2 ^ n - 1) (S ||| 2 ^ p))) q)) n ?_ ?_ FU 0 _ (by omega) (fu_lt (by omega)) rfl)
    · rintro rec q x hq rfl kk
      rw [pc, Nat.testBit_and] at kk
      have hlb : nd (bo O q) (S ||| 2 ^ p) < 2 ^ 31 := Nat.lt_trans (nd_lt (bo_lt8 h.np q)) (by decide)
      rw [h.pl, if_pos (nI_lt hq (by omega)), y_bt (Nat.lt_trans hl8 (by decide)) (by omega), y_ck _ (by omega) (by omega), nI_clamp (by omega), hB q (by omega), y_nd, bd_s, bd_s, nI_add, nI_add, nI_add]
      cases hb : (S ||| 2 ^ p).testBit q with
      | false =>
        rw [if_neg b_f1]
        exact kk _ (by rw [hb]; simp)
      | true =>
        rw [if_pos b_t1]
        have hba := bo_ar h.np hb
        by_cases g : nd (bo O q) (S ||| 2 ^ p) = 0
        · rw [if_pos (by rw [g])]
          refine kk _ ?_
          have : ¬ (ar O (nd (2 ^ n - 1) (S ||| 2 ^ p))).testBit q = true := fun w => hba.mp w g
          rw [Bool.not_eq_true] at this
          rw [this]; simp
        · rw [if_neg (nI_ne hlb (by decide) g)]
          refine kk _ ?_
          rw [hb, hba.mpr g]; rfl
    · rintro rec x rfl
      rw [h.pl, if_neg (nI_nlt (Nat.le_refl _) (by omega))]
      exact ok_some rfl
  | true =>
    rw [if_neg b_t0, y_ck _ hp8 (by omega), nI_clamp (by omega), hB p hp8, bd_s]
    have UBs : ∀ Y q : Nat, (∀ i, Y.testBit i = true → ∃ y, (mtS O S p 8).testBit y = true ∧ (bo O y).testBit i = true) → Y.testBit q = true → S.testBit q = true → (mtS O S p 8).testBit q = true := by
      intro Y q hU h1 h2
      obtain ⟨y, k1, k2⟩ := hU q h1
      rw [bo_tb h.np, Bool.and_eq_true] at k2
      rw [← mt_st h.np hS8 hp8, mtS, Nat.testBit_or, Nat.testBit_and, h2, (ar_tb h.np _ _).mpr ⟨y, k1, k2.1⟩]
      simp
    refine ok_eq (lo2_for (fun t x => ∃ X, x = nI X ∧ X < 256 ∧ (∀ y, (mtS O S p t).testBit y = true → ∀ i, (bo O y).testBit i = true → X.testBit i = true) ∧ (∀ i, X.testBit i = true → ∃ y, (mtS O S p 8).testBit y = true ∧ (bo O y).testBit i = true)) 8 ?_ ?_ FU 0 _ (by omega) (fu_lt (by omega)) ⟨bo O p, rfl, bo_lt8 h.np p, ?_, ?_⟩)
    · rintro rec t x ht ⟨X, rfl, hX8, hL, hU⟩ kk
      rw [if_pos (nI_lt ht (by omega)), nI_add]
      refine lo2_for (fun q x => ∃ Y, x = nI Y ∧ Y < 256 ∧ (∀ i, X.testBit i = true → Y.testBit i = true) ∧ (∀ r, r < q → X.testBit r = true → S.testBit r = true → ∀ i, (bo O r).testBit i = true → Y.testBit i = true) ∧ (∀ i, Y.testBit i = true → ∃ y, (mtS O S p 8).testBit y = true ∧ (bo O y).testBit i = true)) n ?_ ?_ FU 0 _ (by omega) (fu_lt (by omega)) ⟨X, rfl, hX8, fun _ w => w, fun r hr => absurd hr (Nat.not_lt_zero _), hU⟩
      · rintro rec2 q x hq ⟨Y, rfl, hY8, j1, j2, j3⟩ k2
        have hYS : Y &&& S < 2 ^ 31 := Nat.lt_of_le_of_lt Nat.and_le_left (Nat.lt_trans hY8 (by decide))
        rw [h.pl, if_pos (nI_lt hq (by omega)), y_ck _ (by omega) (by omega), nI_clamp (by omega), hB q (by omega), z_and, y_bt hYS (by omega), pk_mulb, z_or, bd_s, nI_add]
        refine k2 _ ⟨_, rfl, ?_, ?_, ?_, ?_⟩
        · refine or_lt (n := 8) hY8 ?_
          split
          · exact bo_lt8 h.np q
          · decide
        · intro i hi
          rw [Nat.testBit_or, j1 i hi]; rfl
        · intro r hr hXr hSr i hi
          rw [Nat.testBit_or]
          rcases Nat.lt_succ_iff_lt_or_eq.mp hr with e | rfl
          · rw [j2 r e hXr hSr i hi]; rfl
          · rw [Nat.testBit_and, j1 r hXr, hSr, Bool.and_true, if_pos rfl, hi, Bool.or_true]
        · intro i hi
          rw [Nat.testBit_or, Bool.or_eq_true] at hi
          rcases hi with hi | hi
          · exact j3 i hi
          · cases g : (Y &&& S).testBit q with
            | false => rw [g, if_neg (by decide)] at hi; simp at hi
            | true =>
              rw [g, if_pos rfl] at hi
              rw [Nat.testBit_and, Bool.and_eq_true] at g
              exact ⟨q, UBs Y q j3 g.1 g.2, hi⟩
      · rintro rec2 x ⟨Y, rfl, hY8, j1, j2, j3⟩
        rw [h.pl, if_neg (nI_nlt (Nat.le_refl _) (by omega))]
        refine kk _ ⟨Y, rfl, hY8, ?_, j3⟩
        intro y hy i hi
        rw [mtS, Nat.testBit_or, Bool.or_eq_true, Nat.testBit_and, Bool.and_eq_true, ar_tb h.np] at hy
        rcases hy with hy | ⟨⟨z, hz, ha⟩, hs⟩
        · exact j1 i (hL y hy i hi)
        · by_cases e : z = y
          · subst e; exact j1 i (hL z hz i hi)
          · exact j2 y (adj_lt h.np ha).2 (hL z hz y (by rw [bo_tb h.np, ha]; simp [e])) hs i hi
    · rintro rec x ⟨X, rfl, hX8, hL, hU⟩
      rw [if_neg (nI_nlt (Nat.le_refl _) (by omega)), y_pw hp8, y_nd, y_nd, e_bits (Nat.lt_trans (nd_lt (nd_lt hX8)) (by decide)), calP_s]
      refine ok_some ?_
      show nI _ = nI (costS O S p)
      rw [costS]
      congr 2
      refine tb_ext (fun i => Bool.eq_iff_iff.mpr ?_)
      rw [nd_tb, nd_tb, nd_tb, nd_tb]
      simp only [Bool.and_eq_true]
      constructor
      · rintro ⟨⟨h1, h2⟩, h3⟩
        obtain ⟨y, k1, k2⟩ := hU i h1
        rw [bo_tb h.np, Bool.and_eq_true] at k2
        exact ⟨⟨(ar_tb h.np _ _).mpr ⟨y, k1, k2.1⟩, h2⟩, h3⟩
      · rintro ⟨⟨h1, h2⟩, h3⟩
        obtain ⟨y, k1, k2⟩ := (ar_tb h.np _ _).mp h1
        refine ⟨⟨?_, h2⟩, h3⟩
        by_cases e : y = i
        · subst e
          rcases mt_sub S p 8 y k1 with rfl | q
          · rw [tb_pow] at h3; simp at h3
          · rw [q] at h2; simp at h2
        · exact hL y k1 i (by rw [bo_tb h.np, k2]; simp [e])
    · intro y hy i hi
      rw [mtS, tb_pow] at hy
      rw [of_decide_eq_true hy]; exact hi
    · intro i hi
      exact ⟨p, mt_mono S p (Nat.zero_le 8) (by rw [mtS, tb_pow]; simp), hi⟩
end FLYM
