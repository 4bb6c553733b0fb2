section START
variable {σ s : St} {k : Nat}
theorem gz_o {a x : Nat} (h : x ≠ a) : (zr s a).1 x = s.1 x := up_n _ _ h
theorem gz_s {a : Nat} (j : Nat) : (zr s a).1 a j = nI 0 := by
  show va_up s.1 a (fun _ => 0) a j = nI 0
  rw [up_s]; rfl
theorem fr_zr {P : Nat → Prop} {a : Nat} (h : Fr P σ s) (ha : P a) : Fr P σ (zr s a) := ⟨fun x hx => (up_n _ _ (fun e : x = a => hx (e.symm ▸ ha))).trans (h.1 x hx), fun x hx => (up_n _ _ (fun e : x = a => hx (e.symm ▸ ha))).trans (h.2 x hx)⟩
theorem ok_bnd {α R : Type} {m : Option α} {K : α → Option R} {P : α → Prop} {Q : R → Prop} (h : Ok m P) (k : ∀ v, P v → Ok (K v) Q) : Ok (m.bind K) Q := by
  obtain ⟨v, rfl, hv⟩ := h
  exact k v hv
theorem y_ckE {R : Type} {x y : Int32} {k : Option R} (h : x = y) : ckE x y k = k := if_pos h
/-- what a cell holds once made -/
def want (x : Nat) (f : Nat → Int32) : Prop := (x = 6 → f 1 = nI 0) ∧ (x = 13 → f 0 = nI 0 ∧ f 5 = nI 0) ∧ (x = 14 → f 4 = nI 0 ∧ f 8 = M1) ∧ (∀ k, k < 3 → x = 32 + 2 * k → f 1 = nI (k + 1) ∧ f 2 = nI (8 ^ (k + 1))) ∧ (∀ k, k < 3 → x = 33 + 2 * k → ∀ r, r < 8 ^ (k + 1) → f r = nI (plc (dgs (k + 1) r))) ∧ (∀ i, i < 9 → x = 40 + 5 * i → f 2 = nI (i % 3 + 1) ∧ f 7 = M1) ∧ (∀ j, j < 2 → x = 18 + 3 * j → f 1 = nI j ∧ f 4 = M1) ∧ ∀ g, g < 2 → x = 26 + 3 * g → f 1 = nI g ∧ f 4 = M1
def Gi (D : Nat → Prop) (s : St) : Prop := ∀ x, D x → want x (s.1 x)
def pf (k r : Nat) : Nat → Nat
  | 0 => 0
  | i + 1 => pf k r i ||| 2 ^ fg k i r
theorem pf_tb (k r p : Nat) : ∀ i, (pf k r i).testBit p = decide (∃ j, j < i ∧ fg k j r = p) := by
  intro i
  induction i with
  | zero => rw [pf, Nat.zero_testBit]; exact (decide_eq_false (fun ⟨j, hj, _⟩ => absurd hj (Nat.not_lt_zero _))).symm
  | succ i ih =>
    rw [pf, Nat.testBit_or, ih, tb_pow, ← Bool.decide_or, decide_eq_decide]
    constructor
    · rintro (⟨j, h1, h2⟩ | h)
      · exact ⟨j, by omega, h2⟩
      · exact ⟨i, by omega, h⟩
    · rintro ⟨j, h1, h2⟩
      by_cases e : j = i
      · exact Or.inr (by rw [← e]; exact h2)
      · exact Or.inl ⟨j, by omega, h2⟩
theorem pf_plc (hk : k < 3) (r : Nat) : pf k r (k + 1) = plc (dgs (k + 1) r) := by
  refine tb_ext (fun p => ?_)
  rw [pf_tb, plc_tb, dgs_fg k hk, ← Bool.decide_and, decide_eq_decide, List.mem_map]
  constructor
  · rintro ⟨j, h1, h2⟩
    exact ⟨by rw [← h2]; exact fg_lt _ _ _, j, List.mem_range.mpr h1, h2⟩
  · rintro ⟨-, j, h1, h2⟩
    exact ⟨j, List.mem_range.mp h1, h2⟩
theorem e_fig (h1 : σ.1 (32 + 2 * k) 1 = nI (k + 1)) (hk : k < 3) {r i : Nat} (hr : r < 2 ^ 31) (hi : i ≤ k) : f_X6_figure σ k (nI r) (nI i) = some (nI (fg k i r)) := by
  unfold f_X6_figure
  simp (disch := omega) only [q_0, q_1, q_2, q_3, q_4, q_5, q_6, q_7, q_8, q_9, q_15, q_16, q_31, q_32, q_48, q_57, q_59, q_63, q_64, q_97, q_100, q_122, q_127, q_160, q_255, q_256, q_512, q_1024, q_2816, q_4096, q_16384, q_1048576, q_m1, q_m2, q_m3, q_m4, q_m5, bd_s, calP_s, cal_s, nI_add, pk_mul, pk_sub, z_and, z_or, z_xor, y_nd, y_shl, y_shr, y_tb, y_ck, nI_ltI, nI_eq, nI_clamp, y_m1a, y_m1b, y_m1c, y_m1d, y_m1e, y_b0, y_b1, y_and255, gsI_o, gsI_s, gsI_2, gsR_o, gsR_s, gsR_2, gsL_1, gsL_o, gsL_s, jn0, jn1, jn2, jn3, jn4, jn5, ↓reduceIte, if_true, if_false, ite_self, ne_eq, not_true_eq_false, not_false_eq_true, and_true, true_and, and_false, false_and, Nat.reduceAdd, Nat.reduceMul, Nat.reduceSub, Nat.reducePow, Nat.reduceLT, Nat.reduceEqDiff, Nat.reduceLeDiff, Nat.not_lt_zero, Nat.add_sub_cancel, Nat.add_zero, Nat.zero_add, pk_div, y_dn, Nat.one_mul, Nat.mul_one, reduceCtorEq, h1, y_and7]
  rfl
theorem x6_init (hk : k < 3) : Ok (f_X6_init (zr s (32 + 2 * k)) k (nI (k + 1))) (fun t => Fr (fun x => x = 32 + 2 * k ∨ x = 33 + 2 * k) s t ∧ ∀ x, (x = 32 + 2 * k ∨ x = 33 + 2 * k) → want x (t.1 x)) := by
  have h2 := p8_le k hk
  have hln : ln (33 + 2 * k) = 8 ^ (k + 1) := by rcases (show k = 0 ∨ k = 1 ∨ k = 2 by omega) with rfl | rfl | rfl <;> rfl
  have hsh : nI 1 <<< ((nI 3 * nI (k + 1)) &&& 31) = nI (8 ^ (k + 1)) := by rcases (show k = 0 ∨ k = 1 ∨ k = 2 by omega) with rfl | rfl | rfl <;> decide
  unfold f_X6_init
  rw [bd_s, bd_s, q_1, q_3, q_0, hsh, y_ckE (by rw [gsI_s, if_pos rfl, hln]), bd_s]
  have f1 : (zr (setI (setI (zr s (32 + 2 * k)) (32 + 2 * k) 1 (nI (k + 1))) (32 + 2 * k) 2 (nI (8 ^ (k + 1)))) (33 + 2 * k)).1 (32 + 2 * k) 1 = nI (k + 1) := by rw [gz_o (by omega), gsI_s, if_neg (by decide), gsI_s, if_pos rfl]
  have f2 : (zr (setI (setI (zr s (32 + 2 * k)) (32 + 2 * k) 1 (nI (k + 1))) (32 + 2 * k) 2 (nI (8 ^ (k + 1)))) (33 + 2 * k)).1 (32 + 2 * k) 2 = nI (8 ^ (k + 1)) := by rw [gz_o (by omega), gsI_s, if_pos rfl]
  have f3 : ∀ r, (zr (setI (setI (zr s (32 + 2 * k)) (32 + 2 * k) 1 (nI (k + 1))) (32 + 2 * k) 2 (nI (8 ^ (k + 1)))) (33 + 2 * k)).1 (33 + 2 * k) r = nI 0 := fun r => gz_s r
  have f4 : Fr (fun x => x = 32 + 2 * k ∨ x = 33 + 2 * k) s (zr (setI (setI (zr s (32 + 2 * k)) (32 + 2 * k) 1 (nI (k + 1))) (32 + 2 * k) 2 (nI (8 ^ (k + 1)))) (33 + 2 * k)) := fr_zr (fr_setI (fr_setI (fr_zr fr_refl (Or.inl rfl)) (Or.inl rfl)) (Or.inl rfl)) (Or.inr rfl)
  generalize zr (setI (setI (zr s (32 + 2 * k)) (32 + 2 * k) 1 (nI (k + 1))) (32 + 2 * k) 2 (nI (8 ^ (k + 1)))) (33 + 2 * k) = s3 at f1 f2 f3 f4 ⊢
  refine lo2_for (fun r t => t.1 (32 + 2 * k) 1 = nI (k + 1) ∧ t.1 (32 + 2 * k) 2 = nI (8 ^ (k + 1)) ∧ (∀ q, q < r → t.1 (33 + 2 * k) q = nI (plc (dgs (k + 1) q))) ∧ (∀ q, r ≤ q → t.1 (33 + 2 * k) q = nI 0) ∧ Fr (fun x => x = 32 + 2 * k ∨ x = 33 + 2 * k) s t) (8 ^ (k + 1)) ?_ ?_ FU 0 _ (by omega) (fu_lt (by omega)) ⟨f1, f2, fun q hq => absurd hq (Nat.not_lt_zero _), fun q _ => f3 q, f4⟩
  · rintro rec r t hr ⟨a1, a2, a3, a4, a5⟩ kk
    rw [a2, if_pos (nI_lt hr (by omega))]
    refine lo2_for (fun i u => u.1 (32 + 2 * k) 1 = nI (k + 1) ∧ u.1 (32 + 2 * k) 2 = nI (8 ^ (k + 1)) ∧ (∀ q, q < r → u.1 (33 + 2 * k) q = nI (plc (dgs (k + 1) q))) ∧ (∀ q, r + 1 ≤ q → u.1 (33 + 2 * k) q = nI 0) ∧ u.1 (33 + 2 * k) r = nI (pf k r i) ∧ Fr (fun x => x = 32 + 2 * k ∨ x = 33 + 2 * k) s u) (k + 1) ?_ ?_ FU 0 _ (by omega) (fu_lt (by omega)) ⟨a1, a2, a3, fun q hq => a4 q (by omega), a4 r (Nat.le_refl _), a5⟩
    · rintro rec2 i u hi ⟨b1, b2, b3, b4, b5, b6⟩ k2
      rw [if_pos (nI_lt hi (by omega)), hln, y_ck _ hr (by omega), e_fig b1 hk (by omega) (by omega), calP_s, y_ck _ hr (by omega), nI_clamp (by omega), b5, y_pw (fg_lt _ _ _), z_or, bd_s, nI_add]
      refine k2 _ ⟨by rw [gsI_o (by omega)]; exact b1, by rw [gsI_o (by omega)]; exact b2, fun q hq => by rw [gsI_s, if_neg (by omega)]; exact b3 q hq, fun q hq => by rw [gsI_s, if_neg (by omega)]; exact b4 q hq, by rw [gsI_s, if_pos rfl]; rfl, fr_setI b6 (Or.inr rfl)⟩
    · rintro rec2 u ⟨b1, b2, b3, b4, b5, b6⟩
      rw [if_neg (nI_nlt (Nat.le_refl _) (by omega)), nI_add]
      refine kk _ ⟨b1, b2, fun q hq => ?_, b4, b6⟩
      by_cases e : q = r
      · rw [e, b5, pf_plc hk]
      · exact b3 q (by omega)
  · rintro rec t ⟨a1, a2, a3, a4, a5⟩
    rw [a2, if_neg (nI_nlt (Nat.le_refl _) (by omega))]
    refine ok_some ⟨a5, ?_⟩
    rintro x (rfl | rfl)
    · exact ⟨fun e => by omega, fun e => by omega, fun e => by omega, fun z hz e => (show k = z by omega) ▸ ⟨a1, a2⟩, fun z hz e => by omega, fun z hz e => by omega, fun z hz e => by omega, fun z hz e => by omega⟩
    · exact ⟨fun e => by omega, fun e => by omega, fun e => by omega, fun z hz e => by omega, fun z hz e => (show k = z by omega) ▸ a3, fun z hz e => by omega, fun z hz e => by omega, fun z hz e => by omega⟩
theorem x0_init {i : Nat} (hi : i < 9) (hs : s.1 (32 + 2 * (i / 3)) 2 = nI (8 ^ (i / 3 + 1))) : Ok (f_X0_init (zr s (40 + 5 * i)) i (nI (i % 3 + 1))) (fun t => Fr (fun x => 40 + 5 * i ≤ x ∧ x ≤ 44 + 5 * i) s t ∧ ∀ x, (40 + 5 * i ≤ x ∧ x ≤ 44 + 5 * i) → want x (t.1 x)) := by
  have l1 : nI (8 ^ (i / 3 + 1)) * nI 8 = nI (ln (41 + 5 * i)) := by rcases (show i = 0 ∨ i = 1 ∨ i = 2 ∨ i = 3 ∨ i = 4 ∨ i = 5 ∨ i = 6 ∨ i = 7 ∨ i = 8 by omega) with rfl | rfl | rfl | rfl | rfl | rfl | rfl | rfl | rfl <;> decide
  have l2 : nI (8 ^ (i / 3 + 1)) = nI (ln (42 + 5 * i)) := by rcases (show i = 0 ∨ i = 1 ∨ i = 2 ∨ i = 3 ∨ i = 4 ∨ i = 5 ∨ i = 6 ∨ i = 7 ∨ i = 8 by omega) with rfl | rfl | rfl | rfl | rfl | rfl | rfl | rfl | rfl <;> decide
  have l3 : nI (8 ^ (i / 3 + 1)) = nI (ln (43 + 5 * i)) := by rcases (show i = 0 ∨ i = 1 ∨ i = 2 ∨ i = 3 ∨ i = 4 ∨ i = 5 ∨ i = 6 ∨ i = 7 ∨ i = 8 by omega) with rfl | rfl | rfl | rfl | rfl | rfl | rfl | rfl | rfl <;> decide
  have l4 : nI (8 ^ (i / 3 + 1)) = nI (ln (44 + 5 * i)) := by rcases (show i = 0 ∨ i = 1 ∨ i = 2 ∨ i = 3 ∨ i = 4 ∨ i = 5 ∨ i = 6 ∨ i = 7 ∨ i = 8 by omega) with rfl | rfl | rfl | rfl | rfl | rfl | rfl | rfl | rfl <;> decide
  have hz : ∀ t : St, Fr (fun x => 40 + 5 * i ≤ x ∧ x ≤ 44 + 5 * i) s t → f_X6_size t (i / 3) = some (nI (8 ^ (i / 3 + 1))) := fun t f => by
    unfold f_X6_size
    rw [f.1 _ (by omega), hs]
  unfold f_X0_init
  have g1 : Fr (fun x => 40 + 5 * i ≤ x ∧ x ≤ 44 + 5 * i) s (setI (zr s (40 + 5 * i)) (40 + 5 * i) 2 (nI (i % 3 + 1))) := fr_setI (fr_zr fr_refl ⟨by omega, by omega⟩) ⟨by omega, by omega⟩
  have g2 := fr_zr (a := 41 + 5 * i) g1 ⟨by omega, by omega⟩
  have g3 := fr_zr (a := 42 + 5 * i) g2 ⟨by omega, by omega⟩
  have g4 := fr_zr (a := 43 + 5 * i) g3 ⟨by omega, by omega⟩
  have g5 := fr_zr (a := 44 + 5 * i) g4 ⟨by omega, by omega⟩
  rw [bd_s, hz _ g1, calP_s, q_8, y_ckE l1, bd_s, hz _ g2, calP_s, y_ckE l2, bd_s, hz _ g3, calP_s, y_ckE l3, bd_s, hz _ g4, calP_s, y_ckE l4, bd_s, bd_s]
  refine ok_some ⟨fr_setI g5 ⟨by omega, by omega⟩, fun x hx => ⟨fun e => by omega, fun e => by omega, fun e => by omega, fun z hz e => by omega, fun z hz e => by omega, fun z hz e => ?_, fun z hz e => by omega, fun z hz e => by omega⟩⟩
  subst e
  have ez : z = i := by omega
  rw [ez, gsI_s, if_neg (by decide), gz_o (by omega), gz_o (by omega), gz_o (by omega), gz_o (by omega), gsI_s, if_pos rfl, gsI_s, if_pos rfl]
  exact ⟨rfl, rfl⟩
theorem x7_init : Ok (f_X7_init s) (fun t => Fr (fun x => 7 ≤ x ∧ x ≤ 10) s t ∧ ∀ x, (7 ≤ x ∧ x ≤ 10) → want x (t.1 x)) := by
  unfold f_X7_init
  rw [bd_s, bd_s, bd_s, bd_s]
  exact ok_some ⟨fr_zr (fr_zr (fr_zr (fr_zr fr_refl ⟨by omega, by omega⟩) ⟨by omega, by omega⟩) ⟨by omega, by omega⟩) ⟨by omega, by omega⟩, fun x hx => ⟨fun e => by omega, fun e => by omega, fun e => by omega, fun z hz e => by omega, fun z hz e => by omega, fun z hz e => by omega, fun z hz e => by omega, fun z hz e => by omega⟩⟩
theorem x5_init : Ok (f_X5_init (zr s 13)) (fun t => Fr (fun x => x = 13) s t ∧ ∀ x, x = 13 → want x (t.1 x)) := by
  unfold f_X5_init
  refine ok_some ⟨fr_zr fr_refl rfl, ?_⟩
  rintro x rfl
  exact ⟨fun e => by omega, fun e => ⟨gz_s 0, gz_s 5⟩, fun e => by omega, fun z hz e => by omega, fun z hz e => by omega, fun z hz e => by omega, fun z hz e => by omega, fun z hz e => by omega⟩
theorem x1_init : Ok (f_X1_init (zr s 24)) (fun t => Fr (fun x => x = 24) s t ∧ ∀ x, x = 24 → want x (t.1 x)) := by
  unfold f_X1_init
  refine ok_some ⟨fr_zr fr_refl rfl, ?_⟩
  rintro x rfl
  exact ⟨fun e => by omega, fun e => by omega, fun e => by omega, fun z hz e => by omega, fun z hz e => by omega, fun z hz e => by omega, fun z hz e => by omega, fun z hz e => by omega⟩
theorem x8_init : Ok (f_X8_init (zr s 14)) (fun t => Fr (fun x => 14 ≤ x ∧ x ≤ 17) s t ∧ ∀ x, (14 ≤ x ∧ x ≤ 17) → want x (t.1 x)) := by
  unfold f_X8_init
  rw [bd_s, bd_s, bd_s, bd_s, bd_s, bd_s, bd_s]
  refine ok_some ⟨fr_setI (fr_setI (fr_setI (fr_setI (fr_zr (fr_zr (fr_zr (fr_zr fr_refl ⟨by omega, by omega⟩) ⟨by omega, by omega⟩) ⟨by omega, by omega⟩) ⟨by omega, by omega⟩) ⟨by omega, by omega⟩) ⟨by omega, by omega⟩) ⟨by omega, by omega⟩) ⟨by omega, by omega⟩, fun x hx => ⟨fun e => by omega, fun e => by omega, fun e => ?_, fun z hz e => by omega, fun z hz e => by omega, fun z hz e => by omega, fun z hz e => by omega, fun z hz e => by omega⟩⟩
  subst e
  rw [gsI_s, if_neg (by decide), gsI_s, if_neg (by decide), gsI_s, if_neg (by decide), gsI_s, if_pos rfl, gsI_s, if_pos rfl]
  exact ⟨rfl, rfl⟩
theorem x4_init {j : Nat} (hj : j < 2) : Ok (f_X4_init (zr s (18 + 3 * j)) j (nI j)) (fun t => Fr (fun x => 18 + 3 * j ≤ x ∧ x ≤ 20 + 3 * j) s t ∧ ∀ x, (18 + 3 * j ≤ x ∧ x ≤ 20 + 3 * j) → want x (t.1 x)) := by
  unfold f_X4_init
  have hz : ∀ {R : Type} (o : Option R), ckZ (nI j) o = o := fun o => by
    rcases (show j = 0 ∨ j = 1 by omega) with rfl | rfl
    · exact if_pos rfl
    · unfold ckZ; rw [if_neg (by decide)]; exact if_pos rfl
  rw [bd_s, bd_s, hz, bd_s, bd_s]
  refine ok_some ⟨fr_setI (fr_setI (fr_zr (fr_zr (fr_zr fr_refl ⟨by omega, by omega⟩) ⟨by omega, by omega⟩) ⟨by omega, by omega⟩) ⟨by omega, by omega⟩) ⟨by omega, by omega⟩, fun x hx => ⟨fun e => by omega, fun e => by omega, fun e => by omega, fun z hz e => by omega, fun z hz e => by omega, fun z hz e => by omega, fun z hz e => ?_, fun z hz e => by omega⟩⟩
  subst e
  have ez : z = j := by omega
  rw [ez, gsI_s, if_neg (by decide), gsI_s, if_pos rfl, gsI_s, if_pos rfl]
  exact ⟨rfl, rfl⟩
theorem x2_init {g : Nat} (hg : g < 2) : Ok (f_X2_init (zr s (26 + 3 * g)) g (nI g)) (fun t => Fr (fun x => 26 + 3 * g ≤ x ∧ x ≤ 28 + 3 * g) s t ∧ ∀ x, (26 + 3 * g ≤ x ∧ x ≤ 28 + 3 * g) → want x (t.1 x)) := by
  unfold f_X2_init
  rw [bd_s, bd_s, bd_s, bd_s]
  refine ok_some ⟨fr_setI (fr_setI (fr_zr (fr_zr (fr_zr fr_refl ⟨by omega, by omega⟩) ⟨by omega, by omega⟩) ⟨by omega, by omega⟩) ⟨by omega, by omega⟩) ⟨by omega, by omega⟩, fun x hx => ⟨fun e => by omega, fun e => by omega, fun e => by omega, fun z hz e => by omega, fun z hz e => by omega, fun z hz e => by omega, fun z hz e => by omega, fun z hz e => ?_⟩⟩
  subst e
  have ez : z = g := by omega
  rw [ez, gsI_s, if_neg (by decide), gsI_s, if_pos rfl, gsI_s, if_pos rfl]
  exact ⟨rfl, rfl⟩
theorem x3_init : Ok (f_X3_init (zr s 1) (nI 4)) (fun t => NC t 4 (rO 4) 1) := by
  unfold f_X3_init
  rw [bd_s, bd_s, bd_s, bd_s]
  refine ok_cal (e_reset (by decide) (by decide) (by rw [gz_o (by decide), gz_s]) (gz_s 0)) ?_
  rintro u s5 ⟨a1, a2, a3⟩
  refine ok_cal (e_settle (c := 0) a1 (by rw [a2, gz_o (by decide), gz_o (by decide), gz_o (by decide), gz_o (by decide), gz_s])) ?_
  rintro u s6 ⟨b1, b2⟩
  exact ok_some b1
theorem gi_bnd {R : Type} {m : Option St} {K : St → Option R} {P D : Nat → Prop} {Q : R → Prop} (g : Gi D s ∧ NC s 4 (rO 4) 1) (h : Ok m (fun t => Fr P s t ∧ ∀ x, P x → want x (t.1 x))) (hP : ∀ x, P x → 6 ≤ x) (k : ∀ t, Gi (fun x => D x ∨ P x) t ∧ NC t 4 (rO 4) 1 → Ok (K t) Q) : Ok (m.bind K) Q := by
  refine ok_bnd h ?_
  rintro t ⟨f, w⟩
  refine k t ⟨fun x hx => ?_, nc_fr g.2 f (fun x hx hp => by have := hP x hp; omega)⟩
  by_cases hp : P x
  · exact w x hp
  · rw [f.1 x hp]; exact g.1 x (hx.resolve_right hp)
theorem gi_zr {D : Nat → Prop} {a : Nat} (g : Gi D s ∧ NC s 4 (rO 4) 1) (ha : 6 ≤ a) (w : want a (fun _ => nI 0)) : Gi (fun x => D x ∨ x = a) (zr s a) ∧ NC (zr s a) 4 (rO 4) 1 := by
  refine ⟨fun x hx => ?_, nc_fr (P := fun x => x = a) g.2 (fr_zr fr_refl rfl) (fun x hx e => by omega)⟩
  by_cases e : x = a
  · subst e
    have : (zr s x).1 x = fun _ => nI 0 := funext (fun j => gz_s j)
    rw [this]; exact w
  · rw [gz_o e]; exact g.1 x (hx.resolve_right e)
theorem ic_first (g : Gi (fun x => 6 ≤ x ∧ x ≤ 84 ∧ x ≠ 38 ∧ x ≠ 39) s) (h : NC s 4 (rO 4) 1) (tx : Nat → Nat) : IC s 4 (rO 4) 1 tx 0 P0 := by
  have w : ∀ x, 6 ≤ x → x ≤ 84 ∧ x ≠ 38 ∧ x ≠ 39 → want x (s.1 x) := fun x a b => g x ⟨a, b⟩
  have st1 : Stl M1 1 := Or.inl rfl
  have no : ∀ P : Prop, M1 = nI 1 → P := fun P e => absurd e.symm (nI_mm (by omega))
  refine ⟨h, fun k hk => ?_, ⟨(w 6 (by decide) (by decide)).1 rfl, by decide, fun i hi => absurd hi (Nat.not_lt_zero _), fun i hi => absurd hi (Nat.not_lt_zero _)⟩, fun i hi => ?_, fun b => ?_, ⟨?_, 0, by decide, ?_, fun e => ?_⟩, fun g' hg => ?_, ?_⟩
  · obtain ⟨a, b⟩ := (w (32 + 2 * k) (by omega) (by omega)).2.2.2.1 k hk rfl
    exact ⟨a, b, (w (33 + 2 * k) (by omega) (by omega)).2.2.2.2.1 k hk rfl⟩
  · obtain ⟨a, b⟩ := (w (40 + 5 * i) (by omega) (by omega)).2.2.2.2.2.1 i hi rfl
    exact ⟨a, by rw [b]; exact st1, fun e => by rw [b] at e; exact no _ e⟩
  · have hb : b.toNat < 2 := by cases b <;> decide
    obtain ⟨a, e⟩ := (w (18 + 3 * b.toNat) (by omega) (by omega)).2.2.2.2.2.2.1 b.toNat hb rfl
    exact ⟨a, by rw [e]; exact st1, fun e' => by rw [e] at e'; exact no _ e'⟩
  · rw [((w 14 (by decide) (by decide)).2.2.1 rfl).2]; exact st1
  · exact ((w 14 (by decide) (by decide)).2.2.1 rfl).1
  · rw [((w 14 (by decide) (by decide)).2.2.1 rfl).2] at e; exact no _ e
  · obtain ⟨a, e⟩ := (w (26 + 3 * g') (by omega) (by omega)).2.2.2.2.2.2.2 g' hg rfl
    exact ⟨a, by rw [e]; exact st1, fun e' => by rw [e] at e'; exact no _ e'⟩
  · obtain ⟨a, b⟩ := (w 13 (by decide) (by decide)).2.1 rfl
    exact ⟨a, b, fun e => by cases e⟩
theorem x9_init (tx : Nat → Nat) : Ok (f_X9_init s) (fun t => IC t 4 (rO 4) 1 tx 0 P0) := by
  unfold f_X9_init
  rw [show (4 : Int32) = nI 4 from rfl, show (1 : Int32) + 1 + 1 = nI 3 from rfl, show (1 : Int32) + 1 = nI 2 from rfl, q_1, q_0, bd_s]
  refine ok_bnd x3_init ?_
  intro s2 n2
  have g2 : Gi (fun _ => False) s2 ∧ NC s2 4 (rO 4) 1 := ⟨fun x hx => hx.elim, n2⟩
  rw [bd_s]
  have g3 := gi_zr (a := 6) g2 (by decide) ⟨fun e => rfl, fun e => by omega, fun e => by omega, fun z hz e => by omega, fun z hz e => by omega, fun z hz e => by omega, fun z hz e => by omega, fun z hz e => by omega⟩
  refine gi_bnd g3 x7_init (fun x hx => by omega) ?_
  intro s4 g4
  rw [bd_s, bd_s]
  have g5 := gi_zr (a := 11) g4 (by decide) ⟨fun e => by omega, fun e => by omega, fun e => by omega, fun z hz e => by omega, fun z hz e => by omega, fun z hz e => by omega, fun z hz e => by omega, fun z hz e => by omega⟩
  have g6 := gi_zr (a := 12) g5 (by decide) ⟨fun e => by omega, fun e => by omega, fun e => by omega, fun z hz e => by omega, fun z hz e => by omega, fun z hz e => by omega, fun z hz e => by omega, fun z hz e => by omega⟩
  rw [bd_s]
  refine gi_bnd g6 (x6_init (k := 0) (by decide)) (fun x hx => by omega) ?_
  intro s101 g101
  rw [bd_s]
  refine gi_bnd g101 (x0_init (i := 0) (by decide) ((g101.1 32 (by omega)).2.2.2.1 0 (by decide) rfl).2) (fun x hx => by omega) ?_
  intro s102 g102
  rw [bd_s]
  refine gi_bnd g102 (x0_init (i := 1) (by decide) ((g102.1 32 (by omega)).2.2.2.1 0 (by decide) rfl).2) (fun x hx => by omega) ?_
  intro s103 g103
  rw [bd_s]
  refine gi_bnd g103 (x0_init (i := 2) (by decide) ((g103.1 32 (by omega)).2.2.2.1 0 (by decide) rfl).2) (fun x hx => by omega) ?_
  intro s104 g104
  rw [bd_s]
  refine gi_bnd g104 (x6_init (k := 1) (by decide)) (fun x hx => by omega) ?_
  intro s105 g105
  rw [bd_s]
  refine gi_bnd g105 (x0_init (i := 3) (by decide) ((g105.1 34 (by omega)).2.2.2.1 1 (by decide) rfl).2) (fun x hx => by omega) ?_
  intro s106 g106
  rw [bd_s]
  refine gi_bnd g106 (x0_init (i := 4) (by decide) ((g106.1 34 (by omega)).2.2.2.1 1 (by decide) rfl).2) (fun x hx => by omega) ?_
  intro s107 g107
  rw [bd_s]
  refine gi_bnd g107 (x0_init (i := 5) (by decide) ((g107.1 34 (by omega)).2.2.2.1 1 (by decide) rfl).2) (fun x hx => by omega) ?_
  intro s108 g108
  rw [bd_s]
  refine gi_bnd g108 (x6_init (k := 2) (by decide)) (fun x hx => by omega) ?_
  intro s109 g109
  rw [bd_s]
  refine gi_bnd g109 (x0_init (i := 6) (by decide) ((g109.1 36 (by omega)).2.2.2.1 2 (by decide) rfl).2) (fun x hx => by omega) ?_
  intro s110 g110
  rw [bd_s]
  refine gi_bnd g110 (x0_init (i := 7) (by decide) ((g110.1 36 (by omega)).2.2.2.1 2 (by decide) rfl).2) (fun x hx => by omega) ?_
  intro s111 g111
  rw [bd_s]
  refine gi_bnd g111 (x0_init (i := 8) (by decide) ((g111.1 36 (by omega)).2.2.2.1 2 (by decide) rfl).2) (fun x hx => by omega) ?_
  intro s112 g112
  rw [bd_s]
  refine gi_bnd g112 x5_init (fun x hx => by omega) ?_
  intro s113 g113
  rw [bd_s]
  refine gi_bnd g113 x8_init (fun x hx => by omega) ?_
  intro s114 g114
  rw [bd_s]
  refine gi_bnd g114 (x4_init (j := 0) (by decide)) (fun x hx => by omega) ?_
  intro s115 g115
  rw [bd_s]
  refine gi_bnd g115 (x4_init (j := 1) (by decide)) (fun x hx => by omega) ?_
  intro s116 g116
  rw [bd_s]
  refine gi_bnd g116 x1_init (fun x hx => by omega) ?_
  intro s117 g117
  rw [bd_s, bd_s]
  have gz := gi_zr (a := 25) g117 (by decide) ⟨fun e => by omega, fun e => by omega, fun e => by omega, fun z hz e => by omega, fun z hz e => by omega, fun z hz e => by omega, fun z hz e => by omega, fun z hz e => by omega⟩
  refine gi_bnd gz (x2_init (g := 0) (by decide)) (fun x hx => by omega) ?_
  intro s118 g118
  rw [bd_s]
  refine gi_bnd g118 (x2_init (g := 1) (by decide)) (fun x hx => by omega) ?_
  intro s119 g119
  exact ok_some (ic_first (fun x hx => g119.1 x (by obtain ⟨h1, h2, h3, h4⟩ := hx; omega)) g119.2 tx)
theorem x10_init (tx : Nat → Nat) : Ok (f_X10_init (zr s 100)) (fun t => IM t 4 (rO 4) tx 0 P0 ∧ Fr (fun x => 100 ≤ x) s t) := by
  unfold f_X10_init
  rw [bd_s, bd_s, bd_s, bd_s, bd_s, bd_s, bd_s, bd_s, bd_s, bd_s, bd_s, bd_s, bd_s, bd_s, bd_s, bd_s, bd_s, bd_s, bd_s, bd_s, bd_s, bd_s, bd_s]
  refine ok_some ?_
  have f : Fr (fun x => 100 ≤ x) s (zr (zr (zr (zr (zr (zr (zr (zr (zr (zr (zr (zr (zr (zr (zr (zr (zr (zr (zr (zr (zr (zr (setI (zr s 100) 100 0 4) 101) 102) 103) 104) 105) 106) 107) 108) 109) 110) 111) 112) 113) 114) 115) 116) 117) 118) 119) 120) 121) 122) := (fr_zr (fr_zr (fr_zr (fr_zr (fr_zr (fr_zr (fr_zr (fr_zr (fr_zr (fr_zr (fr_zr (fr_zr (fr_zr (fr_zr (fr_zr (fr_zr (fr_zr (fr_zr (fr_zr (fr_zr (fr_zr (fr_zr (fr_setI (fr_zr fr_refl (by decide)) (by decide)) (by decide)) (by decide)) (by decide)) (by decide)) (by decide)) (by decide)) (by decide)) (by decide)) (by decide)) (by decide)) (by decide)) (by decide)) (by decide)) (by decide)) (by decide)) (by decide)) (by decide)) (by decide)) (by decide)) (by decide)) (by decide)) (by decide))
  have z0 : ∀ x j, 101 ≤ x → x ≤ 122 → ((zr (zr (zr (zr (zr (zr (zr (zr (zr (zr (zr (zr (zr (zr (zr (zr (zr (zr (zr (zr (zr (zr (setI (zr s 100) 100 0 4) 101) 102) 103) 104) 105) 106) 107) 108) 109) 110) 111) 112) 113) 114) 115) 116) 117) 118) 119) 120) 121) 122)).1 x j = nI 0 := by
    intro x j h1 h2
    rcases (show x = 101 ∨ x = 102 ∨ x = 103 ∨ x = 104 ∨ x = 105 ∨ x = 106 ∨ x = 107 ∨ x = 108 ∨ x = 109 ∨ x = 110 ∨ x = 111 ∨ x = 112 ∨ x = 113 ∨ x = 114 ∨ x = 115 ∨ x = 116 ∨ x = 117 ∨ x = 118 ∨ x = 119 ∨ x = 120 ∨ x = 121 ∨ x = 122 by omega) with rfl | rfl | rfl | rfl | rfl | rfl | rfl | rfl | rfl | rfl | rfl | rfl | rfl | rfl | rfl | rfl | rfl | rfl | rfl | rfl | rfl | rfl
    · rw [gz_o (by decide), gz_o (by decide), gz_o (by decide), gz_o (by decide), gz_o (by decide), gz_o (by decide), gz_o (by decide), gz_o (by decide), gz_o (by decide), gz_o (by decide), gz_o (by decide), gz_o (by decide), gz_o (by decide), gz_o (by decide), gz_o (by decide), gz_o (by decide), gz_o (by decide), gz_o (by decide), gz_o (by decide), gz_o (by decide), gz_o (by decide), gz_s]
    · rw [gz_o (by decide), gz_o (by decide), gz_o (by decide), gz_o (by decide), gz_o (by decide), gz_o (by decide), gz_o (by decide), gz_o (by decide), gz_o (by decide), gz_o (by decide), gz_o (by decide), gz_o (by decide), gz_o (by decide), gz_o (by decide), gz_o (by decide), gz_o (by decide), gz_o (by decide), gz_o (by decide), gz_o (by decide), gz_o (by decide), gz_s]
    · rw [gz_o (by decide), gz_o (by decide), gz_o (by decide), gz_o (by decide), gz_o (by decide), gz_o (by decide), gz_o (by decide), gz_o (by decide), gz_o (by decide), gz_o (by decide), gz_o (by decide), gz_o (by decide), gz_o (by decide), gz_o (by decide), gz_o (by decide), gz_o (by decide), gz_o (by decide), gz_o (by decide), gz_o (by decide), gz_s]
    · rw [gz_o (by decide), gz_o (by decide), gz_o (by decide), gz_o (by decide), gz_o (by decide), gz_o (by decide), gz_o (by decide), gz_o (by decide), gz_o (by decide), gz_o (by decide), gz_o (by decide), gz_o (by decide), gz_o (by decide), gz_o (by decide), gz_o (by decide), gz_o (by decide), gz_o (by decide), gz_o (by decide), gz_s]
    · rw [gz_o (by decide), gz_o (by decide), gz_o (by decide), gz_o (by decide), gz_o (by decide), gz_o (by decide), gz_o (by decide), gz_o (by decide), gz_o (by decide), gz_o (by decide), gz_o (by decide), gz_o (by decide), gz_o (by decide), gz_o (by decide), gz_o (by decide), gz_o (by decide), gz_o (by decide), gz_s]
    · rw [gz_o (by decide), gz_o (by decide), gz_o (by decide), gz_o (by decide), gz_o (by decide), gz_o (by decide), gz_o (by decide), gz_o (by decide), gz_o (by decide), gz_o (by decide), gz_o (by decide), gz_o (by decide), gz_o (by decide), gz_o (by decide), gz_o (by decide), gz_o (by decide), gz_s]
    · rw [gz_o (by decide), gz_o (by decide), gz_o (by decide), gz_o (by decide), gz_o (by decide), gz_o (by decide), gz_o (by decide), gz_o (by decide), gz_o (by decide), gz_o (by decide), gz_o (by decide), gz_o (by decide), gz_o (by decide), gz_o (by decide), gz_o (by decide), gz_s]
    · rw [gz_o (by decide), gz_o (by decide), gz_o (by decide), gz_o (by decide), gz_o (by decide), gz_o (by decide), gz_o (by decide), gz_o (by decide), gz_o (by decide), gz_o (by decide), gz_o (by decide), gz_o (by decide), gz_o (by decide), gz_o (by decide), gz_s]
    · rw [gz_o (by decide), gz_o (by decide), gz_o (by decide), gz_o (by decide), gz_o (by decide), gz_o (by decide), gz_o (by decide), gz_o (by decide), gz_o (by decide), gz_o (by decide), gz_o (by decide), gz_o (by decide), gz_o (by decide), gz_s]
    · rw [gz_o (by decide), gz_o (by decide), gz_o (by decide), gz_o (by decide), gz_o (by decide), gz_o (by decide), gz_o (by decide), gz_o (by decide), gz_o (by decide), gz_o (by decide), gz_o (by decide), gz_o (by decide), gz_s]
    · rw [gz_o (by decide), gz_o (by decide), gz_o (by decide), gz_o (by decide), gz_o (by decide), gz_o (by decide), gz_o (by decide), gz_o (by decide), gz_o (by decide), gz_o (by decide), gz_o (by decide), gz_s]
    · rw [gz_o (by decide), gz_o (by decide), gz_o (by decide), gz_o (by decide), gz_o (by decide), gz_o (by decide), gz_o (by decide), gz_o (by decide), gz_o (by decide), gz_o (by decide), gz_s]
    · rw [gz_o (by decide), gz_o (by decide), gz_o (by decide), gz_o (by decide), gz_o (by decide), gz_o (by decide), gz_o (by decide), gz_o (by decide), gz_o (by decide), gz_s]
    · rw [gz_o (by decide), gz_o (by decide), gz_o (by decide), gz_o (by decide), gz_o (by decide), gz_o (by decide), gz_o (by decide), gz_o (by decide), gz_s]
    · rw [gz_o (by decide), gz_o (by decide), gz_o (by decide), gz_o (by decide), gz_o (by decide), gz_o (by decide), gz_o (by decide), gz_s]
    · rw [gz_o (by decide), gz_o (by decide), gz_o (by decide), gz_o (by decide), gz_o (by decide), gz_o (by decide), gz_s]
    · rw [gz_o (by decide), gz_o (by decide), gz_o (by decide), gz_o (by decide), gz_o (by decide), gz_s]
    · rw [gz_o (by decide), gz_o (by decide), gz_o (by decide), gz_o (by decide), gz_s]
    · rw [gz_o (by decide), gz_o (by decide), gz_o (by decide), gz_s]
    · rw [gz_o (by decide), gz_o (by decide), gz_s]
    · rw [gz_o (by decide), gz_s]
    · rw [gz_s]
  have zh : ∀ j, ((zr (zr (zr (zr (zr (zr (zr (zr (zr (zr (zr (zr (zr (zr (zr (zr (zr (zr (zr (zr (zr (zr (setI (zr s 100) 100 0 4) 101) 102) 103) 104) 105) 106) 107) 108) 109) 110) 111) 112) 113) 114) 115) 116) 117) 118) 119) 120) 121) 122)).1 100 j = if j = 0 then nI 4 else nI 0 := by
    intro j
    rw [gz_o (by decide), gz_o (by decide), gz_o (by decide), gz_o (by decide), gz_o (by decide), gz_o (by decide), gz_o (by decide), gz_o (by decide), gz_o (by decide), gz_o (by decide), gz_o (by decide), gz_o (by decide), gz_o (by decide), gz_o (by decide), gz_o (by decide), gz_o (by decide), gz_o (by decide), gz_o (by decide), gz_o (by decide), gz_o (by decide), gz_o (by decide), gz_o (by decide), gsI_s, gz_s]; rfl
  generalize (zr (zr (zr (zr (zr (zr (zr (zr (zr (zr (zr (zr (zr (zr (zr (zr (zr (zr (zr (zr (zr (zr (setI (zr s 100) 100 0 4) 101) 102) 103) 104) 105) 106) 107) 108) 109) 110) 111) 112) 113) 114) 115) 116) 117) 118) 119) 120) 121) 122) = t at f z0 zh
  refine ⟨⟨nm_reset (by decide) (by decide) (zh 0) (fun q hq => z0 101 q (by decide) (by decide)), ⟨zh 2, by decide, fun i hi => absurd hi (Nat.not_lt_zero _), fun i hi => absurd hi (Nat.not_lt_zero _)⟩, fun k sp h1 h2 h3 => ?_, fun k hk => Or.inl (z0 112 _ (by decide) (by decide)), Or.inl (zh 36), zh 24, zh 23, fun e => by cases e⟩, f⟩
  rw [z0 104 _ (by decide) (by decide)]
  exact ⟨Or.inl rfl, fun w => absurd w b_01⟩
theorem first {R : Type} {K : St → Option R} {Q : R → Prop} (tx : Nat → Nat) (hK : ∀ t, Inv t 4 (rO 4) 1 tx 0 P0 → Ok (K t) Q) : Ok (bd (zr s 0) fun s1 => (f_X9_init s1).bind fun s2 => bd (zr s2 100) fun s3 => (f_X10_init s3).bind K) Q := by
  rw [bd_s]
  refine ok_bnd (x9_init tx) ?_
  intro s2 i2
  rw [bd_s]
  refine ok_bnd (x10_init tx) ?_
  rintro s4 ⟨m4, f4⟩
  exact hK s4 ⟨ic_out i2 f4 (fun x hx => by omega), m4, fun w => by cases w⟩
end START
