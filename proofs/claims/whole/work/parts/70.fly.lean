/-! flying hunters: what is needed, by sets; the class -/
theorem y_pw {p : Nat} (hp : p < 8) : nI 1 <<< (nI p &&& 31) = nI (2 ^ p) := by
  simp (disch := omega) only [q_0, q_1, q_2, q_3, q_4, q_5, q_6, q_7, q_8, q_9, q_15, q_16, q_31, q_32, q_48, q_57, q_59, q_63, q_64, q_97, q_100, q_122, q_127, q_160, q_255, q_256, q_512, q_1024, q_2816, q_4096, q_16384, q_1048576, q_m1, q_m2, q_m3, q_m4, q_m5, bd_s, calP_s, cal_s, nI_add, pk_mul, pk_sub, z_and, z_or, z_xor, y_nd, y_shl, y_shr, y_tb, y_ck, nI_ltI, nI_eq, nI_clamp, y_m1a, y_m1b, y_m1c, y_m1d, y_m1e, y_b0, y_b1, y_and255, gsI_o, gsI_s, gsI_2, gsR_o, gsR_s, gsR_2, gsL_1, gsL_o, gsL_s, jn0, jn1, jn2, jn3, jn4, jn5, ↓reduceIte, if_true, if_false, ite_self, ne_eq, not_true_eq_false, not_false_eq_true, and_true, true_and, and_false, false_and, Nat.reduceAdd, Nat.reduceMul, Nat.reduceSub, Nat.reducePow, Nat.reduceLT, Nat.reduceEqDiff, Nat.reduceLeDiff, Nat.not_lt_zero, Nat.add_sub_cancel, Nat.add_zero, Nat.zero_add, pk_div, y_dn, Nat.one_mul, Nat.mul_one, reduceCtorEq, y_pow]
theorem y_bt {S p : Nat} (hS : S < 2 ^ 31) (hp : p < 32) : (nI S >>> (nI p &&& 31)) &&& nI 1 = nI (S.testBit p).toNat := by
  simp (disch := omega) only [q_0, q_1, q_2, q_3, q_4, q_5, q_6, q_7, q_8, q_9, q_15, q_16, q_31, q_32, q_48, q_57, q_59, q_63, q_64, q_97, q_100, q_122, q_127, q_160, q_255, q_256, q_512, q_1024, q_2816, q_4096, q_16384, q_1048576, q_m1, q_m2, q_m3, q_m4, q_m5, bd_s, calP_s, cal_s, nI_add, pk_mul, pk_sub, z_and, z_or, z_xor, y_nd, y_shl, y_shr, y_tb, y_ck, nI_ltI, nI_eq, nI_clamp, y_m1a, y_m1b, y_m1c, y_m1d, y_m1e, y_b0, y_b1, y_and255, gsI_o, gsI_s, gsI_2, gsR_o, gsR_s, gsR_2, gsL_1, gsL_o, gsL_s, jn0, jn1, jn2, jn3, jn4, jn5, ↓reduceIte, if_true, if_false, ite_self, ne_eq, not_true_eq_false, not_false_eq_true, and_true, true_and, and_false, false_and, Nat.reduceAdd, Nat.reduceMul, Nat.reduceSub, Nat.reducePow, Nat.reduceLT, Nat.reduceEqDiff, Nat.reduceLeDiff, Nat.not_lt_zero, Nat.add_sub_cancel, Nat.add_zero, Nat.zero_add, pk_div, y_dn, Nat.one_mul, Nat.mul_one, reduceCtorEq]
def adj (O : Nat → Nat) (a b : Nat) : Bool := (O a).testBit b || (O b).testBit a
def ar (O : Nat → Nat) (S : Nat) : Nat := ah O S ||| ah (inv O) S
def costU (n : Nat) (O : Nat → Nat) (S : Nat) : Nat := pc (S &&& ar O (nd (2 ^ n - 1) S)) 8
def mtS (O : Nat → Nat) (S p : Nat) : Nat → Nat
  | 0 => 2 ^ p
  | k + 1 => mtS O S p k ||| (ar O (mtS O S p k) &&& S)
def costS (O : Nat → Nat) (S p : Nat) : Nat := pc (nd (nd (ar O (mtS O S p 8)) S) (2 ^ p)) 8
def cst (n : Nat) (O : Nat → Nat) (sn : Bool) (S p : Nat) : Nat := if sn = true then costS O S p else costU n O (S ||| 2 ^ p)
theorem cst_le (n : Nat) (O : Nat → Nat) (sn : Bool) (S p : Nat) : cst n O sn S p ≤ 8 := by
  unfold cst; split
  · exact pc_le _ 8
  · exact pc_le _ 8
def mnF (b S : Nat) (v : Nat → Nat) : Nat → Nat
  | 0 => b
  | m + 1 => if S.testBit m = true then mnF b S v m else min (v m) (mnF b S v m)
theorem mn_leb (b S : Nat) (v : Nat → Nat) : ∀ m, mnF b S v m ≤ b := by
  intro m
  induction m with
  | zero => exact Nat.le_refl _
  | succ m ih => rw [mnF]; split <;> omega
theorem mn_le {b S : Nat} {v : Nat → Nat} {p : Nat} (hp : S.testBit p = false) : ∀ m, p < m → mnF b S v m ≤ v p := by
  intro m
  induction m with
  | zero => intro h; omega
  | succ m ih =>
    intro h
    rw [mnF]
    rcases Nat.lt_succ_iff_lt_or_eq.mp h with e | rfl
    · have := ih e
      split <;> omega
    · rw [if_neg (by rw [hp]; decide)]; omega
theorem mn_at {b S : Nat} {v : Nat → Nat} : ∀ m, mnF b S v m < b → ∃ p, p < m ∧ S.testBit p = false ∧ v p = mnF b S v m := by
  intro m
  induction m with
  | zero => intro h; exact absurd h (Nat.lt_irrefl _)
  | succ m ih =>
    intro h
    rw [mnF] at h ⊢
    cases hb : S.testBit m with
    | true =>
      rw [hb, if_pos rfl] at h
      obtain ⟨p, h1, h2, h3⟩ := ih h
      exact ⟨p, by omega, h2, by rw [if_pos rfl]; exact h3⟩
    | false =>
      rw [hb, if_neg (by decide)] at h
      rw [if_neg (by decide)]
      rcases Nat.lt_or_ge (v m) (mnF b S v m) with q | q
      · exact ⟨m, by omega, hb, by omega⟩
      · obtain ⟨p, h1, h2, h3⟩ := ih (by omega)
        exact ⟨p, by omega, h2, by omega⟩
theorem mn_cg {b S : Nat} {v w : Nat → Nat} : ∀ m, (∀ p, p < m → S.testBit p = false → v p = w p) → mnF b S v m = mnF b S w m := by
  intro m
  induction m with
  | zero => intro _; rfl
  | succ m ih =>
    intro h
    rw [mnF, mnF, ih (fun p hp => h p (by omega))]
    cases hb : S.testBit m with
    | true => rfl
    | false => rw [h m (by omega) hb]
theorem mn_b {b c S : Nat} {v : Nat → Nat} (hb : b ≤ c) : ∀ m, mnF b S v m = min b (mnF c S v m) := by
  intro m
  induction m with
  | zero => show b = min b c; omega
  | succ m ih => rw [mnF, mnF, ih]; split <;> omega
theorem pc_or {S p : Nat} (h : S.testBit p = false) (hp : p < 8) : pc (S ||| 2 ^ p) 8 = pc S 8 + 1 := by
  have h1 : (S ||| 2 ^ p).testBit p = true := by rw [Nat.testBit_or, tb_pow]; simp
  have h2 := pc_nd h1 8 hp
  have h3 := pc_pos h1 8 hp
  have h4 : nd (S ||| 2 ^ p) (2 ^ p) = S := tb_ext (fun i => by
    rw [nd_tb, Nat.testBit_or, tb_pow]
    by_cases e : p = i
    · subst e; rw [h]; simp
    · simp [e])
  rw [h4] at h2
  omega
def rr (n : Nat) (cs : Nat → Nat → Nat) : Nat → Nat → Nat
  | 0, _ => 0
  | f + 1, S => mnF (if S = 2 ^ n - 1 then 0 else 8) S (fun p => max (cs S p) (rr n cs f (S ||| 2 ^ p))) n
def TT (n : Nat) (cs : Nat → Nat → Nat) (S : Nat) : Nat := rr n cs (9 - pc S 8) S
theorem ite_le0 {P : Prop} [Decidable P] {b : Nat} : (if P then 0 else b) ≤ b := by split <;> omega
theorem TT_le (n : Nat) (cs : Nat → Nat → Nat) (S : Nat) : TT n cs S ≤ 8 := by
  have h1 := pc_le S 8
  unfold TT
  rw [show 9 - pc S 8 = (8 - pc S 8) + 1 by omega, rr]
  exact Nat.le_trans (mn_leb _ _ _ _) ite_le0
theorem TT_eq {n : Nat} (h8 : n ≤ 8) (cs : Nat → Nat → Nat) (S : Nat) : TT n cs S = mnF (if S = 2 ^ n - 1 then 0 else 8) S (fun p => max (cs S p) (TT n cs (S ||| 2 ^ p))) n := by
  have h1 := pc_le S 8
  rw [TT, show 9 - pc S 8 = (8 - pc S 8) + 1 by omega, rr]
  refine mn_cg n (fun p hp hb => ?_)
  show max (cs S p) _ = max (cs S p) _
  rw [TT, pc_or hb (by omega), show 9 - (pc S 8 + 1) = 8 - pc S 8 by omega]
theorem ex_out {n S : Nat} (hS : S < 2 ^ n) (h : S ≠ 2 ^ n - 1) : ∃ p, p < n ∧ S.testBit p = false := by
  obtain ⟨h1, h2, h3⟩ := fs_sp (fun p => !S.testBit p) n
  rcases Nat.lt_or_ge (fsN (fun p => !S.testBit p) n) n with q | q
  · exact ⟨_, q, by simpa using h2 q⟩
  · refine absurd (tb_ext (fun i => ?_)) h
    rw [Nat.testBit_two_pow_sub_one]
    by_cases hi : i < n
    · have := h3 i (by omega)
      simpa [hi] using this
    · rw [tb_ge hS (by omega)]; simp [hi]
theorem TT_100 {n : Nat} (h8 : n ≤ 8) {cs : Nat → Nat → Nat} (hc : ∀ S p, cs S p ≤ 8) {S : Nat} (hS : S < 2 ^ n) : TT n cs S = mnF (if S = 2 ^ n - 1 then 0 else 100) S (fun p => max (cs S p) (TT n cs (S ||| 2 ^ p))) n := by
  rw [TT_eq h8]
  by_cases e : S = 2 ^ n - 1
  · rw [if_pos e, if_pos e]
  · rw [if_neg e, if_neg e, mn_b (show 8 ≤ 100 by omega) n]
    obtain ⟨p, hp, hb⟩ := ex_out hS e
    have := mn_le (b := 100) (v := fun p => max (cs S p) (TT n cs (S ||| 2 ^ p))) hb n hp
    have h1 := hc S p
    have h2 := TT_le n cs (S ||| 2 ^ p)
    have h3 : max (cs S p) (TT n cs (S ||| 2 ^ p)) ≤ 8 := by omega
    have h4 : mnF 100 S (fun p => max (cs S p) (TT n cs (S ||| 2 ^ p))) n ≤ 8 := Nat.le_trans this h3
    omega
def orB (n : Nat) (cs : Nat → Nat → Nat) (S p : Nat) : Bool := !S.testBit p && decide (max (cs S p) (TT n cs (S ||| 2 ^ p)) ≤ TT n cs 0)
def oS (n : Nat) (cs : Nat → Nat → Nat) : Nat → Nat
  | 0 => 0
  | i + 1 => oS n cs i ||| 2 ^ fsN (orB n cs (oS n cs i)) n
def oP (n : Nat) (cs : Nat → Nat → Nat) (i : Nat) : Nat := fsN (orB n cs (oS n cs i)) n
theorem fs_ex {f : Nat → Bool} {n p : Nat} (hp : p < n) (h : f p = true) : fsN f n < n := by
  obtain ⟨h1, h2, h3⟩ := fs_sp f n
  rcases Nat.lt_or_ge (fsN f n) n with q | q
  · exact q
  · rw [h3 p (by omega)] at h; cases h
theorem o_next {n : Nat} (h8 : n ≤ 8) {cs : Nat → Nat → Nat} (hc : ∀ S p, cs S p ≤ 8) {S : Nat} (hS : S < 2 ^ n) (hne : S ≠ 2 ^ n - 1) (hT : TT n cs S ≤ TT n cs 0) : fsN (orB n cs S) n < n := by
  have e := TT_eq h8 cs S
  rw [if_neg hne] at e
  have hm := mn_leb 8 S (fun p => max (cs S p) (TT n cs (S ||| 2 ^ p))) n
  have fin : ∀ p, p < n → S.testBit p = false → max (cs S p) (TT n cs (S ||| 2 ^ p)) ≤ TT n cs 0 → fsN (orB n cs S) n < n := fun p h1 h2 h3 => fs_ex h1 (by rw [orB, h2, decide_eq_true h3]; rfl)
  rcases Nat.lt_or_ge (mnF 8 S (fun p => max (cs S p) (TT n cs (S ||| 2 ^ p))) n) 8 with q | q
  · obtain ⟨p, h1, h2, h3⟩ := mn_at n q
    exact fin p h1 h2 (by rw [← e] at h3; exact Nat.le_trans (Nat.le_of_eq h3) hT)
  · obtain ⟨p, h1, h2⟩ := ex_out hS hne
    have a1 := hc S p
    have a2 := TT_le n cs (S ||| 2 ^ p)
    exact fin p h1 h2 (by omega)
theorem o_ok {n : Nat} (h8 : n ≤ 8) {cs : Nat → Nat → Nat} (hc : ∀ S p, cs S p ≤ 8) : ∀ i, i ≤ n → pc (oS n cs i) 8 = i ∧ oS n cs i < 2 ^ n ∧ TT n cs (oS n cs i) ≤ TT n cs 0 ∧ (i < n → oP n cs i < n ∧ (oS n cs i).testBit (oP n cs i) = false) := by
  have nx : ∀ i, pc (oS n cs i) 8 = i → oS n cs i < 2 ^ n → TT n cs (oS n cs i) ≤ TT n cs 0 → i < n → oP n cs i < n ∧ (oS n cs i).testBit (oP n cs i) = false := by
    intro i h1 h2 h3 h4
    have hlt := o_next h8 hc h2 (fun e => by rw [e, pc_all n h8] at h1; omega) h3
    have hb := (fs_sp (orB n cs (oS n cs i)) n).2.1 hlt
    rw [orB, Bool.and_eq_true] at hb
    exact ⟨hlt, by simpa [oP] using hb.1⟩
  intro i
  induction i with
  | zero =>
    intro _
    have h1 : pc (oS n cs 0) 8 = 0 := by show pc 0 8 = 0; decide
    have h2 : oS n cs 0 < 2 ^ n := Nat.two_pow_pos n
    exact ⟨h1, h2, Nat.le_refl _, nx 0 h1 h2 (Nat.le_refl _)⟩
  | succ i ih =>
    intro hi
    obtain ⟨h1, h2, h3, h4⟩ := ih (by omega)
    obtain ⟨h5, h6⟩ := h4 (by omega)
    have hb := (fs_sp (orB n cs (oS n cs i)) n).2.1 h5
    rw [orB, Bool.and_eq_true] at hb
    have hb2 := of_decide_eq_true hb.2
    have k1 : pc (oS n cs (i + 1)) 8 = i + 1 := by
      show pc (oS n cs i ||| 2 ^ oP n cs i) 8 = i + 1
      rw [pc_or h6 (by omega), h1]
    have k2 : oS n cs (i + 1) < 2 ^ n := or_lt h2 (Nat.pow_lt_pow_right (by decide) h5)
    have k3 : TT n cs (oS n cs (i + 1)) ≤ TT n cs 0 := by
      show TT n cs (oS n cs i ||| 2 ^ fsN (orB n cs (oS n cs i)) n) ≤ TT n cs 0
      omega
    exact ⟨k1, k2, k3, nx _ k1 k2 k3⟩
section FLY
variable {σ : St} {n c j : Nat} {O : Nat → Nat} {sn : Bool}
theorem ar_lt (h : NP n O) (S : Nat) : ar O S < 256 := or_lt (n := 8) (ah_lt8 h S) (be_lt8 S)
theorem mtS_lt {S p : Nat} (h : NP n O) (hS : S < 256) (hp : p < 8) : ∀ k, mtS O S p k < 256 := by
  intro k
  induction k with
  | zero => exact pow8 hp
  | succ k ih => exact or_lt (n := 8) ih (Nat.lt_of_le_of_lt Nat.and_le_right hS)
theorem e_border (h : NC σ n O c) {S : Nat} (hS : S < 256) : f_X4_border σ j (nI S) = some (nI (costU n O S)) := by
  unfold f_X4_border
  rw [e_all h.z, calP_s, q_mm, y_nd, e_around h (nd_lt (all_lt h.np)), calP_s, z_and, e_bc (Nat.lt_of_le_of_lt Nat.and_le_left hS), calP_s]
  rfl
theorem e_ar (h : NC σ n O c) {S : Nat} (hS : S < 256) : f_X3_around σ (nI S) = some (nI (ar O S)) := e_around h hS
theorem e_neighbours (h : NC σ n O c) {S p : Nat} (hS : S < 256) (hp : p < 8) : f_X4_neighbours σ j (nI S) (nI p) = some (nI (costS O S p)) := by
  unfold f_X4_neighbours
  rw [q_mm, q_0, q_1, y_pw hp, bd_s, q_8]
  refine ok_eq (lo2_for (fun k x => x = nI (mtS O S p k)) 8 ?_ ?_ FU 0 _ (by omega) (fu_lt (by omega)) rfl)
  · rintro rec k x hk rfl kk
    rw [if_pos (nI_lt hk (by omega)), e_ar h (mtS_lt h.np hS hp k), calP_s, z_and, z_or, bd_s, nI_add]
    exact kk _ rfl
  · rintro rec x rfl
    rw [if_neg (nI_nlt (Nat.le_refl _) (by omega)), e_ar h (mtS_lt h.np hS hp 8), calP_s, y_nd, y_nd, e_bc (nd_lt (nd_lt (ar_lt h.np _))), calP_s]
    exact ok_some rfl
theorem y_max {a t : Nat} (ha : a < 2 ^ 31) (ht : t < 2 ^ 31) : (if nI a < nI t then nI t else nI a) = nI (max a t) := by
  by_cases q : a < t
  · rw [if_pos (nI_lt q ht)]; congr 1; omega
  · rw [if_neg (nI_nlt (by omega) ha)]; congr 1; omega
theorem y_min {a t : Nat} (ha : a < 2 ^ 31) (ht : t < 2 ^ 31) : (if nI a < nI t then nI a else nI t) = nI (min a t) := by
  by_cases q : a < t
  · rw [if_pos (nI_lt q ht)]; congr 1; omega
  · rw [if_neg (nI_nlt (by omega) ha)]; congr 1; omega
theorem e_most (h : NC σ n O c) (hs : σ.1 (18 + 3 * j) 1 = nI sn.toNat) {S p t : Nat} (hS : S < 256) (hp : p < 8) (ht : σ.1 (19 + 3 * j) (S ||| 2 ^ p) = nI t) (ht8 : t ≤ 8) : f_X4_most σ j (nI S) (nI p) = some (nI (max (cst n O sn S p) t)) := by
  have hl : S ||| 2 ^ p < 256 := or_lt (n := 8) hS (pow8 hp)
  have hc := cst_le n O sn S p
  unfold f_X4_most
  rw [q_0, q_1, y_pw hp, z_or, q_255, z_and, y_and255 hl, bd_s, jn1, hs, e_border h hl, e_neighbours h hS hp, calP_s, calP_s]
  dsimp only
  rw [y_ck _ hl (by omega), y_ck _ hl (by omega), nI_clamp (Nat.lt_trans hl (by decide)), ht]
  cases sn with
  | false =>
    rw [if_pos b_f0]
    exact congrArg some (y_max (Nat.lt_of_le_of_lt hc (by decide)) (by omega))
  | true =>
    rw [if_neg b_t0]
    exact congrArg some (y_max (Nat.lt_of_le_of_lt hc (by decide)) (by omega))
def OT (s : St) (n : Nat) (O : Nat → Nat) (j : Nat) (sn : Bool) : Prop := s.1 (19 + 3 * j) 0 = nI (TT n (cst n O sn) 0) ∧ ∀ i, i < n → s.1 (20 + 3 * j) i = nI (oP n (cst n O sn) i)
theorem e_choose (h : NC σ n O c) (hj : j < 2) (hs : σ.1 (18 + 3 * j) 1 = nI sn.toNat) (hT : ∀ S, S < 2 ^ n → σ.1 (19 + 3 * j) S = nI (TT n (cst n O sn) S)) : Ok (f_X4_choose σ j) (fun q => (∀ i, i < n → q.2.1 (20 + 3 * j) i = nI (oP n (cst n O sn) i)) ∧ Fr (fun x => x = 20 + 3 * j) σ q.2) := by
  have h8 := h.np.h8
  have h1 := h.np.h1
  have hc := cst_le n O sn
  have ok := o_ok h8 hc
  unfold f_X4_choose f_X3_places
  rw [q_mm, q_0, q_1, q_8]
  refine lo3_for (fun i s x => x = nI (oS n (cst n O sn) i) ∧ (∀ m, m < i → s.1 (20 + 3 * j) m = nI (oP n (cst n O sn) m)) ∧ Fr (fun x => x = 20 + 3 * j) σ s) n ?_ ?_ FU 0 _ _ (by omega) (fu_lt (by omega)) ⟨rfl, fun m hm => absurd hm (Nat.not_lt_zero _), fr_refl⟩
  · rintro rec i s x hi ⟨rfl, hm, hf⟩ kk
    obtain ⟨o1, o2, o3, o4⟩ := ok i (by omega)
    obtain ⟨o5, o6⟩ := o4 hi
    have o7 : oS n (cst n O sn) i < 256 := Nat.lt_of_lt_of_le o2 (p256 h8)
    have hN : NC s n O c := nc_fr h hf (fun x hx => by omega)
    have hs' : s.1 (18 + 3 * j) 1 = nI sn.toNat := by rw [hf.1 _ (by omega)]; exact hs
    have hT' : ∀ S, S < 2 ^ n → s.1 (19 + 3 * j) S = nI (TT n (cst n O sn) S) := fun S hS => by rw [hf.1 _ (by omega)]; exact hT S hS
    have hT0 := hT' 0 (Nat.two_pow_pos n)
    have ht8 := TT_le n (cst n O sn)
    rw [hN.pl, calP_s, if_pos (nI_lt hi (by omega)), if_pos (nI_lt (show i < 8 by omega) (by omega))]
    have fin : Ok (ck (nI i) 8 <| bd (setI s (20 + 3 * j) (nI i).toNatClampNeg (nI (oP n (cst n O sn) i))) fun s13 => if nI (oP n (cst n O sn) i) = M1 then bd (nI (oS n (cst n O sn) i) ||| nI 0) fun x14 => rec s13 x14 (nI i + nI 1) else bd (nI (oS n (cst n O sn) i) ||| (nI 1 <<< (nI (oP n (cst n O sn) i) &&& 31))) fun x15 => rec s13 x15 (nI i + nI 1)) (fun q => (∀ i, i < n → q.2.1 (20 + 3 * j) i = nI (oP n (cst n O sn) i)) ∧ Fr (fun x => x = 20 + 3 * j) σ q.2) := by
      rw [y_ck _ (by omega) (by omega), nI_clamp (by omega), bd_s, if_neg (nI_mm (by omega)), y_pw (by omega), z_or, bd_s, nI_add]
      refine kk _ _ ⟨rfl, fun m h3 => ?_, fr_setI hf rfl⟩
      rw [gsI_s]
      by_cases e : m = i
      · rw [if_pos e, e]
      · rw [if_neg e]; exact hm m (by omega)
    refine lo2_for (fun q y => (y = M1 ∧ ∀ r, r < q → orB n (cst n O sn) (oS n (cst n O sn) i) r = false) ∨ y = nI (oP n (cst n O sn) i)) n ?_ ?_ FU 0 _ (by omega) (fu_lt (by omega)) (Or.inl ⟨rfl, fs_nil⟩)
    · rintro rec2 q y hq hI k2
      rw [calP_s, jn0, if_pos (nI_lt hq (by omega))]
      rcases hI with ⟨rfl, hI⟩ | rfl
      · rw [if_pos rfl, e_has (by omega) (by omega), calP_s]
        cases hb : (oS n (cst n O sn) i).testBit q with
        | true =>
          rw [if_neg b_t0, nI_add]
          exact k2 _ (Or.inl ⟨rfl, fs_ext hI (by rw [orB, hb]; rfl)⟩)
        | false =>
          have hq2 : oS n (cst n O sn) i ||| 2 ^ q < 2 ^ n := or_lt o2 (Nat.pow_lt_pow_right (by decide) hq)
          have hmx : max (cst n O sn (oS n (cst n O sn) i) q) (TT n (cst n O sn) (oS n (cst n O sn) i ||| 2 ^ q)) ≤ 8 := Nat.max_le.mpr ⟨hc _ _, ht8 _⟩
          rw [if_pos b_f0, e_most hN hs' o7 (by omega) (hT' _ hq2) (ht8 _), calP_s, y_ck _ (by omega) (by omega), nI_clamp (by omega), hT0, nI_add]
          have h08 := ht8 0
          by_cases g : max (cst n O sn (oS n (cst n O sn) i) q) (TT n (cst n O sn) (oS n (cst n O sn) i ||| 2 ^ q)) ≤ TT n (cst n O sn) 0
          · rw [if_neg (nI_nlt g (Nat.lt_of_le_of_lt h08 (by decide)))]
            exact k2 _ (Or.inr (by rw [oP, fs_hit hq hI (by rw [orB, hb, decide_eq_true g]; rfl)]))
          · rw [if_pos (nI_lt (Nat.lt_of_not_le g) (Nat.lt_of_le_of_lt hmx (by decide)))]
            exact k2 _ (Or.inl ⟨rfl, fs_ext hI (by rw [orB, decide_eq_false g, Bool.and_false])⟩)
      · rw [if_neg (nI_mm (by omega))]
        exact fin
    · rintro rec2 y hI
      rw [calP_s, jn0, if_neg (nI_nlt (Nat.le_refl _) (by omega))]
      rcases hI with ⟨rfl, hI⟩ | rfl
      · have := fs_miss hI
        rw [oP] at o5
        omega
      · exact fin
  · rintro rec s x ⟨rfl, hm, hf⟩
    have hN : NC s n O c := nc_fr h hf (fun x hx => by omega)
    rw [hN.pl, calP_s, if_neg (nI_nlt (Nat.le_refl _) (by omega))]
    exact ok_some ⟨hm, hf⟩
theorem or_gt {S p : Nat} (h : S.testBit p = false) : S < S ||| 2 ^ p := by
  have h1 : S ≤ S ||| 2 ^ p := Nat.left_le_or
  rcases Nat.lt_or_ge S (S ||| 2 ^ p) with q | q
  · exact q
  · have e : S ||| 2 ^ p = S := by omega
    have := congrArg (fun x => Nat.testBit x p) e
    simp [Nat.testBit_or, tb_pow, h] at this
theorem e_osolve (h : NC σ n O c) (hj : j < 2) (hs : σ.1 (18 + 3 * j) 1 = nI sn.toNat) (hv : σ.1 (18 + 3 * j) 4 = nI c → OT σ n O j sn) : Ok (f_X4_solve σ j) (fun q => OT q.2 n O j sn ∧ q.2.1 (18 + 3 * j) 4 = nI c ∧ q.2.1 (18 + 3 * j) 1 = nI sn.toNat ∧ Fr (fun x => 18 + 3 * j ≤ x ∧ x ≤ 20 + 3 * j) σ q.2) := by
  have h8 := h.np.h8
  have h1 := h.np.h1
  have hc := cst_le n O sn
  have ht8 := TT_le n (cst n O sn)
  have ha := all_lt h.np
  have h2 := Nat.two_pow_pos n
  unfold f_X4_solve f_X3_changes
  rw [h.ch, calP_s]
  by_cases g : σ.1 (18 + 3 * j) 4 = nI c
  · rw [if_pos g]
    exact ok_some ⟨hv g, g, hs, fr_refl⟩
  rw [if_neg g, calP_s, bd_s]
  have f0 : Fr (fun x => 18 + 3 * j ≤ x ∧ x ≤ 20 + 3 * j) σ (setI σ (18 + 3 * j) 4 (nI c)) := fr_setI fr_refl (by omega)
  have hN0 := nc_fr h f0 (fun x hx => by omega)
  rw [e_all hN0.z, calP_s, q_255, if_neg (nI_nlt (by omega) (by omega)), bd_s, show nI (2 ^ n - 1) = dI (2 ^ n) by unfold dI; rw [if_neg (by omega)]]
  rw [q_mm, q_0, q_1, q_8]
  refine lo2_dn (fun k s => (∀ S, k ≤ S → S < 2 ^ n → s.1 (19 + 3 * j) S = nI (TT n (cst n O sn) S)) ∧ s.1 (18 + 3 * j) 4 = nI c ∧ s.1 (18 + 3 * j) 1 = nI sn.toNat ∧ Fr (fun x => 18 + 3 * j ≤ x ∧ x ≤ 20 + 3 * j) σ s) (2 ^ n) ?_ ?_ FU (2 ^ n) _ (Nat.le_refl _) (fu_lt (by omega)) ⟨fun S a b => by omega, by rw [gsI_s, if_pos rfl], by rw [gsI_s, if_neg (by decide)]; exact hs, f0⟩
  · rintro rec S s hS ⟨i1, i2, i3, i4⟩ kk
    have hN : NC s n O c := nc_fr h i4 (fun x hx => by omega)
    rw [if_neg (show ¬ nI S < nI 0 from nI_nlt (Nat.zero_le _) (by omega)), bd_s, y_dn]
    have hin : (if nI S = dI (2 ^ n) then nI 0 else nI 8) = nI (if S = 2 ^ n - 1 then 0 else 8) := by
      rw [show dI (2 ^ n) = nI (2 ^ n - 1) by unfold dI; rw [if_neg (by omega)]]
      by_cases e : S = 2 ^ n - 1
      · rw [if_pos (by rw [e]), if_pos e]
      · rw [if_neg (nI_ne (by omega) (by omega) e), if_neg e]
    rw [hin]
    refine lo2_for (fun p y => y = nI (mnF (if S = 2 ^ n - 1 then 0 else 8) S (fun p => max (cst n O sn S p) (TT n (cst n O sn) (S ||| 2 ^ p))) p)) n ?_ ?_ FU 0 _ (by omega) (fu_lt (by omega)) rfl
    · rintro rec2 p y hp rfl k2
      have hml : mnF (if S = 2 ^ n - 1 then 0 else 8) S (fun p => max (cst n O sn S p) (TT n (cst n O sn) (S ||| 2 ^ p))) p ≤ 8 := by
        exact Nat.le_trans (mn_leb _ _ _ _) ite_le0
      unfold f_X3_places
      rw [mnF] at k2
      rw [hN.pl, calP_s, if_pos (nI_lt hp (by omega)), e_has (by omega) (by omega), calP_s, nI_add]
      cases hb : S.testBit p with
      | true =>
        rw [if_neg b_t0]
        exact k2 _ (by rw [hb, if_pos rfl])
      | false =>
        have hq2 : S ||| 2 ^ p < 2 ^ n := or_lt hS (Nat.pow_lt_pow_right (by decide) hp)
        have hmx : max (cst n O sn S p) (TT n (cst n O sn) (S ||| 2 ^ p)) ≤ 8 := Nat.max_le.mpr ⟨hc _ _, ht8 _⟩
        rw [if_pos b_f0, e_most hN i3 (by omega) (by omega) (i1 _ (or_gt hb) hq2) (ht8 _), calP_s, y_min (Nat.lt_of_le_of_lt hmx (by decide)) (Nat.lt_of_le_of_lt hml (by decide)), bd_s]
        exact k2 _ (by rw [hb, if_neg (show ¬ false = true by decide)])
    · rintro rec2 y rfl
      unfold f_X3_places
      rw [hN.pl, calP_s, if_neg (nI_nlt (Nat.le_refl _) (by omega)), y_ck _ (by omega) (by omega), nI_clamp (by omega), bd_s]
      refine kk _ ⟨fun X a b => ?_, ?_, ?_, fr_setI i4 (by omega)⟩
      · rw [gsI_s]
        by_cases e : X = S
        · rw [if_pos e, e, ← TT_eq h8]
        · rw [if_neg e]; exact i1 X (by omega) b
      · rw [gsI_o (by omega)]; exact i2
      · rw [gsI_o (by omega)]; exact i3
  · rintro rec s ⟨i1, i2, i3, i4⟩
    have hN : NC s n O c := nc_fr h i4 (fun x hx => by omega)
    rw [if_pos (show M1 < nI 0 by decide)]
    refine ok_cal (e_choose hN hj i3 (fun S hS => i1 S (Nat.zero_le _) hS)) ?_
    rintro u s2 ⟨k1, k2⟩
    refine ok_some ⟨⟨?_, k1⟩, ?_, ?_, fr_trans i4 (fr_mono k2 (fun x hx => by omega))⟩
    · show s2.1 (19 + 3 * j) 0 = _
      rw [k2.1 _ (by omega)]; exact i1 0 (Nat.zero_le _) h2
    · show s2.1 (18 + 3 * j) 4 = _
      rw [k2.1 _ (by omega)]; exact i2
    · show s2.1 (18 + 3 * j) 1 = _
      rw [k2.1 _ (by omega)]; exact i3
end FLY
