/-! settings of the class -/
def ST (σ : St) : Prop := ∀ k, k < 3 → σ.1 (32 + 2 * k) 1 = nI (k + 1) ∧ σ.1 (32 + 2 * k) 2 = nI (8 ^ (k + 1)) ∧ ∀ r, r < 8 ^ (k + 1) → σ.1 (33 + 2 * k) r = nI (plc (dgs (k + 1) r))
theorem sz_eq : ∀ k, k < 3 → szS k = 8 ^ (k + 1) := by decide
theorem p8_le : ∀ k, k < 3 → 8 ^ (k + 1) ≤ 512 := by decide
def fg (k i r : Nat) : Nat := r / 2 ^ (3 * (k - i)) % 8
theorem fg_lt (k i r : Nat) : fg k i r < 8 := Nat.mod_lt _ (by decide)
theorem dgs_fg : ∀ k, k < 3 → ∀ r, dgs (k + 1) r = (List.range (k + 1)).map (fun i => fg k i r) := by
  intro k hk r
  rcases (show k = 0 ∨ k = 1 ∨ k = 2 by omega) with rfl | rfl | rfl
  · rw [dgs1]; simp [fg, List.range_succ]
  · rw [dgs2]; simp [fg, List.range_succ]
  · rw [dgs3]; simp [fg, List.range_succ]
theorem y_and7 (x : Nat) : x &&& 7 = x % 8 := Nat.and_two_pow_sub_one_eq_mod x 3
theorem or_add {x y : Nat} (h : y < 8) : x * 8 ||| y = 8 * x + y := by
  have := Nat.two_pow_add_eq_or_of_lt (i := 3) (b := y) h x
  rw [show (2 : Nat) ^ 3 = 8 from rfl] at this
  rw [this, Nat.mul_comm]
def vrB (n K r : Nat) : Bool := decide (r < 8 ^ K) && (dgs K r).all (fun d => decide (d < n))
theorem vrB_iff {n K r : Nat} : vrB n K r = true ↔ Vr n K r := by
  unfold vrB Vr
  rw [Bool.and_eq_true, decide_eq_true_iff, List.all_eq_true]
  simp
def stB (O : Nat → Nat) (k r r' : Nat) : Nat → Bool
  | 0 => true
  | i + 1 => stB O k r r' i && (O (fg k i r)).testBit (fg k i r')
theorem stB_iff {O : Nat → Nat} {k r r' : Nat} (hk : k < 3) : stB O k r r' (k + 1) = true ↔ Sp O (dgs (k + 1) r) (dgs (k + 1) r') := by
  rw [dgs_fg k hk, dgs_fg k hk]
  rcases (show k = 0 ∨ k = 1 ∨ k = 2 by omega) with rfl | rfl | rfl
  · simp [stB, List.range_succ, Sp]
  · simp [stB, List.range_succ, Sp]
  · simp [stB, List.range_succ, Sp, and_assoc]
/-- the i-th four bits of what is told -/
def gv (v : Int32) (i : Nat) : Nat := (v >>> nI ((4 * i) &&& 31)).toBitVec.toNat % 16
theorem gv_eq (v : Int32) (i : Nat) : (v >>> nI ((4 * i) &&& 31)) &&& nI 15 = nI (gv v i) := pk_and _ 4 (by decide)
theorem gv_lt (v : Int32) (i : Nat) : gv v i < 16 := Nat.mod_lt _ (by decide)
def tlB (n : Nat) (v : Int32) : Nat → Bool
  | 0 => true
  | i + 1 => tlB n v i && decide (gv v i < n)
def tlR (v : Int32) : Nat → Nat
  | 0 => 0
  | i + 1 => 8 * tlR v i + gv v i
theorem tlB_le {n : Nat} {v : Int32} : ∀ {K i : Nat}, tlB n v K = true → i < K → gv v i < n := by
  intro K
  induction K with
  | zero => intro i _ h; omega
  | succ K ih =>
    intro i h hi
    rw [tlB, Bool.and_eq_true, decide_eq_true_iff] at h
    rcases Nat.lt_succ_iff_lt_or_eq.mp hi with q | rfl
    · exact ih h.1 q
    · exact h.2
theorem tlR_lt {n : Nat} {v : Int32} (h8 : n ≤ 8) : ∀ {K : Nat}, tlB n v K = true → tlR v K < 8 ^ K := by
  intro K
  induction K with
  | zero => intro _; show 0 < 1; decide
  | succ K ih =>
    intro h
    have h1 := tlB_le h (Nat.lt_succ_self K)
    rw [tlB, Bool.and_eq_true] at h
    have := ih h.1
    rw [tlR, Nat.pow_succ]
    omega
theorem tlR_vr {n : Nat} {v : Int32} (h8 : n ≤ 8) : ∀ {K : Nat}, tlB n v K = true → Vr n K (tlR v K) := by
  intro K
  induction K with
  | zero => intro _; exact ⟨by show 0 < 1; decide, fun d hd => by cases hd⟩
  | succ K ih =>
    intro h
    refine ⟨tlR_lt h8 h, ?_⟩
    have h1 := tlB_le h (Nat.lt_succ_self K)
    rw [tlB, Bool.and_eq_true] at h
    have h2 := (ih h.1).2
    intro d hd
    rw [tlR, dgs, show (8 * tlR v K + gv v K) / 8 = tlR v K by omega, show (8 * tlR v K + gv v K) % 8 = gv v K by omega, List.mem_append] at hd
    rcases hd with hd | hd
    · exact h2 d hd
    · rw [List.mem_singleton] at hd; omega
section SETT
variable {σ : St} {n c : Nat} {O : Nat → Nat} {k : Nat}
theorem e_figure (h : ST σ) (hk : k < 3) {r i : Nat} (hr : r < 2 ^ 31) (hi : i ≤ k) : f_X6_figure σ k (nI r) (nI i) = some (nI (fg k i r)) := by
  have h1 := (h k hk).1
  unfold f_X6_figure
  simp (disch := omega) only [q_0, q_1, q_2, q_3, q_4, q_5, q_6, q_7, q_8, q_9, q_15, q_16, q_31, q_32, q_48, q_57, q_59, q_63, q_64, q_97, q_100, q_122, q_127, q_160, q_255, q_256, q_512, q_1024, q_2816, q_4096, q_16384, q_1048576, q_m1, q_m2, q_m3, q_m4, q_m5, bd_s, calP_s, cal_s, nI_add, pk_mul, pk_sub, z_and, z_or, z_xor, y_nd, y_shl, y_shr, y_tb, y_ck, nI_ltI, nI_eq, nI_clamp, y_m1a, y_m1b, y_m1c, y_m1d, y_m1e, y_b0, y_b1, y_and255, gsI_o, gsI_s, gsI_2, gsR_o, gsR_s, gsR_2, gsL_1, gsL_o, gsL_s, jn0, jn1, jn2, jn3, jn4, jn5, ↓reduceIte, if_true, if_false, ite_self, ne_eq, not_true_eq_false, not_false_eq_true, and_true, true_and, and_false, false_and, Nat.reduceAdd, Nat.reduceMul, Nat.reduceSub, Nat.reducePow, Nat.reduceLT, Nat.reduceEqDiff, Nat.reduceLeDiff, Nat.not_lt_zero, Nat.add_sub_cancel, Nat.add_zero, Nat.zero_add, pk_div, y_dn, Nat.one_mul, Nat.mul_one, reduceCtorEq, h1, y_and7]
  rfl
theorem e_placesOf (h : ST σ) (hk : k < 3) {r : Nat} (hr : r < 8 ^ (k + 1)) : f_X6_placesOf σ k (nI r) = some (nI (plc (dgs (k + 1) r))) := by
  have h2 := p8_le k hk
  have h1 := sz_eq k hk
  obtain ⟨-, h3, h4⟩ := h k hk
  unfold f_X6_placesOf
  rw [h1]
  simp (disch := omega) only [q_0, q_1, q_2, q_3, q_4, q_5, q_6, q_7, q_8, q_9, q_15, q_16, q_31, q_32, q_48, q_57, q_59, q_63, q_64, q_97, q_100, q_122, q_127, q_160, q_255, q_256, q_512, q_1024, q_2816, q_4096, q_16384, q_1048576, q_m1, q_m2, q_m3, q_m4, q_m5, bd_s, calP_s, cal_s, nI_add, pk_mul, pk_sub, z_and, z_or, z_xor, y_nd, y_shl, y_shr, y_tb, y_ck, nI_ltI, nI_eq, nI_clamp, y_m1a, y_m1b, y_m1c, y_m1d, y_m1e, y_b0, y_b1, y_and255, gsI_o, gsI_s, gsI_2, gsR_o, gsR_s, gsR_2, gsL_1, gsL_o, gsL_s, jn0, jn1, jn2, jn3, jn4, jn5, ↓reduceIte, if_true, if_false, ite_self, ne_eq, not_true_eq_false, not_false_eq_true, and_true, true_and, and_false, false_and, Nat.reduceAdd, Nat.reduceMul, Nat.reduceSub, Nat.reducePow, Nat.reduceLT, Nat.reduceEqDiff, Nat.reduceLeDiff, Nat.not_lt_zero, Nat.add_sub_cancel, Nat.add_zero, Nat.zero_add, pk_div, y_dn, Nat.one_mul, Nat.mul_one, reduceCtorEq, h3, hr, h4]
theorem e_holds (h : ST σ) (hk : k < 3) {r p : Nat} (hr : r < 8 ^ (k + 1)) (hp : p < 32) : f_X6_holds σ k (nI r) (nI p) = some (nI ((plc (dgs (k + 1) r)).testBit p).toNat) := by
  have := plc_lt (dgs (k + 1) r)
  unfold f_X6_holds
  simp (disch := omega) only [q_0, q_1, q_2, q_3, q_4, q_5, q_6, q_7, q_8, q_9, q_15, q_16, q_31, q_32, q_48, q_57, q_59, q_63, q_64, q_97, q_100, q_122, q_127, q_160, q_255, q_256, q_512, q_1024, q_2816, q_4096, q_16384, q_1048576, q_m1, q_m2, q_m3, q_m4, q_m5, bd_s, calP_s, cal_s, nI_add, pk_mul, pk_sub, z_and, z_or, z_xor, y_nd, y_shl, y_shr, y_tb, y_ck, nI_ltI, nI_eq, nI_clamp, y_m1a, y_m1b, y_m1c, y_m1d, y_m1e, y_b0, y_b1, y_and255, gsI_o, gsI_s, gsI_2, gsR_o, gsR_s, gsR_2, gsL_1, gsL_o, gsL_s, jn0, jn1, jn2, jn3, jn4, jn5, ↓reduceIte, if_true, if_false, ite_self, ne_eq, not_true_eq_false, not_false_eq_true, and_true, true_and, and_false, false_and, Nat.reduceAdd, Nat.reduceMul, Nat.reduceSub, Nat.reducePow, Nat.reduceLT, Nat.reduceEqDiff, Nat.reduceLeDiff, Nat.not_lt_zero, Nat.add_sub_cancel, Nat.add_zero, Nat.zero_add, pk_div, y_dn, Nat.one_mul, Nat.mul_one, reduceCtorEq, e_placesOf h hk hr, e_has, y_ckZ]
theorem vr_iff (h8 : n ≤ 8) {r : Nat} : nd (plc (dgs (k + 1) r)) (2 ^ n - 1) = 0 ↔ (dgs (k + 1) r).all (fun d => decide (d < n)) = true := by
  rw [List.all_eq_true]
  constructor
  · intro e d hd
    have h2 := congrArg (fun x => Nat.testBit x d) e
    simp only [nd_tb, Nat.testBit_two_pow_sub_one, Nat.zero_testBit, plc_tb] at h2
    have := dgs_lt8 _ _ _ hd
    simpa [this, hd] using h2
  · intro e
    refine tb_ext (fun i => ?_)
    rw [nd_tb, Nat.testBit_two_pow_sub_one, Nat.zero_testBit, plc_tb]
    by_cases hi : i ∈ dgs (k + 1) r
    · have := e i hi
      simp at this
      simp [this]
    · simp [hi]
theorem e_isRow (h : ST σ) (hN : N0 σ n O) (hk : k < 3) {r : Nat} (hr : r < 8 ^ (k + 1)) : f_X6_isRow σ k (nI r) = some (nI (vrB n (k + 1) r).toNat) := by
  have h2 := p8_le k hk
  have h1 := sz_eq k hk
  have h8 := hN.np.h8
  have hl : nd (plc (dgs (k + 1) r)) (2 ^ n - 1) < 256 := nd_lt (plc_lt _)
  obtain ⟨-, h3, h4⟩ := h k hk
  unfold f_X6_isRow vrB
  rw [h1]
  simp (disch := omega) only [q_0, q_1, q_2, q_3, q_4, q_5, q_6, q_7, q_8, q_9, q_15, q_16, q_31, q_32, q_48, q_57, q_59, q_63, q_64, q_97, q_100, q_122, q_127, q_160, q_255, q_256, q_512, q_1024, q_2816, q_4096, q_16384, q_1048576, q_m1, q_m2, q_m3, q_m4, q_m5, bd_s, calP_s, cal_s, nI_add, pk_mul, pk_sub, z_and, z_or, z_xor, y_nd, y_shl, y_shr, y_tb, y_ck, nI_ltI, nI_eq, nI_clamp, y_m1a, y_m1b, y_m1c, y_m1d, y_m1e, y_b0, y_b1, y_and255, gsI_o, gsI_s, gsI_2, gsR_o, gsR_s, gsR_2, gsL_1, gsL_o, gsL_s, jn0, jn1, jn2, jn3, jn4, jn5, ↓reduceIte, if_true, if_false, ite_self, ne_eq, not_true_eq_false, not_false_eq_true, and_true, true_and, and_false, false_and, Nat.reduceAdd, Nat.reduceMul, Nat.reduceSub, Nat.reducePow, Nat.reduceLT, Nat.reduceEqDiff, Nat.reduceLeDiff, Nat.not_lt_zero, Nat.add_sub_cancel, Nat.add_zero, Nat.zero_add, pk_div, y_dn, Nat.one_mul, Nat.mul_one, reduceCtorEq, h3, hr, h4, e_all hN, decide_true, Bool.true_and]
  by_cases e : nd (plc (dgs (k + 1) r)) (2 ^ n - 1) = 0
  · rw [if_pos e, (vr_iff h8).mp e]; rfl
  · rw [if_neg e]
    cases hb : (dgs (k + 1) r).all (fun d => decide (d < n)) with
    | true => exact (e ((vr_iff h8).mpr hb)).elim
    | false => rfl
theorem rise1 {σ : St} (h : ST σ) {r : Nat} : f_X6_rising σ 0 (nI r) = some (nI (srt 1 r)) := by
  have h1 := (h 0 (by decide)).1
  unfold f_X6_rising
  rw [h1]
  rfl
def stK (K : Nat) : St := (fun _ _ => nI K, fun _ _ => 0)
theorem rise2a : ∀ r, r < 64 → f_X6_rising (stK 2) 1 (nI r) = some (nI (srt 2 r)) := by decide +kernel
theorem rise3a : ∀ r, r < 512 → f_X6_rising (stK 3) 2 (nI r) = some (nI (srt 3 r)) := by decide +kernel
theorem rise_cg {s : St} (v : Int32) (h : σ.1 (32 + 2 * k) 1 = s.1 (32 + 2 * k) 1) : f_X6_rising σ k v = f_X6_rising s k v := by
  unfold f_X6_rising f_X6_figure
  rw [h]
theorem e_rising (h : ST σ) (hk : k < 3) {r : Nat} (hr : r < 8 ^ (k + 1)) : f_X6_rising σ k (nI r) = some (nI (srt (k + 1) r)) := by
  have h1 := (h k hk).1
  rcases (show k = 0 ∨ k = 1 ∨ k = 2 by omega) with rfl | rfl | rfl
  · exact rise1 h
  · rw [rise_cg (s := stK 2) _ h1]; exact rise2a r hr
  · rw [rise_cg (s := stK 3) _ h1]; exact rise3a r hr
theorem e_isSetting (h : ST σ) (hN : N0 σ n O) (hk : k < 3) {r : Nat} (hr : r < 8 ^ (k + 1)) : f_X6_isSetting σ k (nI r) = some (nI (vrB n (k + 1) r && decide (srt (k + 1) r = r)).toNat) := by
  have h2 := p8_le k hk
  have h3 := srt_lt (K := k + 1) (by omega) (by omega) hr
  unfold f_X6_isSetting
  simp (disch := omega) only [q_0, q_1, q_2, q_3, q_4, q_5, q_6, q_7, q_8, q_9, q_15, q_16, q_31, q_32, q_48, q_57, q_59, q_63, q_64, q_97, q_100, q_122, q_127, q_160, q_255, q_256, q_512, q_1024, q_2816, q_4096, q_16384, q_1048576, q_m1, q_m2, q_m3, q_m4, q_m5, bd_s, calP_s, cal_s, nI_add, pk_mul, pk_sub, z_and, z_or, z_xor, y_nd, y_shl, y_shr, y_tb, y_ck, nI_ltI, nI_eq, nI_clamp, y_m1a, y_m1b, y_m1c, y_m1d, y_m1e, y_b0, y_b1, y_and255, gsI_o, gsI_s, gsI_2, gsR_o, gsR_s, gsR_2, gsL_1, gsL_o, gsL_s, jn0, jn1, jn2, jn3, jn4, jn5, ↓reduceIte, if_true, if_false, ite_self, ne_eq, not_true_eq_false, not_false_eq_true, and_true, true_and, and_false, false_and, Nat.reduceAdd, Nat.reduceMul, Nat.reduceSub, Nat.reducePow, Nat.reduceLT, Nat.reduceEqDiff, Nat.reduceLeDiff, Nat.not_lt_zero, Nat.add_sub_cancel, Nat.add_zero, Nat.zero_add, pk_div, y_dn, Nat.one_mul, Nat.mul_one, reduceCtorEq, e_isRow h hN hk hr, e_rising h hk hr]
  cases vrB n (k + 1) r with
  | false => rfl
  | true => by_cases e : srt (k + 1) r = r <;> simp [e]
theorem e_canStep (h : ST σ) (hN : N0 σ n O) (hk : k < 3) {r r' : Nat} (hr : r < 8 ^ (k + 1)) (hr' : r' < 8 ^ (k + 1)) : f_X6_canStep σ k (nI r) (nI r') = some (nI (stB O k r r' (k + 1)).toNat) := by
  have h1 := (h k hk).1
  have h2 := p8_le k hk
  unfold f_X6_canStep
  rw [q_0]
  refine ok_eq (lo1_for (fun i => stB O k r r' i = true) (k + 1) ?_ ?_ FU 0 (by omega) (fu_lt (by omega)) rfl)
  · intro rec i hi hI kk
    have a1 := fg_lt k i r
    have a2 := fg_lt k i r'
    have a3 := hN.np.lt8 (fg k i r)
    simp (disch := omega) only [q_0, q_1, q_2, q_3, q_4, q_5, q_6, q_7, q_8, q_9, q_15, q_16, q_31, q_32, q_48, q_57, q_59, q_63, q_64, q_97, q_100, q_122, q_127, q_160, q_255, q_256, q_512, q_1024, q_2816, q_4096, q_16384, q_1048576, q_m1, q_m2, q_m3, q_m4, q_m5, bd_s, calP_s, cal_s, nI_add, pk_mul, pk_sub, z_and, z_or, z_xor, y_nd, y_shl, y_shr, y_tb, y_ck, nI_ltI, nI_eq, nI_clamp, y_m1a, y_m1b, y_m1c, y_m1d, y_m1e, y_b0, y_b1, y_and255, gsI_o, gsI_s, gsI_2, gsR_o, gsR_s, gsR_2, gsL_1, gsL_o, gsL_s, jn0, jn1, jn2, jn3, jn4, jn5, ↓reduceIte, if_true, if_false, ite_self, ne_eq, not_true_eq_false, not_false_eq_true, and_true, true_and, and_false, false_and, Nat.reduceAdd, Nat.reduceMul, Nat.reduceSub, Nat.reducePow, Nat.reduceLT, Nat.reduceEqDiff, Nat.reduceLeDiff, Nat.not_lt_zero, Nat.add_sub_cancel, Nat.add_zero, Nat.zero_add, pk_div, y_dn, Nat.one_mul, Nat.mul_one, reduceCtorEq, h1, hi, e_figure h hk, e_outOf hN, e_has]
    cases hb : (O (fg k i r)).testBit (fg k i r') with
    | true =>
      simp only [↓reduceIte, Bool.true_eq_false]
      exact kk (by rw [stB, hI, hb]; rfl)
    | false =>
      simp only [↓reduceIte]
      refine ok_some ?_
      have : ∀ m, i < m → stB O k r r' m = false := by
        intro m
        induction m with
        | zero => intro q; omega
        | succ m ih =>
          intro q
          rcases Nat.lt_succ_iff_lt_or_eq.mp q with q | rfl
          · rw [stB, ih q]; rfl
          · rw [stB, hb]; exact Bool.and_false _
      rw [this (k + 1) hi]; rfl
  · intro rec hI
    simp (disch := omega) only [q_0, q_1, q_2, q_3, q_4, q_5, q_6, q_7, q_8, q_9, q_15, q_16, q_31, q_32, q_48, q_57, q_59, q_63, q_64, q_97, q_100, q_122, q_127, q_160, q_255, q_256, q_512, q_1024, q_2816, q_4096, q_16384, q_1048576, q_m1, q_m2, q_m3, q_m4, q_m5, bd_s, calP_s, cal_s, nI_add, pk_mul, pk_sub, z_and, z_or, z_xor, y_nd, y_shl, y_shr, y_tb, y_ck, nI_ltI, nI_eq, nI_clamp, y_m1a, y_m1b, y_m1c, y_m1d, y_m1e, y_b0, y_b1, y_and255, gsI_o, gsI_s, gsI_2, gsR_o, gsR_s, gsR_2, gsL_1, gsL_o, gsL_s, jn0, jn1, jn2, jn3, jn4, jn5, ↓reduceIte, if_true, if_false, ite_self, ne_eq, not_true_eq_false, not_false_eq_true, and_true, true_and, and_false, false_and, Nat.reduceAdd, Nat.reduceMul, Nat.reduceSub, Nat.reducePow, Nat.reduceLT, Nat.reduceEqDiff, Nat.reduceLeDiff, Nat.not_lt_zero, Nat.add_sub_cancel, Nat.add_zero, Nat.zero_add, pk_div, y_dn, Nat.one_mul, Nat.mul_one, reduceCtorEq, h1, Nat.lt_irrefl]
    exact ok_some (by rw [hI]; rfl)
theorem e_told (h : ST σ) (hN : N0 σ n O) (hk : k < 3) (v : Int32) : f_X6_told σ k v = some (if tlB n v (k + 1) = true then nI (tlR v (k + 1)) else M1) := by
  have h1 := (h k hk).1
  have h8 := hN.np.h8
  unfold f_X6_told
  rw [q_0]
  refine ok_eq (lo2_for (fun i x => tlB n v i = true ∧ x = nI (tlR v i)) (k + 1) ?_ ?_ FU 0 _ (by omega) (fu_lt (by omega)) ⟨rfl, rfl⟩)
  · rintro rec i x hi ⟨hI, rfl⟩ kk
    have a1 := gv_lt v i
    have a2 := tlR_lt h8 hI
    have a3 : 8 ^ i ≤ 512 := show 8 ^ i ≤ 8 ^ 3 from Nat.pow_le_pow_right (by decide) (by omega)
    simp (disch := omega) only [q_0, q_1, q_2, q_3, q_4, q_5, q_6, q_7, q_8, q_9, q_15, q_16, q_31, q_32, q_48, q_57, q_59, q_63, q_64, q_97, q_100, q_122, q_127, q_160, q_255, q_256, q_512, q_1024, q_2816, q_4096, q_16384, q_1048576, q_m1, q_m2, q_m3, q_m4, q_m5, bd_s, calP_s, cal_s, nI_add, pk_mul, pk_sub, z_and, z_or, z_xor, y_nd, y_shl, y_shr, y_tb, y_ck, nI_ltI, nI_eq, nI_clamp, y_m1a, y_m1b, y_m1c, y_m1d, y_m1e, y_b0, y_b1, y_and255, gsI_o, gsI_s, gsI_2, gsR_o, gsR_s, gsR_2, gsL_1, gsL_o, gsL_s, jn0, jn1, jn2, jn3, jn4, jn5, ↓reduceIte, if_true, if_false, ite_self, ne_eq, not_true_eq_false, not_false_eq_true, and_true, true_and, and_false, false_and, Nat.reduceAdd, Nat.reduceMul, Nat.reduceSub, Nat.reducePow, Nat.reduceLT, Nat.reduceEqDiff, Nat.reduceLeDiff, Nat.not_lt_zero, Nat.add_sub_cancel, Nat.add_zero, Nat.zero_add, pk_div, y_dn, Nat.one_mul, Nat.mul_one, reduceCtorEq, h1, hi, gv_eq, e_known hN]
    by_cases q : gv v i < n
    · simp only [q, decide_true, Bool.true_eq_false, ↓reduceIte]
      refine kk _ ⟨by rw [tlB, hI]; simp [q], ?_⟩
      rw [or_add (by omega), tlR]
    · simp only [q, decide_false, ↓reduceIte]
      refine ok_some ?_
      rw [if_neg]
      intro e
      exact q (tlB_le e hi)
  · rintro rec x ⟨hI, rfl⟩
    simp (disch := omega) only [q_0, q_1, q_2, q_3, q_4, q_5, q_6, q_7, q_8, q_9, q_15, q_16, q_31, q_32, q_48, q_57, q_59, q_63, q_64, q_97, q_100, q_122, q_127, q_160, q_255, q_256, q_512, q_1024, q_2816, q_4096, q_16384, q_1048576, q_m1, q_m2, q_m3, q_m4, q_m5, bd_s, calP_s, cal_s, nI_add, pk_mul, pk_sub, z_and, z_or, z_xor, y_nd, y_shl, y_shr, y_tb, y_ck, nI_ltI, nI_eq, nI_clamp, y_m1a, y_m1b, y_m1c, y_m1d, y_m1e, y_b0, y_b1, y_and255, gsI_o, gsI_s, gsI_2, gsR_o, gsR_s, gsR_2, gsL_1, gsL_o, gsL_s, jn0, jn1, jn2, jn3, jn4, jn5, ↓reduceIte, if_true, if_false, ite_self, ne_eq, not_true_eq_false, not_false_eq_true, and_true, true_and, and_false, false_and, Nat.reduceAdd, Nat.reduceMul, Nat.reduceSub, Nat.reducePow, Nat.reduceLT, Nat.reduceEqDiff, Nat.reduceLeDiff, Nat.not_lt_zero, Nat.add_sub_cancel, Nat.add_zero, Nat.zero_add, pk_div, y_dn, Nat.one_mul, Nat.mul_one, reduceCtorEq, h1, Nat.lt_irrefl]
    exact ok_some (by rw [if_pos hI])
end SETT
