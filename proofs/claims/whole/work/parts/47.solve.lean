/-! the class's chase: begin, note, solve -/
section NOTE
variable {σ : St} {n c i sp : Nat} {O : Nat → Nat}
theorem or_nd (a b : Nat) : a ||| nd b a = a ||| b := tb_ext (fun i => by
  rw [Nat.testBit_or, nd_tb, Nat.testBit_or]
  cases a.testBit i <;> cases b.testBit i <;> rfl)
theorem e_note (h : CX σ n O c i sp) (v : Int32) {S W : Nat → Nat} (hS : ∀ r, Vr n (i / 3 + 1) r → σ.1 (42 + 5 * i) r = nI (S r)) (hW : ∀ r, Vr n (i / 3 + 1) r → σ.1 (43 + 5 * i) r = nI (W r) ∧ W r < 256) : Ok (f_X0_note σ i v) (fun q => (∃ b : Bool, q.1 = nI b.toNat ∧ (b = true → ∃ r, Vr n (i / 3 + 1) r ∧ nd (W r) (S r) ≠ 0) ∧ (b = false → ∀ r, Vr n (i / 3 + 1) r → nd (W r) (S r) = 0)) ∧ (∀ r, Vr n (i / 3 + 1) r → q.2.1 (42 + 5 * i) r = nI (S r ||| W r)) ∧ (∀ r p, Vr n (i / 3 + 1) r → p < 8 → q.2.1 (41 + 5 * i) (r * 8 + p) = if (nd (W r) (S r)).testBit p = true then v else σ.1 (41 + 5 * i) (r * 8 + p)) ∧ Fr (fun c => c = 41 + 5 * i ∨ c = 42 + 5 * i) σ q.2) := by
  have hi := h.hi
  have hk : i / 3 < 3 := by omega
  have hz := sz_eq (i / 3) hk
  have h512 := p8_le (i / 3) hk
  unfold f_X0_note
  rw [hz, q_0]
  refine lo3_for (fun j s x => (∃ b : Bool, x = nI b.toNat ∧ (b = true → ∃ r, Vr n (i / 3 + 1) r ∧ nd (W r) (S r) ≠ 0) ∧ (b = false → ∀ r, r < j → Vr n (i / 3 + 1) r → nd (W r) (S r) = 0)) ∧ (∀ r, Vr n (i / 3 + 1) r → s.1 (42 + 5 * i) r = nI (if r < j then S r ||| W r else S r)) ∧ (∀ r p, Vr n (i / 3 + 1) r → p < 8 → s.1 (41 + 5 * i) (r * 8 + p) = if r < j ∧ (nd (W r) (S r)).testBit p = true then v else σ.1 (41 + 5 * i) (r * 8 + p)) ∧ Fr (fun c => c = 41 + 5 * i ∨ c = 42 + 5 * i) σ s) (8 ^ (i / 3 + 1)) ?_ ?_ FU 0 _ _ (by omega) (fu_lt (by omega)) ⟨⟨false, rfl, (fun e => Bool.noConfusion e), fun _ r hr => by omega⟩, fun r hr => ?_, fun r p hr hp => ?_, fr_refl⟩
  · rintro rec r s x hr ⟨⟨b, rfl, b1, b2⟩, e1, e2, e3⟩ kk
    have hx : CX s n O c i sp := cx_fr h (fr_mono e3 (fun c hc => by unfold inC; omega))
    have skip : (Vr n (i / 3 + 1) r → nd (W r) (S r) = 0) → Ok (rec s (nI b.toNat) (nI (r + 1))) _ := fun hz => kk s (nI b.toNat) ⟨⟨b, rfl, b1, fun e r' hr' hv => by
        rcases Nat.lt_succ_iff_lt_or_eq.mp hr' with q | rfl
        · exact b2 e r' q hv
        · exact hz hv⟩, fun r' hv => by
        rw [e1 r' hv]
        by_cases q : r' < r
        · rw [if_pos q, if_pos (by omega)]
        · rw [if_neg q]
          by_cases q' : r' = r
          · subst q'; rw [if_pos (by omega), ← or_nd, hz hv, Nat.or_zero]
          · rw [if_neg (by omega)], fun r' p hv hp => by
        rw [e2 r' p hv hp]
        by_cases q' : r' = r
        · subst q'; rw [hz hv]; simp
        · have : r' < r ↔ r' < r + 1 := by omega
          simp only [this], e3⟩
    cases hv : vrB n (i / 3 + 1) r with
    | false =>
      simp (disch := omega) only [q_0, q_1, q_2, q_3, q_4, q_5, q_6, q_7, q_8, q_9, q_15, q_16, q_31, q_32, q_48, q_57, q_59, q_63, q_64, q_97, q_100, q_122, q_127, q_160, q_255, q_256, q_512, q_1024, q_2816, q_4096, q_16384, q_1048576, q_m1, q_m2, q_m3, q_m4, q_m5, bd_s, calP_s, cal_s, nI_add, pk_mul, pk_sub, z_and, z_or, z_xor, y_nd, y_shl, y_shr, y_tb, y_ck, nI_ltI, nI_eq, nI_clamp, y_m1a, y_m1b, y_m1c, y_m1d, y_m1e, y_b0, y_b1, y_and255, gsI_o, gsI_s, gsI_2, gsR_o, gsR_s, gsR_2, gsL_1, gsL_o, gsL_s, jn0, jn1, jn2, jn3, jn4, jn5, ↓reduceIte, if_true, if_false, ite_self, ne_eq, not_true_eq_false, not_false_eq_true, and_true, true_and, and_false, false_and, Nat.reduceAdd, Nat.reduceMul, Nat.reduceSub, Nat.reducePow, Nat.reduceLT, Nat.reduceEqDiff, Nat.reduceLeDiff, Nat.not_lt_zero, Nat.add_sub_cancel, Nat.add_zero, Nat.zero_add, pk_div, y_dn, Nat.one_mul, Nat.mul_one, reduceCtorEq, hr, e_isRow hx.st hx.nc.z hk hr, hv]
      exact skip (fun q => by rw [vrB_iff.mpr q] at hv; cases hv)
    | true =>
      have hV := vrB_iff.mp hv
      have hl : nd (W r) (S r) < 256 := nd_lt (hW r hV).2
      have hsu : s.1 (42 + 5 * i) r = nI (S r) := by rw [e1 r hV, if_neg (Nat.lt_irrefl _)]
      have htr : s.1 (43 + 5 * i) r = nI (W r) := by rw [e3.1 _ (by omega)]; exact (hW r hV).1
      by_cases hf : nd (W r) (S r) = 0
      · simp (disch := omega) only [q_0, q_1, q_2, q_3, q_4, q_5, q_6, q_7, q_8, q_9, q_15, q_16, q_31, q_32, q_48, q_57, q_59, q_63, q_64, q_97, q_100, q_122, q_127, q_160, q_255, q_256, q_512, q_1024, q_2816, q_4096, q_16384, q_1048576, q_m1, q_m2, q_m3, q_m4, q_m5, bd_s, calP_s, cal_s, nI_add, pk_mul, pk_sub, z_and, z_or, z_xor, y_nd, y_shl, y_shr, y_tb, y_ck, nI_ltI, nI_eq, nI_clamp, y_m1a, y_m1b, y_m1c, y_m1d, y_m1e, y_b0, y_b1, y_and255, gsI_o, gsI_s, gsI_2, gsR_o, gsR_s, gsR_2, gsL_1, gsL_o, gsL_s, jn0, jn1, jn2, jn3, jn4, jn5, ↓reduceIte, if_true, if_false, ite_self, ne_eq, not_true_eq_false, not_false_eq_true, and_true, true_and, and_false, false_and, Nat.reduceAdd, Nat.reduceMul, Nat.reduceSub, Nat.reducePow, Nat.reduceLT, Nat.reduceEqDiff, Nat.reduceLeDiff, Nat.not_lt_zero, Nat.add_sub_cancel, Nat.add_zero, Nat.zero_add, pk_div, y_dn, Nat.one_mul, Nat.mul_one, reduceCtorEq, hr, e_isRow hx.st hx.nc.z hk hr, hv, hsu, htr, hf]
        exact skip (fun _ => hf)
      · simp (disch := omega) only [q_0, q_1, q_2, q_3, q_4, q_5, q_6, q_7, q_8, q_9, q_15, q_16, q_31, q_32, q_48, q_57, q_59, q_63, q_64, q_97, q_100, q_122, q_127, q_160, q_255, q_256, q_512, q_1024, q_2816, q_4096, q_16384, q_1048576, q_m1, q_m2, q_m3, q_m4, q_m5, bd_s, calP_s, cal_s, nI_add, pk_mul, pk_sub, z_and, z_or, z_xor, y_nd, y_shl, y_shr, y_tb, y_ck, nI_ltI, nI_eq, nI_clamp, y_m1a, y_m1b, y_m1c, y_m1d, y_m1e, y_b0, y_b1, y_and255, gsI_o, gsI_s, gsI_2, gsR_o, gsR_s, gsR_2, gsL_1, gsL_o, gsL_s, jn0, jn1, jn2, jn3, jn4, jn5, ↓reduceIte, if_true, if_false, ite_self, ne_eq, not_true_eq_false, not_false_eq_true, and_true, true_and, and_false, false_and, Nat.reduceAdd, Nat.reduceMul, Nat.reduceSub, Nat.reducePow, Nat.reduceLT, Nat.reduceEqDiff, Nat.reduceLeDiff, Nat.not_lt_zero, Nat.add_sub_cancel, Nat.add_zero, Nat.zero_add, pk_div, y_dn, Nat.one_mul, Nat.mul_one, reduceCtorEq, hr, e_isRow hx.st hx.nc.z hk hr, hv, hsu, htr, hf]
        refine lo2_for (fun j s' => (∀ r', Vr n (i / 3 + 1) r' → s'.1 (42 + 5 * i) r' = nI (if r' < r + 1 then S r' ||| W r' else S r')) ∧ (∀ r' p, Vr n (i / 3 + 1) r' → p < 8 → s'.1 (41 + 5 * i) (r' * 8 + p) = if (r' < r ∨ r' = r ∧ p < j) ∧ (nd (W r') (S r')).testBit p = true then v else σ.1 (41 + 5 * i) (r' * 8 + p)) ∧ Fr (fun c => c = 41 + 5 * i ∨ c = 42 + 5 * i) σ s') 8 ?_ ?_ FU 0 _ (by omega) (fu_lt (by omega)) ⟨fun r' hv' => ?_, fun r' p hv' hp => ?_, fr_setI e3 (Or.inr rfl)⟩
        · rintro rec2 p s' hp ⟨g1, g2, g3⟩ k2
          simp (disch := omega) only [q_0, q_1, q_2, q_3, q_4, q_5, q_6, q_7, q_8, q_9, q_15, q_16, q_31, q_32, q_48, q_57, q_59, q_63, q_64, q_97, q_100, q_122, q_127, q_160, q_255, q_256, q_512, q_1024, q_2816, q_4096, q_16384, q_1048576, q_m1, q_m2, q_m3, q_m4, q_m5, bd_s, calP_s, cal_s, nI_add, pk_mul, pk_sub, z_and, z_or, z_xor, y_nd, y_shl, y_shr, y_tb, y_ck, nI_ltI, nI_eq, nI_clamp, y_m1a, y_m1b, y_m1c, y_m1d, y_m1e, y_b0, y_b1, y_and255, gsI_o, gsI_s, gsI_2, gsR_o, gsR_s, gsR_2, gsL_1, gsL_o, gsL_s, jn0, jn1, jn2, jn3, jn4, jn5, ↓reduceIte, if_true, if_false, ite_self, ne_eq, not_true_eq_false, not_false_eq_true, and_true, true_and, and_false, false_and, Nat.reduceAdd, Nat.reduceMul, Nat.reduceSub, Nat.reducePow, Nat.reduceLT, Nat.reduceEqDiff, Nat.reduceLeDiff, Nat.not_lt_zero, Nat.add_sub_cancel, Nat.add_zero, Nat.zero_add, pk_div, y_dn, Nat.one_mul, Nat.mul_one, reduceCtorEq, hp, e_has]
          cases hb : (nd (W r) (S r)).testBit p with
          | false =>
            simp only [↓reduceIte]
            refine k2 _ ⟨g1, fun r' p' hv' hp' => ?_, g3⟩
            rw [g2 r' p' hv' hp']
            by_cases q : r' = r ∧ p' = p
            · obtain ⟨rfl, rfl⟩ := q
              rw [hb]; simp
            · have : (r' < r ∨ r' = r ∧ p' < p) ↔ (r' < r ∨ r' = r ∧ p' < p + 1) := by omega
              simp only [this]
          | true =>
            have hin : r * 8 + p < 8 * 8 ^ (i / 3 + 1) := by omega
            simp only [↓reduceIte, Bool.true_eq_false]
            refine k2 _ ⟨fun r' hv' => ?_, fun r' p' hv' hp' => ?_, fr_setI g3 (Or.inl rfl)⟩
            · rw [gsI_o (by omega)]; exact g1 r' hv'
            · rw [gsI_s]
              by_cases q : r' * 8 + p' = r * 8 + p
              · obtain rfl : r' = r := by omega
                obtain rfl : p' = p := by omega
                rw [if_pos rfl, if_pos ⟨by omega, hb⟩]
              · rw [if_neg q, g2 r' p' hv' hp']
                have : (r' < r ∨ r' = r ∧ p' < p) ↔ (r' < r ∨ r' = r ∧ p' < p + 1) := by omega
                simp only [this]
        · rintro rec2 s' ⟨g1, g2, g3⟩
          simp (disch := omega) only [q_0, q_1, q_2, q_3, q_4, q_5, q_6, q_7, q_8, q_9, q_15, q_16, q_31, q_32, q_48, q_57, q_59, q_63, q_64, q_97, q_100, q_122, q_127, q_160, q_255, q_256, q_512, q_1024, q_2816, q_4096, q_16384, q_1048576, q_m1, q_m2, q_m3, q_m4, q_m5, bd_s, calP_s, cal_s, nI_add, pk_mul, pk_sub, z_and, z_or, z_xor, y_nd, y_shl, y_shr, y_tb, y_ck, nI_ltI, nI_eq, nI_clamp, y_m1a, y_m1b, y_m1c, y_m1d, y_m1e, y_b0, y_b1, y_and255, gsI_o, gsI_s, gsI_2, gsR_o, gsR_s, gsR_2, gsL_1, gsL_o, gsL_s, jn0, jn1, jn2, jn3, jn4, jn5, ↓reduceIte, if_true, if_false, ite_self, ne_eq, not_true_eq_false, not_false_eq_true, and_true, true_and, and_false, false_and, Nat.reduceAdd, Nat.reduceMul, Nat.reduceSub, Nat.reducePow, Nat.reduceLT, Nat.reduceEqDiff, Nat.reduceLeDiff, Nat.not_lt_zero, Nat.add_sub_cancel, Nat.add_zero, Nat.zero_add, pk_div, y_dn, Nat.one_mul, Nat.mul_one, reduceCtorEq, Nat.lt_irrefl]
          refine kk _ _ ⟨⟨true, rfl, fun _ => ⟨r, hV, hf⟩, (fun e => Bool.noConfusion e)⟩, g1, fun r' p' hv' hp' => ?_, g3⟩
          rw [g2 r' p' hv' hp']
          have : (r' < r ∨ r' = r ∧ p' < 8) ↔ r' < r + 1 := by omega
          simp only [this]
        · rw [gsI_s]
          by_cases q : r' = r
          · subst q; rw [if_pos rfl, if_pos (by omega), or_nd]
          · rw [if_neg q, e1 r' hv']
            have : r' < r ↔ r' < r + 1 := by omega
            simp only [this]
        · rw [gsI_o (by omega), e2 r' p hv' hp]
          have : r' < r ↔ (r' < r ∨ r' = r ∧ p < 0) := by omega
          simp only [← this]
  · rintro rec s x ⟨⟨b, rfl, b1, b2⟩, e1, e2, e3⟩
    simp (disch := omega) only [q_0, q_1, q_2, q_3, q_4, q_5, q_6, q_7, q_8, q_9, q_15, q_16, q_31, q_32, q_48, q_57, q_59, q_63, q_64, q_97, q_100, q_122, q_127, q_160, q_255, q_256, q_512, q_1024, q_2816, q_4096, q_16384, q_1048576, q_m1, q_m2, q_m3, q_m4, q_m5, bd_s, calP_s, cal_s, nI_add, pk_mul, pk_sub, z_and, z_or, z_xor, y_nd, y_shl, y_shr, y_tb, y_ck, nI_ltI, nI_eq, nI_clamp, y_m1a, y_m1b, y_m1c, y_m1d, y_m1e, y_b0, y_b1, y_and255, gsI_o, gsI_s, gsI_2, gsR_o, gsR_s, gsR_2, gsL_1, gsL_o, gsL_s, jn0, jn1, jn2, jn3, jn4, jn5, ↓reduceIte, if_true, if_false, ite_self, ne_eq, not_true_eq_false, not_false_eq_true, and_true, true_and, and_false, false_and, Nat.reduceAdd, Nat.reduceMul, Nat.reduceSub, Nat.reducePow, Nat.reduceLT, Nat.reduceEqDiff, Nat.reduceLeDiff, Nat.not_lt_zero, Nat.add_sub_cancel, Nat.add_zero, Nat.zero_add, pk_div, y_dn, Nat.one_mul, Nat.mul_one, reduceCtorEq, Nat.lt_irrefl, y_ckZ]
    refine ok_some ⟨⟨b, rfl, b1, fun e r hr => b2 e r hr.1 hr⟩, fun r hr => ?_, fun r p hr hp => ?_, e3⟩
    · rw [e1 r hr, if_pos hr.1]
    · rw [e2 r p hr hp]
      have := hr.1
      simp only [this, true_and]
  · rw [hS r hr, if_neg (by omega)]
  · rw [if_neg (fun q => by omega)]
def mb (k r p : Nat) : Nat → Bool
  | 0 => false
  | m + 1 => mb k r p m || decide (fg k m r = p)
theorem mb_iff (k r p : Nat) : ∀ m, mb k r p m = true ↔ ∃ x, x < m ∧ fg k x r = p := by
  intro m
  induction m with
  | zero => simp [mb]
  | succ m ih =>
    rw [mb, Bool.or_eq_true, ih, decide_eq_true_iff]
    constructor
    · rintro (⟨x, h1, h2⟩ | h)
      · exact ⟨x, by omega, h2⟩
      · exact ⟨m, by omega, h⟩
    · rintro ⟨x, h1, h2⟩
      rcases Nat.lt_succ_iff_lt_or_eq.mp h1 with q | rfl
      · exact Or.inl ⟨x, q, h2⟩
      · exact Or.inr h2
theorem mb_mem {k r p : Nat} (hk : k < 3) : mb k r p (k + 1) = true ↔ p ∈ dgs (k + 1) r := by
  rw [mb_iff, dgs_fg k hk, List.mem_map]
  constructor
  · rintro ⟨x, h1, h2⟩; exact ⟨x, List.mem_range.mpr h1, h2⟩
  · rintro ⟨x, h1, h2⟩; exact ⟨x, List.mem_range.mp h1, h2⟩
theorem e_begin (h : CX σ n O c i sp) : Ok (f_X0_begin σ i) (fun q => (∀ r, r < 8 ^ (i / 3 + 1) → q.2.1 (42 + 5 * i) r = nI (plc (dgs (i / 3 + 1) r))) ∧ (∀ r p, r < 8 ^ (i / 3 + 1) → p < 8 → q.2.1 (41 + 5 * i) (r * 8 + p) = if mb (i / 3) r p (i / 3 + 1) = true then nI 0 else nI 1048576) ∧ Fr (fun c => c = 41 + 5 * i ∨ c = 42 + 5 * i) σ q.2) := by
  have hi := h.hi
  have hk : i / 3 < 3 := by omega
  have hz := sz_eq (i / 3) hk
  have h512 := p8_le (i / 3) hk
  obtain ⟨-, l1⟩ := ln_ch i hi
  obtain ⟨E, hE⟩ : ∃ E, E = nI 1048576 := ⟨_, rfl⟩
  unfold f_X0_begin
  rw [q_1048576, ← hE]
  refine ok_cal (e_fill (a := 41 + 5 * i) E (by rw [l1]; omega)) (fun _ s0 ⟨f1, f2⟩ => ?_)
  dsimp only at f1 f2
  rw [l1] at f1
  rw [hz, q_0]
  refine lo2_for (fun j s => (∀ r, r < j → s.1 (42 + 5 * i) r = nI (plc (dgs (i / 3 + 1) r))) ∧ (∀ r p, r < 8 ^ (i / 3 + 1) → p < 8 → s.1 (41 + 5 * i) (r * 8 + p) = if r < j ∧ mb (i / 3) r p (i / 3 + 1) = true then nI 0 else E) ∧ Fr (fun c => c = 41 + 5 * i ∨ c = 42 + 5 * i) σ s) (8 ^ (i / 3 + 1)) ?_ ?_ FU 0 _ (by omega) (fu_lt (by omega)) ⟨fun r hr => by omega, fun r p hr hp => ?_, fr_mono f2 (fun c hc => Or.inl hc)⟩
  · rintro rec r s hr ⟨e1, e2, e3⟩ kk
    have hx : CX s n O c i sp := cx_fr h (fr_mono e3 (fun c hc => by unfold inC; omega))
    rw [if_pos (nI_lt hr (by omega)), e_placesOf hx.st hk hr, calP_s, y_ck _ hr (by omega), bd_s, nI_clamp (by omega)]
    refine lo2_for (fun j s => (∀ r', r' < r + 1 → s.1 (42 + 5 * i) r' = nI (plc (dgs (i / 3 + 1) r'))) ∧ (∀ r' p, r' < 8 ^ (i / 3 + 1) → p < 8 → s.1 (41 + 5 * i) (r' * 8 + p) = if (r' < r ∧ mb (i / 3) r' p (i / 3 + 1) = true) ∨ (r' = r ∧ mb (i / 3) r' p j = true) then nI 0 else E) ∧ Fr (fun c => c = 41 + 5 * i ∨ c = 42 + 5 * i) σ s) (i / 3 + 1) ?_ ?_ FU 0 _ (by omega) (fu_lt (by omega)) ⟨fun r' hr' => ?_, fun r' p hr' hp => ?_, fr_setI e3 (Or.inr rfl)⟩
    · rintro rec2 j s' hj ⟨g1, g2, g3⟩ k2
      have hx2 : CX s' n O c i sp := cx_fr h (fr_mono g3 (fun c hc => by unfold inC; omega))
      have hh := (hx2.st (i / 3) hk).1
      have a1 := fg_lt (i / 3) j r
      unfold f_X6_hunters
      simp (disch := omega) only [q_0, q_1, q_2, q_3, q_4, q_5, q_6, q_7, q_8, q_9, q_15, q_16, q_31, q_32, q_48, q_57, q_59, q_63, q_64, q_97, q_100, q_122, q_127, q_160, q_255, q_256, q_512, q_1024, q_2816, q_4096, q_16384, q_1048576, q_m1, q_m2, q_m3, q_m4, q_m5, bd_s, calP_s, cal_s, nI_add, pk_mul, pk_sub, z_and, z_or, z_xor, y_nd, y_shl, y_shr, y_tb, y_ck, nI_ltI, nI_eq, nI_clamp, y_m1a, y_m1b, y_m1c, y_m1d, y_m1e, y_b0, y_b1, y_and255, gsI_o, gsI_s, gsI_2, gsR_o, gsR_s, gsR_2, gsL_1, gsL_o, gsL_s, jn0, jn1, jn2, jn3, jn4, jn5, ↓reduceIte, if_true, if_false, ite_self, ne_eq, not_true_eq_false, not_false_eq_true, and_true, true_and, and_false, false_and, Nat.reduceAdd, Nat.reduceMul, Nat.reduceSub, Nat.reducePow, Nat.reduceLT, Nat.reduceEqDiff, Nat.reduceLeDiff, Nat.not_lt_zero, Nat.add_sub_cancel, Nat.add_zero, Nat.zero_add, pk_div, y_dn, Nat.one_mul, Nat.mul_one, reduceCtorEq, hh, hj, e_figure hx2.st hk]
      refine k2 _ ⟨fun r' hr' => ?_, fun r' p hr' hp => ?_, fr_setI g3 (Or.inl rfl)⟩
      · rw [gsI_o (by omega)]; exact g1 r' hr'
      · rw [gsI_s]
        by_cases q : r' * 8 + p = r * 8 + fg (i / 3) j r
        · obtain rfl : r' = r := by omega
          obtain rfl : p = fg (i / 3) j r' := by omega
          rw [if_pos rfl, if_pos (Or.inr ⟨rfl, by rw [mb]; simp⟩)]
        · rw [if_neg q, g2 r' p hr' hp]
          by_cases q1 : r' = r
          · subst q1
            have q2 : ¬ fg (i / 3) j r' = p := by omega
            simp only [mb, q2, decide_false, Bool.or_false]
          · simp only [q1, false_and, or_false]
    · rintro rec2 s' ⟨g1, g2, g3⟩
      have hx2 : CX s' n O c i sp := cx_fr h (fr_mono g3 (fun c hc => by unfold inC; omega))
      have hh := (hx2.st (i / 3) hk).1
      unfold f_X6_hunters
      simp (disch := omega) only [q_0, q_1, q_2, q_3, q_4, q_5, q_6, q_7, q_8, q_9, q_15, q_16, q_31, q_32, q_48, q_57, q_59, q_63, q_64, q_97, q_100, q_122, q_127, q_160, q_255, q_256, q_512, q_1024, q_2816, q_4096, q_16384, q_1048576, q_m1, q_m2, q_m3, q_m4, q_m5, bd_s, calP_s, cal_s, nI_add, pk_mul, pk_sub, z_and, z_or, z_xor, y_nd, y_shl, y_shr, y_tb, y_ck, nI_ltI, nI_eq, nI_clamp, y_m1a, y_m1b, y_m1c, y_m1d, y_m1e, y_b0, y_b1, y_and255, gsI_o, gsI_s, gsI_2, gsR_o, gsR_s, gsR_2, gsL_1, gsL_o, gsL_s, jn0, jn1, jn2, jn3, jn4, jn5, ↓reduceIte, if_true, if_false, ite_self, ne_eq, not_true_eq_false, not_false_eq_true, and_true, true_and, and_false, false_and, Nat.reduceAdd, Nat.reduceMul, Nat.reduceSub, Nat.reducePow, Nat.reduceLT, Nat.reduceEqDiff, Nat.reduceLeDiff, Nat.not_lt_zero, Nat.add_sub_cancel, Nat.add_zero, Nat.zero_add, pk_div, y_dn, Nat.one_mul, Nat.mul_one, reduceCtorEq, hh, Nat.lt_irrefl]
      refine kk _ ⟨g1, fun r' p hr' hp => ?_, g3⟩
      rw [g2 r' p hr' hp]
      by_cases q1 : r' = r
      · subst q1
        have q2 : r' < r' + 1 := by omega
        simp only [Nat.lt_irrefl, false_and, true_and, false_or, q2]
      · have q2 : r' < r + 1 ↔ r' < r := by omega
        simp only [q1, false_and, or_false, q2]
    · rw [gsI_s]
      by_cases q : r' = r
      · subst q; rw [if_pos rfl]
      · rw [if_neg q]; exact e1 r' (by omega)
    · rw [gsI_o (by omega), e2 r' p hr' hp]
      have m0 : mb (i / 3) r' p 0 = false := rfl
      simp only [m0, Bool.false_eq_true, and_false, or_false]
  · rintro rec s ⟨e1, e2, e3⟩
    simp (disch := omega) only [q_0, q_1, q_2, q_3, q_4, q_5, q_6, q_7, q_8, q_9, q_15, q_16, q_31, q_32, q_48, q_57, q_59, q_63, q_64, q_97, q_100, q_122, q_127, q_160, q_255, q_256, q_512, q_1024, q_2816, q_4096, q_16384, q_1048576, q_m1, q_m2, q_m3, q_m4, q_m5, bd_s, calP_s, cal_s, nI_add, pk_mul, pk_sub, z_and, z_or, z_xor, y_nd, y_shl, y_shr, y_tb, y_ck, nI_ltI, nI_eq, nI_clamp, y_m1a, y_m1b, y_m1c, y_m1d, y_m1e, y_b0, y_b1, y_and255, gsI_o, gsI_s, gsI_2, gsR_o, gsR_s, gsR_2, gsL_1, gsL_o, gsL_s, jn0, jn1, jn2, jn3, jn4, jn5, ↓reduceIte, if_true, if_false, ite_self, ne_eq, not_true_eq_false, not_false_eq_true, and_true, true_and, and_false, false_and, Nat.reduceAdd, Nat.reduceMul, Nat.reduceSub, Nat.reducePow, Nat.reduceLT, Nat.reduceEqDiff, Nat.reduceLeDiff, Nat.not_lt_zero, Nat.add_sub_cancel, Nat.add_zero, Nat.zero_add, pk_div, y_dn, Nat.one_mul, Nat.mul_one, reduceCtorEq, Nat.lt_irrefl]
    refine ok_some ⟨e1, fun r p hr hp => ?_, e3⟩
    rw [e2 r p hr hp]
    simp only [hr, true_and]
  · rw [f1 _ (by omega), if_neg (fun q => by omega)]
end NOTE
