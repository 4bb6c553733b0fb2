def lk (L : List (Nat × Nat × Nat)) : Nat := match L[L.length - 1]? with
  | some x => x.1
  | none => 0
def MR (s : St) (L : List (Nat × Nat × Nat)) : Prop := (∀ (i : Nat) (x : Nat × Nat × Nat), L[i]? = some x → s.1 111 i = nI x.1) ∧ (∀ (i : Nat) (x : Nat × Nat × Nat), L[i]? = some x → (x.2.1 = 0 ∧ s.1 110 x.1 = M1) ∨ ∃ p y, x.2.1 = p + 1 ∧ L[p]? = some y ∧ s.1 110 x.1 = nI y.1) ∧ (∀ q, q < 16384 → hasK L q = false → s.1 110 q = M2) ∧ (s.1 100 27 = if endB L = true then nI (lk L) else M1)
theorem MR.q {s : St} {L : List (Nat × Nat × Nat)} (h : MR s L) : ∀ (i : Nat) (x : Nat × Nat × Nat), L[i]? = some x → s.1 111 i = nI x.1 := h.1
theorem MR.fr {s : St} {L : List (Nat × Nat × Nat)} (h : MR s L) : ∀ (i : Nat) (x : Nat × Nat × Nat), L[i]? = some x → (x.2.1 = 0 ∧ s.1 110 x.1 = M1) ∨ ∃ p y, x.2.1 = p + 1 ∧ L[p]? = some y ∧ s.1 110 x.1 = nI y.1 := h.2.1
theorem MR.nk {s : St} {L : List (Nat × Nat × Nat)} (h : MR s L) : ∀ q, q < 16384 → hasK L q = false → s.1 110 q = M2 := h.2.2.1
theorem MR.fd {s : St} {L : List (Nat × Nat × Nat)} (h : MR s L) : s.1 100 27 = if endB L = true then nI (lk L) else M1 := h.2.2.2
theorem nI_m2 {a : Nat} (h : a < 2 ^ 31) : ¬ nI a = M2 := by
  intro e
  have h1 := congrArg Int32.toInt e
  rw [nI_toInt h] at h1
  have h2 : Int32.toInt M2 = -2 := by decide
  omega
theorem m1_m2 : ¬ M1 = M2 := by decide
section UNSM
variable {σ : St} {n k : Nat} {O : Nat → Nat} {L : List (Nat × Nat × Nat)}
theorem mr_eq {s : St} (h : MR σ L) (h1 : s.1 110 = σ.1 110) (h2 : s.1 111 = σ.1 111) (h3 : s.1 100 27 = σ.1 100 27) : MR s L := by
  refine ⟨fun i x hx => by rw [h2]; exact h.q i x hx, fun i x hx => ?_, fun q hq hh => by rw [h1]; exact h.nk q hq hh, by rw [h3]; exact h.fd⟩
  rw [h1]; exact h.fr i x hx
theorem mr_has (hk : k < 2) (hg : GL n k L) (h : MR σ L) {q : Nat} (hq : q < 16384) : σ.1 110 q = M2 ↔ hasK L q = false := by
  constructor
  · intro e
    cases hh : hasK L q with
    | false => rfl
    | true =>
      obtain ⟨x, h1, rfl⟩ := has_iff.mp hh
      obtain ⟨i, hi⟩ := mem_get.mp h1
      rcases h.fr i x hi with ⟨-, a⟩ | ⟨p, y, -, hp, a⟩
      · rw [a] at e; exact absurd e m1_m2
      · have := vk_lt hk (hg.vk y (mem_get.mpr ⟨p, hp⟩)).1
        rw [a] at e; exact absurd e (nI_m2 (by omega))
  · intro hh; exact h.nk q hq hh
theorem mr_snoc (hk : k < 2) (hg : GL n k L) (h : MR σ L) {q i w : Nat} {y : Nat × Nat × Nat} (hy : L[i]? = some y) (hh : hasK L q = false) : MR (setI (setI (setI σ 110 q (nI y.1)) 111 L.length (nI q)) 100 27 (if q % 256 = 0 then nI q else M1)) (L ++ [(q, i + 1, w)]) := by
  have ne : ∀ (j : Nat) (x : Nat × Nat × Nat), L[j]? = some x → x.1 ≠ q := fun j x hj e => by
    have : hasK L q = true := has_iff.mpr ⟨x, mem_get.mpr ⟨j, hj⟩, e⟩
    rw [hh] at this; cases this
  refine ⟨fun j x hx => ?_, fun j x hx => ?_, fun z hz h0 => ?_, ?_⟩
  · rw [gsI_o (by decide), gsI_s]
    rcases get_snoc.mp hx with a | ⟨a, rfl⟩
    · have := get_lt a
      rw [if_neg (by omega), gsI_o (by decide)]
      exact h.q j x a
    · rw [if_pos a]
  · rw [gsI_o (by decide), gsI_o (by decide), gsI_s]
    rcases get_snoc.mp hx with a | ⟨a, rfl⟩
    · rw [if_neg (ne j x a)]
      rcases h.fr j x a with b | ⟨p, y', b1, b2, b3⟩
      · exact Or.inl b
      · exact Or.inr ⟨p, y', b1, get_snoc.mpr (Or.inl b2), b3⟩
    · rw [if_pos rfl]
      exact Or.inr ⟨i, y, rfl, get_snoc.mpr (Or.inl hy), rfl⟩
  · rw [has_snoc, Bool.or_eq_false_iff] at h0
    have : ¬ z = q := fun e => of_decide_eq_false h0.2 e.symm
    rw [gsI_o (by decide), gsI_o (by decide), gsI_s, if_neg this]
    exact h.nk z hz h0.1
  · have e1 : lk (L ++ [(q, i + 1, w)]) = q := by
      unfold lk
      rw [List.length_append, show (L ++ [(q, i + 1, w)])[L.length + [(q, i + 1, w)].length - 1]? = some (q, i + 1, w) from get_snoc.mpr (Or.inr ⟨by simp, rfl⟩)]
    rw [gsI_s, if_pos rfl, end_snoc, e1]
    by_cases g : q % 256 = 0
    · rw [if_pos g, decide_eq_true g, if_pos rfl]
    · rw [if_neg g, decide_eq_false g, if_neg (by decide)]
theorem m_spreadOf (h : NM σ n O) {t S : Nat} (hS : S < 256) : f_X10_spreadOf σ (nI (plc (dgs (k + 1) t))) (nI S) = some (nI (sprd O k t S)) := by
  unfold f_X10_spreadOf
  rw [q_mm, y_nd, e_stepped h (Nat.lt_trans (nd_lt hS) (by decide)), calP_s, y_nd]
  rfl
def csB (O : Nat → Nat) (k r t : Nat) : Bool := if k = 0 then (O r).testBit t else (O (r / 8)).testBit (t / 8) && (O (r % 8)).testBit (t % 8) || (O (r / 8)).testBit (t % 8) && (O (r % 8)).testBit (t / 8)
theorem cs_sc (hk : k < 2) {r t : Nat} (ht : Sg n (k + 1) t) : scB O k r t = csB O k r t := by
  unfold scB csB
  rcases (show k = 0 ∨ k = 1 by omega) with rfl | rfl
  · rfl
  · rw [if_neg (by decide), if_neg (by decide), decide_eq_true ((sc2 t ht.1.1).mpr ht.2), Bool.true_and]
theorem m_canStep (h : NM σ n O) (hk : k < 2) {r t : Nat} (hr : Vr n (k + 1) r) (ht : t < 8 ^ (k + 1)) : f_X10_canStep σ (nI (k + 1)) (nI r) (nI t) = some (nI (csB O k r t).toNat) := by
  have h8 := h.np.h8
  unfold f_X10_canStep csB
  rw [q_0, q_1, q_8]
  rcases (show k = 0 ∨ k = 1 by omega) with rfl | rfl
  · have hr8 : r < 8 := hr.1
    have ht8 : t < 8 := ht
    have hrn : r < n := hr.2 r (by rw [dgs1]; simp; omega)
    rw [if_pos rfl, if_pos rfl, e_stepsOf h hrn, calP_s, y_bt (Nat.lt_trans (h.np.lt8 r) (by decide)) (by omega)]
    cases (O r).testBit t <;> rfl
  · have hr8 : r < 64 := hr.1
    have ht8 : t < 64 := ht
    have hra : r / 8 < n := hr.2 _ (by rw [dgs2]; simp; omega)
    have hrb : r % 8 < n := hr.2 _ (by rw [dgs2]; simp)
    have la : O (r / 8) < 2 ^ 31 := Nat.lt_trans (h.np.lt8 _) (by decide)
    have lb : O (r % 8) < 2 ^ 31 := Nat.lt_trans (h.np.lt8 _) (by decide)
    rw [if_neg (show ¬ nI (1 + 1) = nI 1 by decide), if_neg (show ¬ 1 = 0 by decide), pk_rem (by omega) (by omega) (by omega), pk_rem (by omega) (by omega) (by omega), pk_div (by omega) (by omega) (by omega), pk_div (by omega) (by omega) (by omega), e_stepsOf h hra, calP_s, e_stepsOf h hrb, calP_s, bd_s, bd_s, jn0, y_bt la (by omega), y_bt la (by omega), y_bt lb (by omega), y_bt lb (by omega)]
    cases (O (r / 8)).testBit (t / 8) <;> cases (O (r % 8)).testBit (t % 8) <;> cases (O (r / 8)).testBit (t % 8) <;> cases (O (r % 8)).testBit (t / 8) <;> rfl
theorem ex_end {i q w : Nat} {t : Nat} (h : endB (exL O k i q w L t) = true) : ∀ d, exL O k i q w L (t + d) = exL O k i q w L t := by
  intro d
  induction d with
  | zero => rfl
  | succ d ih =>
    rw [← Nat.add_assoc, exL, ih]
    split
    · exact mt_end h
    · rfl
theorem rt_one {h : Nat} (hh : h < 2 ^ 31) (hend : ∀ m, m ≤ 2 ^ 31 → True) : ∀ m, m < 2 ^ 31 → rtL n k (PP n k (nI h)) m = if h < m then [(rky n k h, 0, h)] else [] := by
  intro m
  induction m with
  | zero => intro _; rfl
  | succ m ih =>
    intro hm
    rw [rtL, ih (by omega)]
    have hp : PP n k (nI h) m = decide (m = h) := by
      unfold PP
      rw [if_neg (nI_mm hh), decide_eq_decide]
      exact nI_eq (by omega) hh
    rw [hp]
    by_cases e : m = h
    · rw [decide_eq_true e, if_pos rfl, if_neg (by omega), if_pos (by omega), e]
      rfl
    · rw [decide_eq_false e, if_neg (by decide)]
      by_cases g : h < m
      · rw [if_pos g, if_pos (by omega)]
      · rw [if_neg g, if_neg (by omega)]
def fcP (c : Nat) : Prop := c = 108 ∨ c = 110 ∨ c = 111
theorem m_findClear (hN : NM σ n O) (hk : k < 2) {h : Nat} (hh : Sg n (k + 1) h) : Ok (f_X10_findClear σ (nI (k + 1)) (nI h)) (fun q => MR q.2 (BL n O k (PP n k (nI h))) ∧ Fm fcP (fun j => j = 27) σ q.2) := by
  have h64 := p82 k hk
  have hh1 := hh.1.1
  have h8 := hN.np.h8
  have h2 := Nat.two_pow_pos n
  have ha := all_lt hN.np
  have hall : nI 1 <<< (nI n &&& 31) - nI 1 = nI (2 ^ n - 1) := by
    simp (disch := omega) only [q_0, q_1, q_2, q_3, q_4, q_5, q_6, q_7, q_8, q_9, q_15, q_16, q_31, q_32, q_48, q_57, q_59, q_63, q_64, q_97, q_100, q_122, q_127, q_160, q_255, q_256, q_512, q_1024, q_2816, q_4096, q_16384, q_1048576, q_m1, q_m2, q_m3, q_m4, q_m5, bd_s, calP_s, cal_s, nI_add, pk_mul, pk_sub, z_and, z_or, z_xor, y_nd, y_shl, y_shr, y_tb, y_ck, nI_ltI, nI_eq, nI_clamp, y_m1a, y_m1b, y_m1c, y_m1d, y_m1e, y_b0, y_b1, y_and255, gsI_o, gsI_s, gsI_2, gsR_o, gsR_s, gsR_2, gsL_1, gsL_o, gsL_s, jn0, jn1, jn2, jn3, jn4, jn5, ↓reduceIte, if_true, if_false, ite_self, ne_eq, not_true_eq_false, not_false_eq_true, and_true, true_and, and_false, false_and, Nat.reduceAdd, Nat.reduceMul, Nat.reduceSub, Nat.reducePow, Nat.reduceLT, Nat.reduceEqDiff, Nat.reduceLeDiff, Nat.not_lt_zero, Nat.add_sub_cancel, Nat.add_zero, Nat.zero_add, pk_div, y_dn, Nat.one_mul, Nat.mul_one, reduceCtorEq, y_pow]
  have hF : ∀ s, Fm fcP (fun j => j = 27) σ s → NM s n O := fun s f => nm_fm hN f (by omega) (by unfold fcP; omega)
  have hrt : rtL n k (PP n k (nI h)) (8 ^ (k + 1)) = [(rky n k h, 0, h)] := by rw [rt_one (by omega) (fun _ _ => trivial) _ (by omega), if_pos hh1]
  have hP : ∀ r, r < 8 ^ (k + 1) → PP n k (nI h) r = true → Sg n (k + 1) r := fun r hr => pp_sg (Or.inr ⟨h, hh, by omega, rfl⟩) r (by omega)
  unfold f_X10_findClear
  rw [q_mm, q_0, q_1, show (-2 : Int32) = M2 from rfl, q_256, q_16384]
  refine lo2_for (fun i s => (∀ q, q < i → s.1 110 q = M2) ∧ Fm fcP (fun j => j = 27) σ s) 16384 ?_ ?_ FU 0 _ (by omega) (fu_lt (by omega)) ⟨fun q hq => absurd hq (Nat.not_lt_zero _), fm_refl⟩
  · rintro rec i s hi ⟨j1, j2⟩ kk
    rw [if_pos (nI_lt hi (by omega)), y_ck _ hi (by omega), nI_clamp (by omega), bd_s, nI_add]
    refine kk _ ⟨fun q hq => ?_, fm_setI j2 (by unfold fcP; omega) (by decide)⟩
    rw [gsI_s]
    by_cases e : q = i
    · rw [if_pos e]
    · rw [if_neg e]; exact j1 q (by omega)
  · rintro rec s ⟨j1, j2⟩
    rw [if_neg (nI_nlt (Nat.le_refl _) (by omega))]
    refine ok_cal (m_placesOf (by omega) hh1) ?_
    rintro r6 s2 ⟨rfl, f2⟩
    have f2' : Fm fcP (fun j => j = 27) σ s2 := fm_frr j2 (fr_mono f2 (fun c hc => Or.inl hc)) (by unfold fcP; omega)
    have hkl : rky n k h < 16384 := vk_lt hk (rky_vk hN.np hh).1
    rw [(hF s j2).pl, hall, y_nd, pk_mul, nI_add, show 256 * h + nd (2 ^ n - 1) (plc (dgs (k + 1) h)) = rky n k h from rfl, bd_s, y_ck _ (by omega) (by omega), nI_clamp (by omega), bd_s, y_ck _ hkl (by omega), nI_clamp (by omega), bd_s, pk_rem (by omega) (by omega) (by omega), bd_s, bd_s]
    have m110 : ∀ q, q < 16384 → s2.1 110 q = M2 := fun q hq => by rw [f2.1 110 (by decide)]; exact j1 q hq
    have hval : (if nI (rky n k h % 256) = nI 0 then nI (rky n k h) else M1) = if rky n k h % 256 = 0 then nI (rky n k h) else M1 := by
      by_cases g : rky n k h % 256 = 0
      · rw [if_pos (by rw [g]), if_pos g]
      · rw [if_neg (nI_ne (by omega) (by omega) g), if_neg g]
    rw [hval]
    have c0 : MR (setI (setI (setI s2 111 0 (nI (rky n k h))) 110 (rky n k h) M1) 100 27 (if rky n k h % 256 = 0 then nI (rky n k h) else M1)) [(rky n k h, 0, h)] := by
      have g1 : ∀ (i : Nat) (x : Nat × Nat × Nat), [(rky n k h, 0, h)][i]? = some x → i = 0 ∧ x = (rky n k h, 0, h) := by
        intro i x hx
        have := get_lt hx
        have : i = 0 := by simp at this; exact this
        subst this
        exact ⟨rfl, (Option.some.inj hx).symm⟩
      refine ⟨fun i x hx => ?_, fun i x hx => ?_, fun q hq h0 => ?_, ?_⟩
      · obtain ⟨rfl, rfl⟩ := g1 i x hx
        rw [gsI_o (by decide), gsI_o (by decide), gsI_s, if_pos rfl]
      · obtain ⟨rfl, rfl⟩ := g1 i x hx
        rw [gsI_o (by decide), gsI_s, if_pos rfl]
        exact Or.inl ⟨rfl, rfl⟩
      · have : ¬ q = rky n k h := fun e => by rw [e] at h0; simp [hasK] at h0
        rw [gsI_o (by decide), gsI_s, if_neg this, gsI_o (by decide)]
        exact m110 q hq
      · rw [gsI_s, if_pos rfl]
        show _ = if decide (rky n k h % 256 = 0) = true then nI (rky n k h) else M1
        by_cases g : rky n k h % 256 = 0
        · rw [if_pos g, decide_eq_true g, if_pos rfl]
        · rw [if_neg g, decide_eq_false g, if_neg (by decide)]
    have f3 : Fm fcP (fun j => j = 27) σ (setI (setI (setI s2 111 0 (nI (rky n k h))) 110 (rky n k h) M1) 100 27 (if rky n k h % 256 = 0 then nI (rky n k h) else M1)) := fm_set (fm_setI (fm_setI f2' (by unfold fcP; omega) (by decide)) (by unfold fcP; omega) (by decide)) rfl
    have g0 : GL n k [(rky n k h, 0, h)] := by rw [← hrt]; exact rt_gl hN.np hk hP _ (Nat.le_refl _)
    have b0 : BL n O k (PP n k (nI h)) = rnL O k (3000 - 0) [(rky n k h, 0, h)] 0 := by unfold BL; rw [hrt]
    refine lo3_for (fun i s m => ∃ L, MR s L ∧ GL n k L ∧ m = nI L.length ∧ BL n O k (PP n k (nI h)) = rnL O k (3000 - i) L i ∧ Fm fcP (fun j => j = 27) σ s) 2816 ?_ ?_ FU 0 _ _ (by omega) (fu_lt (by omega)) ⟨_, c0, g0, rfl, b0, f3⟩
    · rintro rec2 i s m hi ⟨L, a1, a2, rfl, a3, a4⟩ k2
      have hlen := gl_len hk a2
      rw [show 3000 - i = (3000 - (i + 1)) + 1 by omega, rnL] at a3
      by_cases q : i < L.length
      · obtain ⟨y, hy⟩ := get_ex q
        rw [hy] at a3
        replace a3 : BL n O k (PP n k (nI h)) = if endB L = true then L else rnL O k (3000 - (i + 1)) (exL O k i y.1 y.2.2 L (8 ^ (k + 1))) (i + 1) := a3
        rw [if_pos (nI_lt q (by omega)), a1.fd]
        have hyv := a2.vk y (mem_get.mpr ⟨i, hy⟩)
        have hyk := vk_lt hk hyv.1
        cases he : endB L with
        | true =>
          have hll : lk L < 16384 := by
            obtain ⟨x, x1, x2, x3⟩ := end_last he
            unfold lk; rw [x1]
            exact vk_lt hk (a2.vk x (mem_get.mpr ⟨_, x1⟩)).1
          rw [he, if_pos rfl] at a3
          rw [if_pos rfl, if_neg (nI_mm (by omega))]
          exact ok_some ⟨by rw [a3]; exact a1, a4⟩
        | false =>
          rw [he, if_neg (by decide)] at a3
          rw [if_neg (show ¬ false = true by decide), if_pos rfl, y_ck _ (by omega) (by omega), nI_clamp (by omega), a1.q i y hy, pk_rem (by omega) (by omega) (by omega), pk_div (by omega) (by omega) (by omega), bd_s, y_ck _ (by omega) (by omega), bd_s, nI_add]
          have ex := ex_gl hN.np hk a2 hy
          refine lo3_for (fun t s m => MR s (exL O k i y.1 y.2.2 L t) ∧ m = nI (exL O k i y.1 y.2.2 L t).length ∧ Fm fcP (fun j => j = 27) σ s) (8 ^ (k + 1)) ?_ ?_ FU 0 _ _ (Nat.zero_le _) (fu_lt (by omega)) ⟨a1, rfl, a4⟩
          · rintro rec3 t s m ht ⟨l1, rfl, l2⟩ k3
            obtain ⟨g1, g2⟩ := ex t (by omega)
            have hlt := gl_len hk g1
            rw [e_power (by omega), calP_s, if_pos (nI_lt ht (by omega)), l1.fd]
            cases he2 : endB (exL O k i y.1 y.2.2 L t) with
            | true =>
              have hll : lk (exL O k i y.1 y.2.2 L t) < 16384 := by
                obtain ⟨x, x1, x2, x3⟩ := end_last he2
                unfold lk; rw [x1]
                exact vk_lt hk (g1.vk x (mem_get.mpr ⟨_, x1⟩)).1
              rw [if_pos rfl, if_neg (nI_mm (by omega))]
              have e3 := ex_end he2 (8 ^ (k + 1) - t)
              rw [show t + (8 ^ (k + 1) - t) = 8 ^ (k + 1) by omega] at e3
              rw [e3] at a3
              exact k2 _ _ ⟨_, l1, g1, rfl, a3, l2⟩
            | false =>
              rw [if_neg (show ¬ false = true by decide), if_pos rfl]
              refine ok_cal (m_isSetting (hF s l2) (by omega) ht) ?_
              rintro r27 s28 ⟨rfl, f28⟩
              have l28 : MR s28 (exL O k i y.1 y.2.2 L t) := mr_eq l1 (f28.1 110 (by decide)) (f28.1 111 (by decide)) (by rw [f28.1 100 (by decide)])
              have F28 : Fm fcP (fun j => j = 27) σ s28 := fm_frr l2 (fr_mono f28 (fun c hc => Or.inl hc)) (by unfold fcP; omega)
              rw [exL] at k3
              rw [nI_add]
              cases hsg : (vrB n (k + 1) t && decide (srt (k + 1) t = t)) with
              | false =>
                rw [if_pos b_f0]
                have : scB O k (y.1 / 256) t = false := by
                  cases e : scB O k (y.1 / 256) t with
                  | false => rfl
                  | true => rw [sg_iff.mpr (sc_sg hN.np hk ht e)] at hsg; cases hsg
                exact k3 _ _ (by rw [this, if_neg (by decide)]; exact ⟨l28, rfl, F28⟩)
              | true =>
                have hsg' := sg_iff.mp hsg
                rw [if_neg b_t0, m_canStep (hF s28 F28) hk hyv.2 ht, calP_s, ← cs_sc hk hsg']
                cases hsc : scB O k (y.1 / 256) t with
                | false =>
                  rw [if_pos b_f0]
                  exact k3 _ _ (by rw [hsc, if_neg (by decide)]; exact ⟨l28, rfl, F28⟩)
                | true =>
                  rw [if_neg b_t0]
                  refine ok_cal (m_placesOf (by omega) ht) ?_
                  rintro r30 s31 ⟨rfl, f31⟩
                  have l31 : MR s31 (exL O k i y.1 y.2.2 L t) := mr_eq l28 (f31.1 110 (by decide)) (f31.1 111 (by decide)) (by rw [f31.1 100 (by decide)])
                  have F31 : Fm fcP (fun j => j = 27) σ s31 := fm_frr F28 (fr_mono f31 (fun c hc => Or.inl hc)) (by unfold fcP; omega)
                  obtain ⟨v1, v2⟩ := nky_vk hN.np hk ht hsc
                  have hkl := vk_lt hk v1
                  rw [m_spreadOf (hF s31 F31) (Nat.mod_lt _ (by omega)), calP_s, pk_mul, nI_add, show 256 * t + sprd O k t (y.1 % 256) = nky O k t y.1 from rfl, bd_s, y_ck _ hkl (by omega), nI_clamp (show nky O k t y.1 < 2 ^ 31 by omega)]
                  have hmt : mtL (exL O k i y.1 y.2.2 L t) (nky O k t y.1) (i + 1) (y.2.2 + 64) = if hasK (exL O k i y.1 y.2.2 L t) (nky O k t y.1) = true then exL O k i y.1 y.2.2 L t else exL O k i y.1 y.2.2 L t ++ [(nky O k t y.1, i + 1, y.2.2 + 64)] := by unfold mtL; rw [he2, if_neg (by decide)]
                  have hmh := mr_has hk g1 l31 hkl
                  rw [hsc, if_pos rfl, hmt] at k3
                  cases hha : hasK (exL O k i y.1 y.2.2 L t) (nky O k t y.1) with
                  | true =>
                    rw [if_neg (fun e => by rw [hmh.mp e] at hha; cases hha)]
                    exact k3 _ _ (by rw [hha, if_pos rfl]; exact ⟨l31, rfl, F31⟩)
                  | false =>
                    have hnew := gl_new hk g1 he2 hha v1 v2
                    have c1 := mr_snoc hk g1 l31 (w := y.2.2 + 64) g2 hha
                    have F1 : Fm fcP (fun j => j = 27) σ (setI (setI (setI s31 110 (nky O k t y.1) (nI y.1)) 111 (exL O k i y.1 y.2.2 L t).length (nI (nky O k t y.1))) 100 27 (if nky O k t y.1 % 256 = 0 then nI (nky O k t y.1) else M1)) := fm_set (fm_setI (fm_setI F31 (by unfold fcP; omega) (by decide)) (by unfold fcP; omega) (by decide)) rfl
                    rw [if_pos (hmh.mpr hha), y_ck _ (by omega) (by omega), y_ck _ hkl (by omega), l31.q i y g2, bd_s, y_ck _ (by omega) (by omega), nI_clamp (by omega), bd_s, pk_rem (by omega) (by omega) (by omega), bd_s, bd_s, nI_add]
                    rw [hha, if_neg (by decide)] at k3
                    have hl1 : (exL O k i y.1 y.2.2 L t ++ [(nky O k t y.1, i + 1, y.2.2 + 64)]).length = (exL O k i y.1 y.2.2 L t).length + 1 := by rw [List.length_append]; rfl
                    by_cases g : nky O k t y.1 % 256 = 0
                    · rw [if_pos (by rw [g])]
                      rw [if_pos g] at c1 F1
                      exact k3 _ _ ⟨c1, by rw [hl1], F1⟩
                    · rw [if_neg (nI_ne (by omega) (by omega) g)]
                      rw [if_neg g] at c1 F1
                      exact k3 _ _ ⟨c1, by rw [hl1], F1⟩
          · rintro rec3 s m ⟨l1, rfl, l2⟩
            rw [e_power (by omega), calP_s, if_neg (nI_nlt (Nat.le_refl _) (by omega))]
            exact k2 _ _ ⟨_, l1, (ex _ (Nat.le_refl _)).1, rfl, a3, l2⟩
      · rw [if_neg (nI_nlt (by omega) (by omega))]
        have : L[i]? = none := List.getElem?_eq_none (by omega)
        rw [this] at a3
        replace a3 : BL n O k (PP n k (nI h)) = L := a3
        exact ok_some ⟨by rw [a3]; exact a1, a4⟩
    · rintro rec2 s m ⟨L, a1, a2, rfl, a3, a4⟩
      have hlen := gl_len hk a2
      rw [if_neg (nI_nlt hlen (by omega))]
      have : L[2816]? = none := List.getElem?_eq_none hlen
      rw [show 3000 - 2816 = 183 + 1 from rfl, rnL, this] at a3
      replace a3 : BL n O k (PP n k (nI h)) = L := a3
      exact ok_some ⟨by rw [a3]; exact a1, a4⟩
end UNSM
