section CALLS5
variable {σ s : St} {n c l : Nat} {O tx : Nat → Nat} {p : Pl}
theorem rdA_sp (hl : l ≤ 160) (hn : 1 ≤ n ∧ n ≤ 8) : ((rdA tx l n).1 = 999 → VL n (rdA tx l n).2) ∧ (rdA tx l n).2.length ≤ 16 ∧ ((rdA tx l n).1 = 999 ∨ (rdA tx l n).1 ≤ 160) := by
  unfold rdA
  exact rd_vl hl 16 0 n (Nat.zero_le _) hn
theorem rdA_ex (hl : l ≤ 160) (hn : 1 ≤ n ∧ n ≤ 8) : ∃ RA : Nat × List (Nat × Nat × Nat), rdA tx l n = RA ∧ (RA.1 = 999 → VL n RA.2) ∧ RA.2.length ≤ 16 ∧ (RA.1 = 999 ∨ RA.1 ≤ 160) := ⟨rdA tx l n, rfl, rdA_sp hl hn⟩
def P0 : Pl := (false, 0, 0, 0, 0, 0)
theorem m_forget : Ok (f_X10_forget σ) (fun q => (∀ i, i < 9 → q.2.1 104 i = nI 0) ∧ (∀ i, i < 3 → q.2.1 112 i = nI 0) ∧ q.2.1 100 36 = nI 0 ∧ q.2.1 100 24 = nI 0 ∧ q.2.1 100 23 = nI 0 ∧ Fm (fun c => c = 104 ∨ c = 112) (fun k => k = 36 ∨ k = 24 ∨ k = 23) σ q.2) := by
  unfold f_X10_forget
  rw [q_0, q_1, q_9, q_3]
  refine lo2_for (fun i s => (∀ j, j < i → s.1 104 j = nI 0) ∧ Fm (fun c => c = 104 ∨ c = 112) (fun k => k = 36 ∨ k = 24 ∨ k = 23) σ s) 9 ?_ ?_ FU 0 _ (by omega) (fu_lt (by omega)) ⟨fun j hj => absurd hj (Nat.not_lt_zero _), fm_refl⟩
  · rintro rec i s hi ⟨i1, i2⟩ kk
    rw [if_pos (nI_lt hi (by omega)), y_ck _ hi (by omega), nI_clamp (by omega), bd_s, nI_add]
    refine kk _ ⟨fun j hj => ?_, fm_setI i2 (Or.inl rfl) (by decide)⟩
    rw [gsI_s]
    by_cases e : j = i
    · rw [if_pos e]
    · rw [if_neg e]; exact i1 j (by omega)
  · rintro rec s ⟨i1, i2⟩
    rw [if_neg (nI_nlt (Nat.le_refl _) (by omega))]
    refine lo2_for (fun i t => (∀ j, j < i → t.1 112 j = nI 0) ∧ (∀ j, j < 9 → t.1 104 j = nI 0) ∧ Fm (fun c => c = 104 ∨ c = 112) (fun k => k = 36 ∨ k = 24 ∨ k = 23) σ t) 3 ?_ ?_ FU 0 _ (by omega) (fu_lt (by omega)) ⟨fun j hj => absurd hj (Nat.not_lt_zero _), i1, i2⟩
    · rintro rec2 i t hi ⟨j1, j2, j3⟩ k2
      rw [if_pos (nI_lt hi (by omega)), y_ck _ hi (by omega), nI_clamp (by omega), bd_s, nI_add]
      refine k2 _ ⟨fun j hj => ?_, fun j hj => by rw [gsI_o (by decide)]; exact j2 j hj, fm_setI j3 (Or.inr rfl) (by decide)⟩
      rw [gsI_s]
      by_cases e : j = i
      · rw [if_pos e]
      · rw [if_neg e]; exact j1 j (by omega)
    · rintro rec2 t ⟨j1, j2, j3⟩
      rw [if_neg (nI_nlt (Nat.le_refl _) (by omega)), bd_s, bd_s, bd_s]
      refine ok_some ⟨fun i hi => ?_, fun i hi => ?_, ?_, ?_, ?_, fm_set (fm_set (fm_set j3 (by omega)) (by omega)) (by omega)⟩
      · rw [gsI_o (by decide), gsI_o (by decide), gsI_o (by decide)]; exact j2 i hi
      · rw [gsI_o (by decide), gsI_o (by decide), gsI_o (by decide)]; exact j1 i hi
      · rw [gsI_s, if_neg (by decide), gsI_s, if_neg (by decide), gsI_s, if_pos rfl]
      · rw [gsI_s, if_neg (by decide), gsI_s, if_pos rfl]
      · rw [gsI_s, if_pos rfl]
/-- another net for the reference: all is forgotten -/
theorem im_new (hN : NM σ n O) (hT : TM σ tx l) : Ok (f_X10_forget σ) (fun q => IM q.2 n O tx l P0 ∧ NM q.2 n O ∧ Fr (fun x => 100 ≤ x) σ q.2) := by
  refine ok_mono m_forget ?_
  rintro q ⟨a1, a2, a3, a4, a5, f⟩
  have hN' := nm_fm hN f (by omega) (by omega)
  refine ⟨⟨hN', tm_fm hT f (by omega) (by omega), fun k sp h1 h2 h3 => ?_, fun k hk => Or.inl (a2 _ (by omega)), Or.inl a3, a4, a5, fun w => by cases w⟩, hN', fm_ge f (fun x hx => by omega)⟩
  rw [a1 _ (by omega)]
  exact ⟨Or.inl rfl, fun w => absurd w b_01⟩
theorem nm_reset {m : Nat} (h1 : 1 ≤ m) (h8 : m ≤ 8) (h0 : s.1 100 0 = nI m) (hr : ∀ q, q < 8 → s.1 101 q = nI 0) : NM s m (rO m) := by
  refine ⟨rO_np h1 h8, h0, fun q hq => ?_⟩
  rw [hr q hq]
  congr 1
  refine tb_ext (fun i => ?_)
  rw [nd_tb, Nat.zero_testBit]
  unfold rO
  split
  · rw [tb_pow]; cases decide (q = i) <;> rfl
  · simp
theorem sO_nd {a b : Nat} (hab : a ≠ b) (is : Bool) : nd (sO O a b is a) (2 ^ a) = if is = true then nd (O a) (2 ^ a) ||| 2 ^ b else nd (nd (O a) (2 ^ a)) (2 ^ b) := by
  refine tb_ext (fun i => ?_)
  rw [nd_tb, sO_tb, tb_pow]
  cases is with
  | true =>
    rw [if_pos rfl, Nat.testBit_or, nd_tb, tb_pow, tb_pow]
    by_cases e : i = b
    · subst e; simp [hab]
    · have : ¬ b = i := fun w => e w.symm
      simp [e, this]
  | false =>
    rw [if_neg (show ¬ false = true by decide), nd_tb, nd_tb, tb_pow, tb_pow]
    by_cases e : i = b
    · subst e; simp
    · have : ¬ b = i := fun w => e w.symm
      simp [e, this]
/-- a road of the reference is set -/
theorem nm_set (hN : NM σ n O) {a b : Nat} (ha : a < n) (hb : b < n) (hab : a ≠ b) (is : Bool) {v : Int32} (hv : v = nI (if is = true then nd (O a) (2 ^ a) ||| 2 ^ b else nd (nd (O a) (2 ^ a)) (2 ^ b))) : NM (setI σ 101 a v) n (sO O a b is) := by
  refine ⟨sO_np hN.np ha hb hab is, by rw [gsI_o (by decide)]; exact hN.pl, fun q hq => ?_⟩
  rw [gsI_s]
  by_cases e : q = a
  · subst e; rw [if_pos rfl, hv, sO_nd hab]
  · rw [if_neg e, hN.r q hq]; unfold sO; rw [if_neg e]
theorem m_laidLoop {ls : List (Nat × Nat × Nat)} (hN : NM σ n O) (hT : TM σ tx l) (h11 : σ.1 100 11 = nI ls.length) (hl : ls.length ≤ 16) (hS : Sm σ ls) (hV : VL n ls) : Ok (lo2 FU (fun rec5 (s3 : St) (x4 : Int32) =>
        (if x4 < (s3.1 100 11) then
          ck (((3 : Int32) * x4) + (1 : Int32)) 48 <|
            bd (s3.1 103 (((3 : Int32) * x4) + (1 : Int32)).toNatClampNeg) fun x7 =>
              ck (((3 : Int32) * x4) + (2 : Int32)) 48 <|
                bd (s3.1 103 (((3 : Int32) * x4) + (2 : Int32)).toNatClampNeg) fun x8 =>
                  ck ((3 : Int32) * x4) 48 <|
                    (if (s3.1 103 ((3 : Int32) * x4).toNatClampNeg) = (2 : Int32) then
                      bd (setI s3 100 0 x7) fun s9 =>
                        lo2 FU (fun rec12 (s10 : St) (x11 : Int32) =>
                          (if x11 < (8 : Int32) then
                            ck x11 8 <|
                              bd (setI s10 101 x11.toNatClampNeg (0 : Int32)) fun s14 =>
                                rec12 s14 (x11 + 1)
                             else
                            rec5 s10 (x4 + 1))) s9 (0 : Int32)
                       else
                      ck x7 8 <|
                        ck x7 8 <|
                          bd (setI s3 101 x7.toNatClampNeg ((s3.1 101 x7.toNatClampNeg) ||| ((1 : Int32) <<< (x8 &&& 31)))) fun s15 =>
                            ck ((3 : Int32) * x4) 48 <|
                              (if (s15.1 103 ((3 : Int32) * x4).toNatClampNeg) = 0 then
                                ck x8 8 <|
                                  ck x8 8 <|
                                    bd (setI s15 101 x8.toNatClampNeg ((s15.1 101 x8.toNatClampNeg) ||| ((1 : Int32) <<< (x7 &&& 31)))) fun s16 =>
                                      rec5 s16 (x4 + 1)
                                 else
                                ck x8 8 <|
                                  ck x8 8 <|
                                    bd (setI s15 101 x8.toNatClampNeg (s15.1 101 x8.toNatClampNeg)) fun s17 =>
                                      rec5 s17 (x4 + 1)))
           else
          bd (setI s3 100 2 (0 : Int32)) fun s18 =>
            cal (f_X10_forget s18) fun _ s19 =>
              some ((s19.1 100 0), s19))) σ (0 : Int32)) (fun q => q.1 = nI (apL ls (n, O)).1 ∧ IM q.2 (apL ls (n, O)).1 (apL ls (n, O)).2 tx 0 P0 ∧ Fr (fun x => 100 ≤ x) σ q.2) := by
  rw [q_0, q_1, q_2, q_3, q_8]
  refine lo2_for (fun j s => ∃ z dn rest, ls = dn ++ rest ∧ dn.length = j ∧ NM s z.1 z.2 ∧ VL z.1 rest ∧ apL rest z = apL ls (n, O) ∧ Fm (fun c => c = 101) (fun k => k = 0) σ s) ls.length ?_ ?_ FU 0 _ (Nat.zero_le _) (fu_lt (by omega)) ⟨(n, O), [], ls, rfl, rfl, hN, hV, rfl, fm_refl⟩
  · rintro rec j s hj ⟨z, dn, rest, i1, i2, i3, i5, i6, i7⟩ kk
    have e103 : s.1 103 = σ.1 103 := i7.1.1 103 (by omega)
    rw [i7.2.1 11 (by omega), h11, if_pos (nI_lt hj (by omega)), pk_mul, nI_add, nI_add, y_ck _ (by omega) (by omega), nI_clamp (by omega), bd_s, y_ck _ (by omega) (by omega), nI_clamp (by omega), bd_s, y_ck _ (by omega) (by omega), nI_clamp (show 3 * j < 2 ^ 31 by omega), e103]
    cases rest with
    | nil =>
      rw [i1, List.append_nil] at hj
      omega
    | cons x rest =>
      have hx : ls[j]? = some x := by
        rw [i1, List.getElem?_append_right (by omega), i2, Nat.sub_self]; rfl
      obtain ⟨x8, x9, x10⟩ := hS j x hx
      have e2 : ls = (dn ++ [x]) ++ rest := by rw [i1, List.append_assoc]; rfl
      have hl2 : (dn ++ [x]).length = j + 1 := by rw [List.length_append, i2]; rfl
      rw [x8, x9]
      rw [VL] at i5
      rcases i5 with ⟨v1, v2, v3, v4⟩ | ⟨v1, v2, v3, v4, v5⟩
      · rw [v1, if_pos rfl, bd_s]
        refine lo2_for (fun i t => t.1 100 0 = nI x.2.1 ∧ (∀ q, q < i → t.1 101 q = nI 0) ∧ Fm (fun c => c = 101) (fun k => k = 0) σ t) 8 ?_ ?_ FU 0 _ (by omega) (fu_lt (by omega)) ⟨by rw [gsI_s, if_pos rfl], fun q hq => absurd hq (Nat.not_lt_zero _), fm_set i7 rfl⟩
        · rintro rec2 i t hi ⟨l1, l2, l3⟩ k2
          rw [if_pos (nI_lt hi (by omega)), y_ck _ hi (by omega), nI_clamp (by omega), bd_s, nI_add]
          refine k2 _ ⟨by rw [gsI_o (by decide)]; exact l1, fun q hq => ?_, fm_setI l3 rfl (by decide)⟩
          rw [gsI_s]
          by_cases e : q = i
          · rw [if_pos e]
          · rw [if_neg e]; exact l2 q (by omega)
        · rintro rec2 t ⟨l1, l2, l3⟩
          rw [if_neg (nI_nlt (Nat.le_refl _) (by omega)), nI_add]
          refine kk _ ⟨(x.2.1, rO x.2.1), dn ++ [x], rest, e2, hl2, nm_reset v2 v3 l1 l2, v4, ?_, l3⟩
          rw [← i6, apL, apO, if_pos v1]
      · have hne : ¬ x.1 = 2 := by omega
        have h8 := i3.np.h8
        rw [if_neg (nI_ne (by omega) (by omega) hne), x10 hne, y_ck _ (by omega) (by omega), y_ck _ (by omega) (by omega), nI_clamp (show x.2.1 < 2 ^ 31 by omega), nI_clamp (show x.2.2 < 2 ^ 31 by omega), i3.r _ (by omega), y_pw (show x.2.2 < 8 by omega), z_or, bd_s, y_ck _ (by omega) (by omega)]
        have n15 := nm_set i3 v2 v3 v4 true (v := nI (nd (z.2 x.2.1) (2 ^ x.2.1) ||| 2 ^ x.2.2)) (by rw [if_pos rfl])
        have f15 : Fm (fun c => c = 101) (fun k => k = 0) σ (setI s 101 x.2.1 (nI (nd (z.2 x.2.1) (2 ^ x.2.1) ||| 2 ^ x.2.2))) := fm_setI i7 rfl (by decide)
        generalize setI s 101 x.2.1 (nI (nd (z.2 x.2.1) (2 ^ x.2.1) ||| 2 ^ x.2.2)) = s15 at n15 f15 ⊢
        rw [show s15.1 103 = σ.1 103 from f15.1.1 103 (by omega), x8, y_ck _ (by omega) (by omega), y_ck _ (by omega) (by omega), n15.r _ (by omega), y_pw (show x.2.1 < 8 by omega), z_or, bd_s, nI_add]
        by_cases h0 : x.1 = 0
        · rw [h0, if_pos rfl]
          have n16 := nm_set n15 v3 v2 (fun w => v4 w.symm) true (v := nI (nd (sO z.2 x.2.1 x.2.2 true x.2.2) (2 ^ x.2.2) ||| 2 ^ x.2.1)) (by rw [if_pos rfl])
          refine kk _ ⟨(z.1, sO (sO z.2 x.2.1 x.2.2 true) x.2.2 x.2.1 true), dn ++ [x], rest, e2, hl2, n16, v5, ?_, fm_setI f15 rfl (by decide)⟩
          rw [← i6, apL, apO, if_neg hne, if_pos h0]
        · rw [if_neg (nI_ne (by omega) (by omega) h0), y_ck _ (by omega) (by omega), y_ck _ (by omega) (by omega), bd_s]
          refine kk _ ⟨(z.1, sO z.2 x.2.1 x.2.2 true), dn ++ [x], rest, e2, hl2, ?_, v5, ?_, fm_setI f15 rfl (by decide)⟩
          · refine ⟨n15.np, by rw [gsI_o (by decide)]; exact n15.pl, fun q hq => ?_⟩
            rw [gsI_s]
            by_cases e : q = x.2.2
            · rw [if_pos e, e]
            · rw [if_neg e]; exact n15.r q hq
          · rw [← i6, apL, apO, if_neg hne, if_neg h0]
  · rintro rec s ⟨z, dn, rest, i1, i2, i3, i5, i6, i7⟩
    rw [i7.2.1 11 (by omega), h11, if_neg (nI_nlt (Nat.le_refl _) (by omega)), bd_s]
    have hr : rest = [] := by
      have := congrArg List.length i1
      rw [List.length_append, i2] at this
      exact List.eq_nil_of_length_eq_zero (by omega)
    subst hr
    have hz : z = apL ls (n, O) := i6
    rw [hz] at i3
    have f18 : Fm (fun c => c = 101) (fun k => k = 0 ∨ k = 2) σ (setI s 100 2 (nI 0)) := fm_set (fm_mono i7 (fun c hc => hc) (fun k hk => Or.inl hk)) (Or.inr rfl)
    have n18 : NM (setI s 100 2 (nI 0)) (apL ls (n, O)).1 (apL ls (n, O)).2 := ⟨i3.np, by rw [gsI_s, if_neg (by decide)]; exact i3.pl, fun q hq => by rw [gsI_o (by decide)]; exact i3.r q hq⟩
    have t18 : TM (setI s 100 2 (nI 0)) tx 0 := ⟨by rw [gsI_s, if_pos rfl], by omega, fun j hj => absurd hj (Nat.not_lt_zero _), fun j hj => absurd hj (Nat.not_lt_zero _)⟩
    refine ok_cal (im_new n18 t18) ?_
    rintro u s19 ⟨a1, a2, a3⟩
    exact ok_some ⟨a2.pl, a1, fr_trans (fm_ge f18 (fun x hx => by omega)) a3⟩
theorem st_laid (hI : Inv σ n O c tx l p) (hc : c < 100000) {R : Type} {K : St → Option R} {Q : R → Prop} (hK : ∀ t n' O' c' l' p', c' ≤ c + 1 → Inv t n' O' c' tx l' p' → Ok (K t) Q) : Ok (cal (f_X9_laid σ) fun r s1 => cal (f_X10_laid s1) fun r2 s2 => if r = r2 then K s2 else none) Q := by
  have hn : 1 ≤ n ∧ n ≤ 8 := ⟨hI.1.nc.np.h1, hI.1.nc.np.h8⟩
  have hl := hI.1.tc.h
  obtain ⟨RA, hRA, w1, hL, w3⟩ := rdA_ex (tx := tx) hl hn
  by_cases g : RA.1 = 999
  · have hV := w1 g
    refine both hI (A := fun x => x = nI (apL RA.2 (n, O)).1) (n' := (apL RA.2 (n, O)).1) (O' := (apL RA.2 (n, O)).2) (c' := c + 1) (tx' := tx) (l' := 0) (p' := P0) (fun x y a b => a.trans b.symm) ?_ (fun t ht' => ?_) (fun w => by cases w) (fun t ht => hK t _ _ _ _ _ (Nat.le_refl _) ht)
    · unfold f_X9_laid f_X3_places
      rw [hI.1.nc.pl, calP_s]
      refine ok_cal (e_read hI.1.tc hn) ?_
      rintro r2 s3 ⟨f, e2, e3⟩
      rw [hRA] at e2 e3
      obtain ⟨e4, e5⟩ := e3 g
      rw [show r2 = M1 by rw [show r2 = _ from e2, if_pos g], q_mm, if_pos rfl]
      have n3 : NC s3 n O c := nc_fr hI.1.nc f.1 (fun x hx => by omega)
      refine ok_cal (e_layOn n3.z n3.ch e4 hL e5 hV) ?_
      rintro u s4 ⟨a1, a2⟩
      unfold f_X7_drop f_X5_end
      rw [bd_s, cal_s, bd_s, bd_s, cal_s, q_0]
      have fA : Fr (fun x => x ≤ 13) s4 (setI (setI (setI s4 6 1 (nI 0)) 13 0 (nI 0)) 13 5 (nI 0)) := fr_setI (fr_setI (fr_setI fr_refl (by decide)) (by decide)) (by decide)
      have n6 : NC (setI (setI (setI s4 6 1 (nI 0)) 13 0 (nI 0)) 13 5 (nI 0)) (apL RA.2 (n, O)).1 (apL RA.2 (n, O)).2 (c + 1) := nc_fr a1 (P := fun x => x = 6 ∨ x = 13) (fr_setI (fr_setI (fr_setI fr_refl (by decide)) (by decide)) (by decide)) (fun x hx => by omega)
      have fB : Fr (fun x => x ≤ 13) σ (setI (setI (setI s4 6 1 (nI 0)) 13 0 (nI 0)) 13 5 (nI 0)) := fr_trans (fr_mono f.1 (fun x hx => by omega)) (fr_trans (fr_mono a2 (fun x hx => by omega)) fA)
      rw [n6.pl, calP_s]
      refine ok_some ⟨rfl, ic_new fB hI.1 hc n6 (fun x hx => by omega) ⟨?_, by omega, fun j hj => absurd hj (Nat.not_lt_zero _), fun j hj => absurd hj (Nat.not_lt_zero _)⟩ ⟨?_, ?_, fun w => by cases w⟩, fr_mono fB (fun x hx => by omega)⟩
      · rw [gsI_o (by decide), gsI_o (by decide), gsI_s, if_pos rfl]
      · rw [gsI_s, if_neg (by decide), gsI_s, if_pos rfl]; rfl
      · rw [gsI_s, if_pos rfl]; rfl
    · unfold f_X10_laid
      refine ok_cal (m_isRead ht'.tm hn ht'.nm.pl) ?_
      rintro r1 s2 ⟨f, e1, -⟩
      rw [hRA] at e1
      obtain ⟨e2, e3, e4⟩ := e1 g
      rw [show r1 = nI 1 from e2, if_neg (show ¬ nI 1 = 0 by decide)]
      have n2 : NM s2 n O := nm_fm ht'.nm f (by unfold rk; omega) (by unfold c103; omega)
      refine ok_mono (m_laidLoop n2 (tm_rk ht'.tm f) e3 hL e4 hV) ?_
      rintro q ⟨q1, q2, q3⟩
      exact ⟨q1, q2, fr_trans (fm_ge f (fun x hx => by unfold c103 at hx; omega)) q3⟩
  · refine both hI (A := fun x => x = M4) (fun x y a b => a.trans b.symm) ?_ (fun t ht' => ?_) hI.2.2 (fun t ht => hK t n O c l p (by omega) ht)
    · unfold f_X9_laid f_X3_places
      rw [hI.1.nc.pl, calP_s]
      refine ok_cal (e_read hI.1.tc hn) ?_
      rintro r2 s3 ⟨f, e2, -⟩
      rw [hRA] at e2
      have hr2 := w3.resolve_left g
      rw [show r2 = nI RA.1 by rw [show r2 = _ from e2, if_neg g], q_mm, if_neg (nI_mm (by omega))]
      exact ok_some ⟨rfl, ic_tx hI.1 f.1 (fun x hx => by omega) (tc_fl hI.1.tc f), fr_mono f.1 (fun x hx => by omega)⟩
    · unfold f_X10_laid
      refine ok_cal (m_isRead ht'.tm hn ht'.nm.pl) ?_
      rintro r1 s2 ⟨f, -, e1⟩
      rw [hRA] at e1
      rw [show r1 = nI 0 from (e1 g).1, if_pos (show nI 0 = 0 from rfl)]
      exact ok_some ⟨rfl, im_tx ht' f (fun x hx => Or.inr hx) (fun k hk => by unfold rk at hk; omega) (tm_rk ht'.tm f), fm_ge f (fun x hx => by unfold c103 at hx; omega)⟩
end CALLS5
