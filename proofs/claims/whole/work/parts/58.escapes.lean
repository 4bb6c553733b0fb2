/-! escapes -/
def ec (lv : Nat → Nat → Nat) (r : Nat) : Nat → Nat
  | 0 => 0
  | p + 1 => ec lv r p + (if lv r p = 1048576 then 1 else 0)
def es (n K : Nat) (lv : Nat → Nat → Nat) : Nat → Nat
  | 0 => 0
  | r + 1 => es n K lv r + (if sgB n K r = true then ec lv r n else 0)
section ESC
variable {σ : St} {n c k s i sp : Nat} {O : Nat → Nat} {lv : Nat → Nat → Nat}
theorem pc_ec {X r : Nat} (hX : ∀ p, X.testBit p = true ↔ p < n ∧ lv r p = 1048576) : ∀ m, m ≤ n → pc X m = ec lv r m := by
  intro m
  induction m with
  | zero => intro _; rfl
  | succ m ih =>
    intro hm
    rw [pc, ec, ih (by omega)]
    by_cases q : lv r m = 1048576
    · rw [if_pos q, if_pos ((hX m).mpr ⟨by omega, q⟩)]
    · rw [if_neg q, if_neg (fun e => q ((hX m).mp e).2)]
theorem pc_ext {X n : Nat} (hX : X < 2 ^ n) : ∀ m, n ≤ m → pc X m = pc X n := by
  intro m
  induction m with
  | zero =>
    intro h
    obtain rfl : n = 0 := by omega
    rfl
  | succ m ih =>
    intro h
    rcases Nat.lt_or_ge m n with q | q
    · obtain rfl : n = m + 1 := by omega
      rfl
    · rw [pc, ih q, if_neg (by rw [tb_ge hX q]; decide)]; rfl
theorem e_countEndless (hx : CX σ n O c i sp) (h : HL n O (i / 3) sp lv) (hc : CT σ n O i sp) : f_X0_countEndless σ i = some (nI (es n (i / 3 + 1) lv (8 ^ (i / 3 + 1)))) := by
  have hk : i / 3 < 3 := by have := hx.hi; omega
  have hz := sz_eq (i / 3) hk
  have h512 := p8_le (i / 3) hk
  have h8 := hx.nc.np.h8
  have ha := all_lt hx.nc.np
  have h2 := Nat.two_pow_pos n
  unfold f_X0_countEndless
  rw [q_0, hz]
  refine ok_eq (lo2_for (fun j x => x = nI (es n (i / 3 + 1) lv j)) (8 ^ (i / 3 + 1)) ?_ ?_ FU 0 _ (Nat.zero_le _) (fu_lt (by omega)) rfl)
  · rintro rec r x hr rfl kk
    rw [if_pos (nI_lt hr (by omega)), e_isSetting hx.st hx.nc.z hk hr, calP_s, q_1, nI_add]
    rw [es] at kk
    cases hb : sgB n (i / 3 + 1) r with
    | false =>
      have hb' : (vrB n (i / 3 + 1) r && decide (srt (i / 3 + 1) r = r)) = false := hb
      rw [hb', if_pos (show nI false.toNat = nI 0 from rfl)]
      exact kk _ (by rw [if_neg (by rw [hb]; decide)]; rfl)
    | true =>
      have hb' : (vrB n (i / 3 + 1) r && decide (srt (i / 3 + 1) r = r)) = true := hb
      have hsg := sgB_iff.mp hb
      obtain ⟨S, s1, s2, s3⟩ := hc.su r hsg.1
      have hX : ∀ p, (nd (2 ^ n - 1) S).testBit p = true ↔ p < n ∧ lv r p = 1048576 := by
        intro p
        rw [nd_tb, Nat.testBit_two_pow_sub_one, Bool.and_eq_true, decide_eq_true_iff, Bool.not_eq_true']
        constructor
        · rintro ⟨q1, q2⟩
          refine ⟨q1, ?_⟩
          rcases h r p hsg.1 q1 with ⟨-, c1, -⟩ | ⟨c1, -⟩
          · rw [(s3 p).mpr ⟨q1, _, c1⟩] at q2; cases q2
          · exact c1
        · rintro ⟨q1, q2⟩
          refine ⟨q1, ?_⟩
          cases hS : S.testBit p with
          | false => rfl
          | true =>
            obtain ⟨-, t, q3⟩ := (s3 p).mp hS
            rcases h r p hsg.1 q1 with ⟨c0, -, -⟩ | ⟨-, c1⟩
            · omega
            · exact (c1 t q3).elim
      have hl : nd (2 ^ n - 1) S < 2 ^ n := nd_lt (by omega)
      rw [hb', if_neg (show ¬ nI true.toNat = nI 0 by decide), e_all hx.nc.z, calP_s, y_ck _ hr (by omega), nI_clamp (by omega), s2, show (-nI 1 : Int32) = M1 from rfl, y_nd, e_bc (nd_lt ha), calP_s, bd_s, nI_add]
      refine kk _ ?_
      rw [if_pos hb, pc_ext hl 8 h8, pc_ec hX n (Nat.le_refl _)]
  · rintro rec x rfl
    rw [if_neg (nI_nlt (Nat.le_refl _) (by omega))]
    exact ok_some rfl
theorem m_escLoop (hN : NM σ n O) (hk : k < 3) (h1 : 1 ≤ s) (h3 : s ≤ 3) (hl : HL n O k s lv) (hm : MT σ n O k s) : Ok (lo3 FU (fun rec6 (s3 : St) (x4 : Int32) (x5 : Int32) =>
          calP (f_X10_powerOf s3 (nI (k + 1))) fun r8 =>
            (if x5 < r8 then
              lo3 FU (fun rec12 (s9 : St) (x10 : Int32) (x11 : Int32) =>
                (if x11 < (s9.1 100 0) then
                  cal (f_X10_isSetting s9 (nI (k + 1)) x5) fun r14 s15 =>
                    (if r14 = 0 then
                      rec6 s15 x10 (x5 + 1)
                       else
                      calP (f_X10_at s15 (nI (k + 1)) (nI s) x5 x11) fun r16 =>
                        ck r16 36864 <|
                          (if (s15.1 105 r16.toNatClampNeg) = (-1 : Int32) then
                            bd (x10 + (1 : Int32)) fun x17 =>
                              rec12 s15 x17 (x11 + 1)
                             else
                            bd (x10 + (0 : Int32)) fun x18 =>
                              rec12 s15 x18 (x11 + 1)))
                   else
                  rec6 s9 x10 (x5 + 1))) s3 x4 (0 : Int32)
               else
              some (x4, s3))) σ (0 : Int32) (0 : Int32)) (fun q => q.1 = nI (es n (k + 1) lv (8 ^ (k + 1))) ∧ Fr (fun c => c = 108) σ q.2) := by
  have h512 := p8_le k hk
  have h8 := hN.np.h8
  have hn1 := hN.np.h1
  rw [q_0, q_mm, q_1]
  refine lo3_for (fun j x y => y = nI (es n (k + 1) lv j) ∧ Fr (fun c => c = 108) σ x) (8 ^ (k + 1)) ?_ ?_ FU 0 _ _ (Nat.zero_le _) (fu_lt (by omega)) ⟨rfl, fr_refl⟩
  · rintro rec r x y hr ⟨rfl, e2⟩ kk
    rw [e_power hk, calP_s, if_pos (nI_lt hr (by omega)), nI_add]
    rw [es] at kk
    refine lo3_for (fun j x y => (j = 0 ∨ sgB n (k + 1) r = true) ∧ y = nI (es n (k + 1) lv r + (if sgB n (k + 1) r = true then ec lv r j else 0)) ∧ Fr (fun c => c = 108) σ x) n ?_ ?_ FU 0 _ _ (by omega) (fu_lt (by omega)) ⟨Or.inl rfl, by split <;> rfl, e2⟩
    · rintro rec2 p x y hp ⟨g0, rfl, g2⟩ k2
      have hx := nm_fr hN g2 (by omega) (by omega)
      rw [hx.pl, if_pos (nI_lt hp (by omega)), nI_add]
      refine ok_cal (m_isSetting hx hk hr) (fun w s1 ⟨w1, w2⟩ => ?_)
      dsimp only at w1 w2
      subst w1
      have f1 : Fr (fun c => c = 108) σ s1 := fr_trans g2 w2
      have hm1 : MT s1 n O k s := mt_fr hm (f1.1 105 (by omega))
      cases hb : (vrB n (k + 1) r && decide (srt (k + 1) r = r)) with
      | false =>
        have hb' : sgB n (k + 1) r = false := hb
        rw [if_pos (show nI false.toNat = nI 0 from rfl)]
        refine kk _ _ ⟨?_, f1⟩
        rw [hb']
        rfl
      | true =>
        have hb' : sgB n (k + 1) r = true := hb
        have hsg := sgB_iff.mp hb'
        have hle := hl_le hl hsg.1 hp
        rw [if_neg (show ¬ nI true.toNat = nI 0 by decide), e_at hk h1 h3 (by omega) (by omega), calP_s, y_ck _ (by omega) (by omega), nI_clamp (by omega), mt_lv hl hm1 hsg hp]
        rw [if_pos hb']
        by_cases q : lv r p = 1048576
        · rw [if_pos ((mv_m1 hle).mpr q), bd_s, nI_add]
          exact k2 _ _ ⟨Or.inr hb', (by rw [if_pos hb', ec, if_pos q]; rfl), f1⟩
        · rw [if_neg (fun e => q ((mv_m1 hle).mp e)), bd_s, nI_add, nI_add]
          exact k2 _ _ ⟨Or.inr hb', (by rw [if_pos hb', ec, if_neg q]; rfl), f1⟩
    · rintro rec2 x y ⟨g0, rfl, g2⟩
      have hx := nm_fr hN g2 (by omega) (by omega)
      rw [hx.pl, if_neg (nI_nlt (Nat.le_refl _) (by omega))]
      exact kk _ _ ⟨rfl, g2⟩
  · rintro rec x y ⟨rfl, e2⟩
    rw [e_power hk, calP_s, if_neg (nI_nlt (Nat.le_refl _) (by omega))]
    exact ok_some ⟨rfl, e2⟩
end ESC
