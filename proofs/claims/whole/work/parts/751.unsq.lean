section UNSQ
variable {σ : St} {n c k : Nat} {O : Nat → Nat} {L : List (Nat × Nat × Nat)}
theorem m_lengthFound (hk : k < 2) (hg : GL n k L) (h : MR σ L) {e : Nat} {z : Nat × Nat × Nat} (he : L[e]? = some z) (hf : σ.1 100 27 = nI z.1) : f_X10_lengthFound σ = some (nI (z.2.2 / 64)) := by
  have hlen := gl_len hk hg
  have hel := get_lt he
  unfold f_X10_lengthFound
  rw [q_mm, q_0, q_1, hf, bd_s]
  refine ok_eq (lo2_ok (fun d u => ∃ dd b y, d = nI dd ∧ L[b]? = some y ∧ u = nI y.1 ∧ dd + b ≤ e ∧ z.2.2 = y.2.2 + 64 * dd) (fun d _ => 3000 - d.toNatClampNeg) ?_ FU _ _ ⟨0, e, z, rfl, he, rfl, by omega, by omega⟩ (fu_lt (by omega)))
  rintro rec d u ⟨dd, b, y, rfl, hb, rfl, h1, h2⟩ kk
  have hyk := vk_lt hk (hg.vk y (mem_get.mpr ⟨b, hb⟩)).1
  rw [y_ck _ hyk (by omega), nI_clamp (by omega)]
  rcases hg.par b y hb with ⟨p0, p1, p2⟩ | ⟨p, y', p1, p2, p3, p4⟩
  · rcases h.fr b y hb with ⟨-, a⟩ | ⟨p', y2, a1, a2, a3⟩
    · rw [a, if_pos rfl]
      exact ok_some (by congr 1; omega)
    · omega
  · rcases h.fr b y hb with ⟨a, -⟩ | ⟨p', y2, a1, a2, a3⟩
    · omega
    · have : p' = p := by omega
      subst this
      rw [p3] at a2
      obtain rfl := Option.some.inj a2
      have hyk2 := vk_lt hk (hg.vk y' (mem_get.mpr ⟨_, p3⟩)).1
      rw [a3, if_neg (nI_mm (by omega)), y_ck _ hyk (by omega), bd_s, nI_add]
      refine kk _ _ ⟨dd + 1, p', y', rfl, p3, rfl, by omega, by omega⟩ ?_
      show 3000 - (nI (dd + 1)).toNatClampNeg < 3000 - (nI dd).toNatClampNeg
      rw [nI_clamp (by omega), nI_clamp (by omega)]
      omega
theorem m_rowLoop (hk : k < 2) (hg : GL n k L) (h : MR σ L) {e : Nat} {z : Nat × Nat × Nat} (he : L[e]? = some z) (hz : z.2.2 / 64 < 10000) {i : Nat} (hi : i ≤ z.2.2 / 64) : Ok (lo2 FU (fun rec10 (x8 : Int32) (x9 : Int32) =>
                            (if nI i < x9 then
                              ck x8 16384 <|
                                bd (σ.1 110 x8.toNatClampNeg) fun x12 =>
                                  rec10 x12 (x9 + M1)
                               else
                              some ((x8 / nI 256), σ))) (nI z.1) (nI (z.2.2 / 64))) (fun q => IA L e i q.1 ∧ q.2 = σ) := by
  have hlen := gl_len hk hg
  refine lo2_ok (fun a d => ∃ aa dd y, a = nI y.1 ∧ d = nI dd ∧ i ≤ dd ∧ dd ≤ z.2.2 / 64 ∧ AN L (z.2.2 / 64 - dd) e aa ∧ L[aa]? = some y ∧ y.2.2 / 64 = dd) (fun _ d => d.toNatClampNeg) ?_ FU _ _ ⟨e, z.2.2 / 64, z, rfl, rfl, by omega, Nat.le_refl _, by rw [Nat.sub_self]; rfl, he, rfl⟩ (fu_lt (by rw [nI_clamp (by omega)]; omega))
  rintro rec a d ⟨aa, dd, y, rfl, rfl, h1, h2, h3, h4, h5⟩ kk
  have hyk := vk_lt hk (hg.vk y (mem_get.mpr ⟨aa, h4⟩)).1
  by_cases q : i < dd
  · rw [if_pos (nI_lt q (by omega)), y_ck _ hyk (by omega), nI_clamp (by omega), bd_s]
    rcases hg.par aa y h4 with ⟨p0, p1, p2⟩ | ⟨p, y', p1, p2, p3, p4⟩
    · omega
    · rcases h.fr aa y h4 with ⟨b, -⟩ | ⟨p', y2, b1, b2, b3⟩
      · omega
      · have : p' = p := by omega
        subst this
        rw [p3] at b2
        obtain rfl := Option.some.inj b2
        rw [b3, y_dn, show dI dd = nI (dd - 1) by unfold dI; rw [if_neg (by omega)]]
        refine kk _ _ ⟨p', dd - 1, y', rfl, rfl, by omega, by omega, ?_, p3, by omega⟩ ?_
        · rw [show z.2.2 / 64 - (dd - 1) = (z.2.2 / 64 - dd) + 1 by omega]
          exact ⟨aa, y, h3, h4, p1⟩
        · show (nI (dd - 1)).toNatClampNeg < (nI dd).toNatClampNeg
          rw [nI_clamp (by omega), nI_clamp (by omega)]; omega
  · rw [if_neg (nI_nlt (by omega) (by omega)), pk_div (by omega) (by omega) (by omega)]
    exact ok_some ⟨⟨z, he, Or.inr ⟨hi, aa, y, by rw [show z.2.2 / 64 - i = z.2.2 / 64 - dd by omega]; exact h3, h4, rfl⟩⟩, rfl⟩
/-- the answer to clear: of a list, to a number told -/
def CA (L : List (Nat × Nat × Nat)) (v x : Int32) : Prop := (endB L = false ∧ x = M1) ∨ (endB L = true ∧ ((v = M1 ∧ x = nI (lw L / 64)) ∨ ∃ i, i < 2 ^ 31 ∧ v = nI i ∧ IA L (L.length - 1) i x))
theorem ca_fun {v x y : Int32} (h : CA L v x) (g : CA L v y) : x = y := by
  rcases h with ⟨e, h⟩ | ⟨e, h⟩ <;> rcases g with ⟨d, g⟩ | ⟨d, g⟩
  · rw [h, g]
  · rw [e] at d; cases d
  · rw [e] at d; cases d
  · rcases h with ⟨h1, h2⟩ | ⟨i, h1, h2, h3⟩ <;> rcases g with ⟨g1, g2⟩ | ⟨j, g1, g2, g3⟩
    · rw [h2, g2]
    · rw [h1] at g2; exact absurd g2.symm (nI_mm g1)
    · rw [g1] at h2; exact absurd h2.symm (nI_mm h1)
    · have : i = j := (nI_eq h1 g1).mp (h2.symm.trans g2)
      subst this
      exact ia_fun h3 g3
theorem bl_gl (h : NP n O) (hk : k < 2) {P : Nat → Bool} (hP : ∀ r, r < 8 ^ (k + 1) → P r = true → Sg n (k + 1) r) : GL n k (BL n O k P) := by
  rcases bl_ok h hk hP with h1 | h1
  · exact h1.1
  · exact h1.1
theorem lw_last {z : Nat × Nat × Nat} (h : L[L.length - 1]? = some z) : lw L = z.2.2 := by unfold lw; rw [h]
theorem lk_last {z : Nat × Nat × Nat} (h : L[L.length - 1]? = some z) : lk L = z.1 := by unfold lk; rw [h]
/-- what the class answers, once it has searched -/
theorem e_cl (hk : k < 2) (hN : NP n O) {w : Int32} (hw : w = M1 ∨ ∃ r, Sg n (k + 1) r ∧ r < 2 ^ 31 ∧ w = nI r) (hu : UT σ n O k w) {v : Int32} (hv : v = M1 ∨ ∃ i, i < 2 ^ 31 ∧ v = nI i) : Ok (if v = M1 then calP (f_X8_length σ) fun r7 => some (r7, σ) else calP (f_X8_settingAt σ v) fun r8 => some (r8, σ)) (fun q => CA (BL n O k (PP n k w)) v q.1 ∧ q.2 = σ) := by
  have h64 := p82 k hk
  have hg := bl_gl hN hk (P := PP n k w) (fun r hr => pp_sg hw r (by omega))
  obtain ⟨hc, h7⟩ := hu
  unfold f_X8_length
  cases he : endB (BL n O k (PP n k w)) with
  | false =>
    rw [he, if_neg (show ¬ false = true by decide)] at h7
    rcases hv with rfl | ⟨i, hi, rfl⟩
    · rw [if_pos rfl, calP_s, h7]
      exact ok_some ⟨Or.inl ⟨he, rfl⟩, rfl⟩
    · rw [if_neg (nI_mm hi)]
      unfold f_X8_settingAt
      rw [q_mm, q_0, if_neg (nI_nlt (Nat.zero_le _) hi), h7, if_pos (show M1 < nI i from m1_lt hi), calP_s]
      exact ok_some ⟨Or.inl ⟨he, rfl⟩, rfl⟩
  | true =>
    obtain ⟨z, z1, z2, z3⟩ := end_last he
    have hz := gl_w hg _ _ (Nat.le_refl _) z z1
    have hlen := gl_len hk hg
    rw [he, if_pos rfl, lw_last z1] at h7
    rcases hv with rfl | ⟨i, hi, rfl⟩
    · rw [if_pos rfl, calP_s, h7]
      exact ok_some ⟨Or.inr ⟨he, Or.inl ⟨rfl, by rw [lw_last z1]⟩⟩, rfl⟩
    · rw [if_neg (nI_mm hi)]
      refine ok_calP (e_settingAt hk hg hc z1 (by rw [hc.en, he, if_pos rfl]) h7 (by omega) hi) ?_
      intro x hx
      exact ok_some ⟨Or.inr ⟨he, Or.inr ⟨i, hi, rfl, hx⟩⟩, rfl⟩
/-- what the reference answers, once it has searched -/
theorem m_cl (hk : k < 2) (hN : NP n O) {w : Int32} (hw : w = M1 ∨ ∃ r, Sg n (k + 1) r ∧ r < 2 ^ 31 ∧ w = nI r) (hr : MR σ (BL n O k (PP n k w))) {v : Int32} (hv : v = M1 ∨ ∃ i, i < 2 ^ 31 ∧ v = nI i) : Ok (if (σ.1 100 27) = M1 then
                some (M1, σ)
                 else
                calP (f_X10_lengthFound σ) fun r5 =>
                  jn0 (fun jk6 =>
                    (if v = M1 then
                      jk6
                       else
                      (if r5 < v then
                        jk6
                         else
                        bd (σ.1 100 27) fun x7 =>
                          lo2 FU (fun rec10 (x8 : Int32) (x9 : Int32) =>
                            (if v < x9 then
                              ck x8 16384 <|
                                bd (σ.1 110 x8.toNatClampNeg) fun x12 =>
                                  rec10 x12 (x9 + M1)
                               else
                              some ((x8 / nI 256), σ))) x7 r5)))
                    (
                    (if v = M1 then
                        some (r5, σ)
                         else
                        some (M1, σ)))) (fun q => CA (BL n O k (PP n k w)) v q.1 ∧ q.2 = σ) := by
  have h64 := p82 k hk
  have hg := bl_gl hN hk (P := PP n k w) (fun r hr => pp_sg hw r (by omega))
  rw [hr.fd]
  cases he : endB (BL n O k (PP n k w)) with
  | false =>
    rw [if_neg (show ¬ false = true by decide), if_pos rfl]
    exact ok_some ⟨Or.inl ⟨he, rfl⟩, rfl⟩
  | true =>
    obtain ⟨z, z1, z2, z3⟩ := end_last he
    have hz := gl_w hg _ _ (Nat.le_refl _) z z1
    have hlen := gl_len hk hg
    have hzk := vk_lt hk (hg.vk z (mem_get.mpr ⟨_, z1⟩)).1
    have hf : σ.1 100 27 = nI z.1 := by rw [hr.fd, he, if_pos rfl, lk_last z1]
    rw [if_pos rfl, lk_last z1, if_neg (nI_mm (by omega)), m_lengthFound hk hg hr z1 hf, calP_s, jn0]
    rcases hv with rfl | ⟨i, hi, rfl⟩
    · rw [if_pos rfl, if_pos rfl]
      exact ok_some ⟨Or.inr ⟨he, Or.inl ⟨rfl, by rw [lw_last z1]⟩⟩, rfl⟩
    · rw [if_neg (nI_mm hi), if_neg (nI_mm hi)]
      by_cases g : z.2.2 / 64 < i
      · rw [if_pos (nI_lt g hi)]
        exact ok_some ⟨Or.inr ⟨he, Or.inr ⟨i, hi, rfl, z, z1, Or.inl ⟨g, rfl⟩⟩⟩, rfl⟩
      · rw [if_neg (nI_nlt (by omega) (by omega)), bd_s]
        refine ok_mono (m_rowLoop hk hg hr z1 (by omega) (by omega)) ?_
        rintro q ⟨q1, q2⟩
        exact ⟨Or.inr ⟨he, Or.inr ⟨i, hi, rfl, q1⟩⟩, q2⟩
/-- free: the least weight of all -/
def FW (n : Nat) (O : Nat → Nat) (k : Nat) (a b : Int32) : Prop := (a = M1 ∧ b = M1 ∧ ∀ t w q, RW n O k (sgB n (k + 1)) t w q → ¬ q % 256 = 0) ∨ ∃ W, a = nI (W % 64) ∧ b = nI (W / 64) ∧ W / 64 < 10000 ∧ (∃ t q, RW n O k (sgB n (k + 1)) t W q ∧ q % 256 = 0) ∧ ∀ t w q, RW n O k (sgB n (k + 1)) t w q → q % 256 = 0 → W ≤ w
theorem fw_fun {a b a' b' : Int32} (h : FW n O k a b) (g : FW n O k a' b') : a = a' ∧ b = b' := by
  rcases h with ⟨h1, h2, h3⟩ | ⟨W, h1, h2, h0, ⟨t, q, h3, h4⟩, h5⟩ <;> rcases g with ⟨g1, g2, g3⟩ | ⟨V, g1, g2, g0, ⟨t', q', g3, g4⟩, g5⟩
  · rw [h1, h2, g1, g2]; exact ⟨rfl, rfl⟩
  · exact absurd g4 (h3 _ _ _ g3)
  · exact absurd h4 (g3 _ _ _ h3)
  · have e1 := h5 _ _ _ g3 g4
    have e2 := g5 _ _ _ h3 h4
    have : W = V := by omega
    subst this
    rw [h1, h2, g1, g2]; exact ⟨rfl, rfl⟩
theorem an_ex (hg : GL n k L) {e : Nat} {z : Nat × Nat × Nat} (he : L[e]? = some z) : ∀ j, j ≤ z.2.2 / 64 → ∃ b y, AN L j e b ∧ L[b]? = some y ∧ z.2.2 = y.2.2 + 64 * j := by
  intro j
  induction j with
  | zero => intro _; exact ⟨e, z, rfl, he, by omega⟩
  | succ j ih =>
    intro hj
    obtain ⟨b, y, h1, h2, h3⟩ := ih (by omega)
    rcases hg.par b y h2 with ⟨p0, p1, p2⟩ | ⟨p, y', p1, p2, p3, p4⟩
    · omega
    · exact ⟨p, y', ⟨b, y, h1, h2, p1⟩, p3, by omega⟩
theorem e_fr (hk : k < 2) (hN : NP n O) (hu : UT σ n O k M1) : ∃ a b, f_X8_settingAt σ (nI 0) = some a ∧ σ.1 14 7 = b ∧ FW n O k a b := by
  have h64 := p82 k hk
  have hP : ∀ r, r < 8 ^ (k + 1) → PP n k M1 r = true → Sg n (k + 1) r := fun r hr => pp_sg (Or.inl rfl) r (by omega)
  have ePP : PP n k M1 = sgB n (k + 1) := by funext r; unfold PP; rw [if_pos rfl]
  have hg := bl_gl hN hk (P := PP n k M1) hP
  have hs := bl_ok hN hk hP
  obtain ⟨hc, h7⟩ := hu
  rcases hs with ⟨-, s2, s3⟩ | ⟨-, s2, z, s3, s4, ⟨t, s5⟩, s6⟩
  · rw [s2, if_neg (show ¬ false = true by decide)] at h7
    refine ⟨M1, M1, ?_, h7, Or.inl ⟨rfl, rfl, ?_⟩⟩
    · unfold f_X8_settingAt
      rw [q_mm, q_0, if_neg (nI_nlt (Nat.zero_le _) (by decide)), h7, if_pos (show M1 < nI 0 by decide)]
    · rw [← ePP]; exact s3
  · have hz := gl_w hg _ _ (Nat.le_refl _) z s3
    have hlen := gl_len hk hg
    rw [s2, if_pos rfl, lw_last s3] at h7
    have hsa := e_settingAt hk hg hc s3 (by rw [hc.en, s2, if_pos rfl]) h7 (by omega) (i := 0) (by decide)
    obtain ⟨a, ha, z', z1, hz2⟩ := hsa
    rw [s3] at z1
    obtain rfl := Option.some.inj z1
    refine ⟨a, _, ha, h7, Or.inr ⟨z.2.2, ?_, rfl, by omega, ⟨t, z.1, by rw [← ePP]; exact s5, s4⟩, by rw [← ePP]; exact s6⟩⟩
    rcases hz2 with ⟨q, -⟩ | ⟨q, b, y, c1, c2, c3⟩
    · omega
    · obtain ⟨b', y', d1, d2, d3⟩ := an_ex hg s3 (z.2.2 / 64 - 0) (by omega)
      obtain rfl := an_fun c1 d1
      rw [c2] at d2
      obtain rfl := Option.some.inj d2
      rw [c3]
      rcases hg.par b y c2 with ⟨p0, p1, p2⟩ | ⟨p, y', p1, p2, p3, p4⟩
      · congr 1; omega
      · omega
end UNSQ
