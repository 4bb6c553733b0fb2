section EXP
variable {σ : St} {n c k : Nat} {O : Nat → Nat} {L : List (Nat × Nat × Nat)}
theorem nc_fu {s : St} (h : NC σ n O c) (f : Fu σ s) : NC s n O c := nc_fr h f.1 (fun x hx => by omega)
theorem st_fu {s : St} (h : ST σ) (f : Fu σ s) : ST s := st_fr h f.1 (fun x h1 h2 => by omega)
theorem e_step (hk : k < 2) (hN : NC σ n O c) (hT : ST σ) (h4 : σ.1 14 4 = nI k) (hg : GL n k L) (h : CR σ L) {i t : Nat} {y : Nat × Nat × Nat} (hy : L[i]? = some y) (ht : t < 8 ^ (k + 1)) (hs : scB O k (y.1 / 256) t = true) : Ok (f_X8_step σ (nI i) (nI t)) (fun q => CR q.2 (mtL L (nky O k t y.1) (i + 1) (y.2.2 + 64)) ∧ Fu σ q.2) := by
  have hlen := gl_len hk hg
  have hi := get_lt hy
  have hyk := vk_lt hk (hg.vk y (mem_get.mpr ⟨i, hy⟩)).1
  obtain ⟨v1, v2⟩ := nky_vk hN.np hk ht hs
  unfold f_X8_step
  rw [h4, nI_clamp (by omega), ckN_s _ (by omega), bd_s, e_placesOf hT (by omega) ht, calP_s, y_ck _ (by omega) (by omega), nI_clamp (by omega), (h.q i y hy).1, q_256, pk_rem (by omega) (by omega) (by omega), e_leftBehind hN (Nat.mod_lt _ (by omega)), calP_s]
  refine ok_cal (P := fun q => CR q.2 (mtL L (nky O k t y.1) (i + 1) (y.2.2 + 64)) ∧ Fu σ q.2) ?_ (fun u s hs => ok_some hs)
  exact e_meet (p := i + 1) hk hg h (nd_lt (ah_lt8 hN.np _)) v1 v2
theorem e_expand (hk : k < 2) (hN : NC σ n O c) (hT : ST σ) (h4 : σ.1 14 4 = nI k) (hg : GL n k L) (h : CR σ L) {i : Nat} {y : Nat × Nat × Nat} (hy : L[i]? = some y) : Ok (f_X8_expand σ (nI i)) (fun q => CR q.2 (exL O k i y.1 y.2.2 L (8 ^ (k + 1))) ∧ Fu σ q.2) := by
  have hlen := gl_len hk hg
  have hi := get_lt hy
  have hv := hg.vk y (mem_get.mpr ⟨i, hy⟩)
  have hyk := vk_lt hk hv.1
  have ex := ex_gl hN.np hk hg hy
  have h8 := hN.np.h8
  unfold f_X8_expand
  rw [y_ck _ (by omega) (by omega), nI_clamp (by omega), (h.q i y hy).1, q_256, pk_div (by omega) (by omega) (by omega), bd_s, h4, nI_clamp (by omega), ckN_s _ (by omega), bd_s, q_0, e_figure hT (by omega) (by omega) (Nat.zero_le _), calP_s, e_outOf hN.z (Nat.lt_trans (fg_lt _ _ _) (by decide)), calP_s, ckN_s _ (by omega), bd_s]
  unfold f_X6_hunters
  rw [(hT k (by omega)).1, calP_s, q_1, q_8]
  rcases (show k = 0 ∨ k = 1 by omega) with rfl | rfl
  · have hr : y.1 / 256 < 8 := hv.2.1
    have e0 : fg 0 0 (y.1 / 256) = y.1 / 256 := by unfold fg; simp; omega
    rw [if_pos rfl, e0]
    refine lo2_for (fun a s => CR s (exL O 0 i y.1 y.2.2 L a) ∧ Fu σ s) 8 ?_ ?_ FU 0 _ (by omega) (fu_lt (by omega)) ⟨h, fu_refl⟩
    · rintro rec a s ha ⟨j1, j2⟩ kk
      obtain ⟨g1, g2⟩ := ex a (by omega)
      rw [exL] at kk
      have hsc : scB O 0 (y.1 / 256) a = (O (y.1 / 256)).testBit a := rfl
      rw [hsc] at kk
      rw [if_pos (nI_lt ha (by omega)), e_has (Nat.lt_trans (hN.np.lt8 _) (by decide)) (by omega), calP_s, nI_add]
      cases hb : (O (y.1 / 256)).testBit a with
      | false =>
        rw [if_pos b_f0]
        exact kk _ (by rw [hb, if_neg (by decide)]; exact ⟨j1, j2⟩)
      | true =>
        rw [if_neg b_t0]
        refine ok_cal (e_step (by omega) (nc_fu hN j2) (st_fu hT j2) (by rw [j2.2 4 (by omega) (by omega)]; exact h4) g1 j1 g2 ha (hsc.trans hb)) ?_
        rintro u s2 ⟨k1, k2⟩
        exact kk _ (by rw [hb, if_pos rfl]; exact ⟨k1, fu_trans j2 k2⟩)
    · rintro rec s j
      rw [if_neg (nI_nlt (Nat.le_refl _) (by omega))]
      exact ok_some j
  · have hr : y.1 / 256 < 64 := hv.2.1
    have e0 : fg 1 0 (y.1 / 256) = y.1 / 256 / 8 := by unfold fg; simp; omega
    have e1 : fg 1 1 (y.1 / 256) = y.1 / 256 % 8 := by unfold fg; simp
    rw [if_neg (show ¬ nI (1 + 1) = nI 1 by decide), ckN_s _ (by omega), bd_s, e_figure hT (by omega) (by omega) (Nat.le_refl _), calP_s, e_outOf hN.z (Nat.lt_trans (fg_lt _ _ _) (by decide)), calP_s, e0, e1]
    have la := hN.np.lt8 (y.1 / 256 / 8)
    have lb := hN.np.lt8 (y.1 / 256 % 8)
    refine lo2_for (fun a s => CR s (exL O 1 i y.1 y.2.2 L (8 * a)) ∧ Fu σ s) 8 ?_ ?_ FU 0 _ (by omega) (fu_lt (by omega)) ⟨h, fu_refl⟩
    · rintro rec a s ha ⟨j1, j2⟩ kk
      have ho : (if nI ((O (y.1 / 256 / 8)).testBit a).toNat = nI 0 then nI 0 else nI (O (y.1 / 256 % 8))) = nI (if (O (y.1 / 256 / 8)).testBit a = true then O (y.1 / 256 % 8) else 0) := by
        cases (O (y.1 / 256 / 8)).testBit a <;> rfl
      have ho2 : (if nI ((O (y.1 / 256 % 8)).testBit a).toNat = nI 0 then nI 0 else nI (O (y.1 / 256 / 8))) = nI (if (O (y.1 / 256 % 8)).testBit a = true then O (y.1 / 256 / 8) else 0) := by
        cases (O (y.1 / 256 % 8)).testBit a <;> rfl
      rw [if_pos (nI_lt ha (by omega)), e_has (by omega) (by omega), calP_s, bd_s, e_has (by omega) (by omega), calP_s, bd_s, ho, ho2, z_or, bd_s, nI_add]
      have hlo : (if (O (y.1 / 256 / 8)).testBit a = true then O (y.1 / 256 % 8) else 0) ||| (if (O (y.1 / 256 % 8)).testBit a = true then O (y.1 / 256 / 8) else 0) < 256 := by
        refine or_lt (n := 8) ?_ ?_
        · split
          · exact lb
          · decide
        · split
          · exact la
          · decide
      have hbit : ∀ b, ((if (O (y.1 / 256 / 8)).testBit a = true then O (y.1 / 256 % 8) else 0) ||| (if (O (y.1 / 256 % 8)).testBit a = true then O (y.1 / 256 / 8) else 0)).testBit b = ((O (y.1 / 256 / 8)).testBit a && (O (y.1 / 256 % 8)).testBit b || (O (y.1 / 256 / 8)).testBit b && (O (y.1 / 256 % 8)).testBit a) := by
        intro b
        rw [Nat.testBit_or]
        cases (O (y.1 / 256 / 8)).testBit a <;> cases (O (y.1 / 256 % 8)).testBit a <;> simp
      have hsk : exL O 1 i y.1 y.2.2 L (8 * a + a) = exL O 1 i y.1 y.2.2 L (8 * a) := ex_skip a (fun x h1 h2 => by
        unfold scB
        rw [if_neg (by decide), decide_eq_false (by omega)]
        rfl)
      refine lo2_for (fun b s => CR s (exL O 1 i y.1 y.2.2 L (8 * a + b)) ∧ Fu σ s ∧ a ≤ b) 8 ?_ ?_ FU a _ (by omega) (fu_lt (by omega)) ⟨by rw [hsk]; exact j1, j2, Nat.le_refl _⟩
      · rintro rec2 b s hb ⟨l1, l2, l3⟩ k2
        obtain ⟨g1, g2⟩ := ex (8 * a + b) (by show 8 * a + b ≤ 64; omega)
        have hsc : scB O 1 (y.1 / 256) (8 * a + b) = ((O (y.1 / 256 / 8)).testBit a && (O (y.1 / 256 % 8)).testBit b || (O (y.1 / 256 / 8)).testBit b && (O (y.1 / 256 % 8)).testBit a) := by
          unfold scB
          rw [if_neg (by decide), show (8 * a + b) / 8 = a by omega, show (8 * a + b) % 8 = b by omega, decide_eq_true l3, Bool.true_and]
        rw [← Nat.add_assoc, exL, hsc] at k2
        rw [if_pos (nI_lt hb (by omega)), e_has (by omega) (by omega), calP_s, hbit, nI_add]
        cases hq : ((O (y.1 / 256 / 8)).testBit a && (O (y.1 / 256 % 8)).testBit b || (O (y.1 / 256 / 8)).testBit b && (O (y.1 / 256 % 8)).testBit a) with
        | false =>
          rw [if_pos b_f0]
          exact k2 _ (by rw [hq, if_neg (by decide)]; exact ⟨l1, l2, by omega⟩)
        | true =>
          rw [if_neg b_t0, q_3, z_shl (by omega) (by omega), z_or, show a * 2 ^ 3 = a * 8 from rfl, or_add hb]
          refine ok_cal (e_step (by omega) (nc_fu hN l2) (st_fu hT l2) (by rw [l2.2 4 (by omega) (by omega)]; exact h4) g1 l1 g2 (by show 8 * a + b < 64; omega) (hsc.trans hq)) ?_
          rintro u s2 ⟨m1, m2⟩
          exact k2 _ (by rw [hq, if_pos rfl]; exact ⟨m1, fu_trans l2 m2, by omega⟩)
      · rintro rec2 s ⟨l1, l2, l3⟩
        rw [if_neg (nI_nlt (Nat.le_refl _) (by omega))]
        exact kk _ ⟨by rw [Nat.mul_succ]; exact l1, l2⟩
    · rintro rec s j
      rw [if_neg (nI_nlt (Nat.le_refl _) (by omega))]
      exact ok_some j
theorem e_parent (hk : k < 2) (hg : GL n k L) (h : CR σ L) {i : Nat} {y : Nat × Nat × Nat} (hy : L[i]? = some y) : f_X8_parentOf σ (nI i) = some (dI y.2.1) := by
  have hlen := gl_len hk hg
  have hi := get_lt hy
  unfold f_X8_parentOf
  rw [q_0, if_neg (nI_nlt (Nat.zero_le _) (by omega)), q_2816, if_pos (nI_lt (by omega) (by omega)), y_ck _ (by omega) (by omega), nI_clamp (by omega), (h.q i y hy).2]
theorem e_depth (hk : k < 2) (hg : GL n k L) (h : CR σ L) {a : Nat} {x : Nat × Nat × Nat} (hx : L[a]? = some x) : f_X8_depthOf σ (nI a) = some (nI (x.2.2 / 64)) := by
  have hlen := gl_len hk hg
  have ha := get_lt hx
  unfold f_X8_depthOf
  rw [e_parent hk hg h hx, calP_s, q_mm, q_0, q_1]
  refine ok_eq (lo2_ok (fun d u => ∃ dd b y, d = nI dd ∧ L[b]? = some y ∧ u = dI y.2.1 ∧ dd + b ≤ a ∧ x.2.2 = y.2.2 + 64 * dd) (fun d _ => 3000 - d.toNatClampNeg) ?_ FU _ _ ⟨0, a, x, rfl, hx, rfl, by omega, by omega⟩ (fu_lt (by omega)))
  rintro rec d u ⟨dd, b, y, rfl, hb, rfl, h1, h2⟩ kk
  rcases hg.par b y hb with ⟨p0, p1, p2⟩ | ⟨p, z, p1, p2, p3, p4⟩
  · rw [p0, if_pos (show dI 0 = M1 from rfl)]
    exact ok_some (by congr 1; omega)
  · rw [p1, show dI (p + 1) = nI p from rfl, if_neg (nI_mm (by omega)), q_2816, if_pos (nI_lt (by omega) (by omega)), e_parent hk hg h p3, calP_s, nI_add]
    refine kk _ _ ⟨dd + 1, p, z, rfl, p3, rfl, by omega, by omega⟩ ?_
    show 3000 - (nI (dd + 1)).toNatClampNeg < 3000 - (nI dd).toNatClampNeg
    rw [nI_clamp (by omega), nI_clamp (by omega)]
    omega
def AN (L : List (Nat × Nat × Nat)) : Nat → Nat → Nat → Prop
  | 0, e, b => b = e
  | j + 1, e, b => ∃ d y, AN L j e d ∧ L[d]? = some y ∧ y.2.1 = b + 1
theorem an_fun {j e : Nat} : ∀ {b b' : Nat}, AN L j e b → AN L j e b' → b = b' := by
  induction j with
  | zero => rintro b b' rfl rfl; rfl
  | succ j ih =>
    rintro b b' ⟨d, y, h1, h2, h3⟩ ⟨d', y', g1, g2, g3⟩
    obtain rfl := ih h1 g1
    rw [h2] at g2
    obtain rfl := Option.some.inj g2
    omega
/-- the i-th setting of the row that ends at e -/
def IA (L : List (Nat × Nat × Nat)) (e i : Nat) (x : Int32) : Prop := ∃ z, L[e]? = some z ∧ ((z.2.2 / 64 < i ∧ x = M1) ∨ (i ≤ z.2.2 / 64 ∧ ∃ b y, AN L (z.2.2 / 64 - i) e b ∧ L[b]? = some y ∧ x = nI (y.1 / 256)))
theorem ia_fun {e i : Nat} {x x' : Int32} (h : IA L e i x) (g : IA L e i x') : x = x' := by
  obtain ⟨z, h1, h2⟩ := h
  obtain ⟨z', g1, g2⟩ := g
  rw [h1] at g1
  obtain rfl := Option.some.inj g1
  rcases h2 with ⟨a, b⟩ | ⟨a, b, y, c1, c2, c3⟩ <;> rcases g2 with ⟨a', b'⟩ | ⟨a', b', y', d1, d2, d3⟩
  · rw [b, b']
  · omega
  · omega
  · obtain rfl := an_fun c1 d1
    rw [c2] at d2
    obtain rfl := Option.some.inj d2
    rw [c3, d3]
theorem e_settingAt (hk : k < 2) (hg : GL n k L) (h : CR σ L) {e : Nat} {z : Nat × Nat × Nat} (he : L[e]? = some z) (h6 : σ.1 14 6 = nI e) (h7 : σ.1 14 7 = nI (z.2.2 / 64)) (hz : z.2.2 / 64 < 10000) {i : Nat} (hi : i < 2 ^ 31) : Ok (f_X8_settingAt σ (nI i)) (fun x => IA L e i x) := by
  have hlen := gl_len hk hg
  unfold f_X8_settingAt
  rw [q_0, if_neg (nI_nlt (Nat.zero_le _) hi), h7, q_mm]
  by_cases g : z.2.2 / 64 < i
  · rw [if_pos (nI_lt g hi)]
    exact ok_some ⟨z, he, Or.inl ⟨g, rfl⟩⟩
  · rw [if_neg (nI_nlt (by omega) (by omega)), h6, bd_s, bd_s]
    refine lo2_ok (fun a d => ∃ aa dd y, a = nI aa ∧ d = nI dd ∧ i ≤ dd ∧ dd ≤ z.2.2 / 64 ∧ AN L (z.2.2 / 64 - dd) e aa ∧ L[aa]? = some y ∧ y.2.2 / 64 = dd) (fun _ d => d.toNatClampNeg) ?_ FU _ _ ⟨e, z.2.2 / 64, z, rfl, rfl, by omega, Nat.le_refl _, by rw [Nat.sub_self]; rfl, he, rfl⟩ (fu_lt (by rw [nI_clamp (by omega)]; omega))
    rintro rec a d ⟨aa, dd, y, rfl, rfl, h1, h2, h3, h4, h5⟩ kk
    have hal := get_lt h4
    have hyk := vk_lt hk (hg.vk y (mem_get.mpr ⟨aa, h4⟩)).1
    by_cases q : i < dd
    · rw [if_pos (nI_lt q (by omega)), e_parent hk hg h h4, calP_s]
      rcases hg.par aa y h4 with ⟨p0, p1, p2⟩ | ⟨p, y', p1, p2, p3, p4⟩
      · omega
      · rw [p1, y_dn, show dI dd = nI (dd - 1) by unfold dI; rw [if_neg (by omega)], show dI (p + 1) = nI p from rfl]
        refine kk _ _ ⟨p, dd - 1, y', rfl, rfl, by omega, by omega, ?_, p3, by omega⟩ ?_
        · rw [show z.2.2 / 64 - (dd - 1) = (z.2.2 / 64 - dd) + 1 by omega]
          exact ⟨aa, y, h3, h4, p1⟩
        · show (nI (dd - 1)).toNatClampNeg < (nI dd).toNatClampNeg
          rw [nI_clamp (by omega), nI_clamp (by omega)]; omega
    · rw [if_neg (nI_nlt (by omega) (by omega)), if_neg (nI_nlt (Nat.zero_le _) (by omega)), q_2816, if_pos (nI_lt (by omega) (by omega)), y_ck _ (by omega) (by omega), nI_clamp (by omega), (h.q aa y h4).1, q_256, pk_div (by omega) (by omega) (by omega)]
      exact ok_some ⟨z, he, Or.inr ⟨by omega, aa, y, by rw [show z.2.2 / 64 - i = z.2.2 / 64 - dd by omega]; exact h3, h4, rfl⟩⟩
end EXP
