section FREE
variable {σ : St} {n c k : Nat} {O : Nat → Nat}
theorem pp_nI {h r : Nat} (hh : h < 2 ^ 31) (hr : r < 2 ^ 31) : PP n k (nI h) r = decide (r = h) := by
  unfold PP
  rw [if_neg (nI_mm hh), decide_eq_decide]
  exact nI_eq hr hh
theorem rw_to (hk : k < 2) : ∀ t w q, RW n O k (sgB n (k + 1)) t w q → ∃ h, Sg n (k + 1) h ∧ RW n O k (PP n k (nI h)) t w q := by
  have h64 := p82 k hk
  intro t
  induction t with
  | zero =>
    rintro w q ⟨r, h1, h2, h3, h4⟩
    exact ⟨r, sgB_iff.mp h2, r, h1, by rw [pp_nI (by omega) (by omega)]; exact decide_eq_true rfl, h3, h4⟩
  | succ t ih =>
    rintro w q ⟨w0, q0, h1, h2, h3⟩
    obtain ⟨h, a, b⟩ := ih w0 q0 h1
    exact ⟨h, a, w0, q0, b, h2, h3⟩
theorem rw_from (hk : k < 2) {h : Nat} (hh : Sg n (k + 1) h) : ∀ t w q, RW n O k (PP n k (nI h)) t w q → RW n O k (sgB n (k + 1)) t w q := by
  have h64 := p82 k hk
  have hh1 := hh.1.1
  intro t
  induction t with
  | zero =>
    rintro w q ⟨r, h1, h2, h3, h4⟩
    rw [pp_nI (by omega) (by omega)] at h2
    have := of_decide_eq_true h2
    exact ⟨r, h1, by rw [this]; exact sgB_iff.mpr hh, h3, h4⟩
  | succ t ih =>
    rintro w q ⟨w0, q0, h1, h2, h3⟩
    exact ⟨w0, q0, ih w0 q0 h1, h2, h3⟩
theorem bl_one (hN : NP n O) (hk : k < 2) {h : Nat} (hh : Sg n (k + 1) h) : GL n k (BL n O k (PP n k (nI h))) ∧ (endB (BL n O k (PP n k (nI h))) = false → ∀ t w q, RW n O k (PP n k (nI h)) t w q → ¬ q % 256 = 0) ∧ (endB (BL n O k (PP n k (nI h))) = true → (∃ t q, RW n O k (PP n k (nI h)) t (lw (BL n O k (PP n k (nI h)))) q ∧ q % 256 = 0) ∧ lw (BL n O k (PP n k (nI h))) % 64 = h ∧ lw (BL n O k (PP n k (nI h))) / 64 < 10000 ∧ ∀ t w q, RW n O k (PP n k (nI h)) t w q → q % 256 = 0 → lw (BL n O k (PP n k (nI h))) ≤ w) := by
  have h64 := p82 k hk
  have hh1 := hh.1.1
  have hP : ∀ r, r < 8 ^ (k + 1) → PP n k (nI h) r = true → Sg n (k + 1) r := fun r hr => pp_sg (Or.inr ⟨h, hh, by omega, rfl⟩) r (by omega)
  have hg := bl_gl hN hk hP
  rcases bl_ok hN hk hP with ⟨-, s2, s3⟩ | ⟨-, s2, z, s3, s4, ⟨t, s5⟩, s6⟩
  · exact ⟨hg, fun _ => s3, fun e => by rw [s2] at e; cases e⟩
  · refine ⟨hg, fun e => (by rw [s2] at e; cases e), fun _ => ?_⟩
    have hz := gl_w hg _ _ (Nat.le_refl _) z s3
    have hlen := gl_len hk hg
    rw [lw_last s3]
    have hw := rw_w hk _ _ _ s5
    have h2 := hw.2.1
    rw [pp_nI (by omega) (by omega)] at h2
    exact ⟨⟨t, z.1, s5, s4⟩, of_decide_eq_true h2, by omega, s6⟩
def FI (n : Nat) (O : Nat → Nat) (k m : Nat) (a b : Int32) : Prop := (a = M1 ∧ b = M1 ∧ ∀ h, h < m → Sg n (k + 1) h → endB (BL n O k (PP n k (nI h))) = false) ∨ ∃ r st, r < m ∧ Sg n (k + 1) r ∧ endB (BL n O k (PP n k (nI r))) = true ∧ lw (BL n O k (PP n k (nI r))) / 64 = st ∧ a = nI r ∧ b = nI st ∧ ∀ h, h < m → Sg n (k + 1) h → endB (BL n O k (PP n k (nI h))) = true → st < lw (BL n O k (PP n k (nI h))) / 64 ∨ (st = lw (BL n O k (PP n k (nI h))) / 64 ∧ r ≤ h)
theorem fi_fw (hN : NP n O) (hk : k < 2) {a b : Int32} (h : FI n O k (8 ^ (k + 1)) a b) : FW n O k a b := by
  rcases h with ⟨rfl, rfl, h⟩ | ⟨r, st, h1, h2, h3, h4, rfl, rfl, h5⟩
  · refine Or.inl ⟨rfl, rfl, fun t w q hw => ?_⟩
    obtain ⟨x, x1, x2⟩ := rw_to hk t w q hw
    exact (bl_one hN hk x1).2.1 (h x x1.1.1 x1) t w q x2
  · obtain ⟨⟨t, q, a1, a2⟩, a3, a4, a5⟩ := (bl_one hN hk h2).2.2 h3
    refine Or.inr ⟨lw (BL n O k (PP n k (nI r))), by rw [a3], by rw [h4], a4, ⟨t, q, rw_from hk h2 _ _ _ a1, a2⟩, fun t' w' q' hw hq => ?_⟩
    obtain ⟨x, x1, x2⟩ := rw_to hk t' w' q' hw
    obtain ⟨y1, y2, y3⟩ := bl_one hN hk x1
    cases he : endB (BL n O k (PP n k (nI x))) with
    | false => exact absurd hq (y2 he t' w' q' x2)
    | true =>
      obtain ⟨-, b3, b4, b5⟩ := y3 he
      have c1 := b5 t' w' q' x2 hq
      have c2 := h5 x x1.1.1 x1 he
      omega
def frP (c : Nat) : Prop := c = 108 ∨ c = 110 ∨ c = 111 ∨ c = 112 ∨ c = 113 ∨ c = 114
def FK (σ : St) (s : St) (j : Nat) : Prop := (Fm frP (fun x => x = 27) σ s) ∧ (∀ i, i ≠ j → s.1 112 i = σ.1 112 i) ∧ (∀ i, i ≠ j → s.1 113 i = σ.1 113 i) ∧ (∀ i, i ≠ j → s.1 114 i = σ.1 114 i)
theorem FK.f {σ : St} {s : St} {j : Nat} (h : FK σ s j) : Fm frP (fun x => x = 27) σ s := h.1
theorem FK.o2 {σ : St} {s : St} {j : Nat} (h : FK σ s j) : ∀ i, i ≠ j → s.1 112 i = σ.1 112 i := h.2.1
theorem FK.o3 {σ : St} {s : St} {j : Nat} (h : FK σ s j) : ∀ i, i ≠ j → s.1 113 i = σ.1 113 i := h.2.2.1
theorem FK.o4 {σ : St} {s : St} {j : Nat} (h : FK σ s j) : ∀ i, i ≠ j → s.1 114 i = σ.1 114 i := h.2.2.2
theorem fk_fm {s t : St} {j : Nat} (h : FK σ s j) (g : Fm fcP (fun x => x = 27) s t) : FK σ t j := by
  have n2 : ∀ c, c = 112 ∨ c = 113 ∨ c = 114 → t.1 c = s.1 c := fun c hc => g.1.1 c (by unfold fcP; omega)
  refine ⟨fm_trans h.f (fm_mono g (fun c hc => by unfold fcP at hc; unfold frP; omega) (fun c hc => hc)), fun i hi => ?_, fun i hi => ?_, fun i hi => ?_⟩
  · rw [n2 112 (by omega)]; exact h.o2 i hi
  · rw [n2 113 (by omega)]; exact h.o3 i hi
  · rw [n2 114 (by omega)]; exact h.o4 i hi
theorem m_free (hN : NM σ n O) (hk : k < 2) (hc : σ.1 112 (k + 1) = nI 0 ∨ (σ.1 112 (k + 1) = nI 1 ∧ FW n O k (σ.1 113 (k + 1)) (σ.1 114 (k + 1)))) {b : Nat} (hb : b < 2) : Ok (f_X10_free σ (nI (k + 1)) (nI b)) (fun q => (∃ x y, FW n O k x y ∧ q.1 = if b = 0 then x else y) ∧ (q.2.1 112 (k + 1) = nI 1 ∧ FW n O k (q.2.1 113 (k + 1)) (q.2.1 114 (k + 1))) ∧ FK σ q.2 (k + 1)) := by
  have h64 := p82 k hk
  have hin : ∀ s, f_X10_in s (nI (k + 1)) (nI 1) (nI 2) = some (nI 1) := fun s => by
    rcases (show k = 0 ∨ k = 1 by omega) with rfl | rfl <;> rfl
  have hin2 : ∀ s, f_X10_in s (nI b) (nI 0) (nI 1) = some (nI 1) := fun s => by
    rcases (show b = 0 ∨ b = 1 by omega) with rfl | rfl <;> rfl
  unfold f_X10_free
  rw [q_mm, q_0, q_1, q_2, hin, calP_s, if_neg b_10, hin2, calP_s, if_neg b_10, y_ck _ (by omega) (by omega), nI_clamp (by omega), jn1]
  dsimp only
  have fin : ∀ s, FW n O k (s.1 113 (k + 1)) (s.1 114 (k + 1)) → s.1 112 (k + 1) = nI 1 → FK σ s (k + 1) → Ok (if nI b = nI 0 then ck (nI (k + 1)) 3 <| some ((s.1 113 (k + 1)), s) else ck (nI (k + 1)) 3 <| some ((s.1 114 (k + 1)), s)) (fun q => (∃ x y, FW n O k x y ∧ q.1 = if b = 0 then x else y) ∧ (q.2.1 112 (k + 1) = nI 1 ∧ FW n O k (q.2.1 113 (k + 1)) (q.2.1 114 (k + 1))) ∧ FK σ q.2 (k + 1)) := by
    intro s h1 h2 h3
    rcases (show b = 0 ∨ b = 1 by omega) with rfl | rfl
    · rw [if_pos rfl, y_ck _ (by omega) (by omega)]
      exact ok_some ⟨⟨_, _, h1, by rw [if_pos rfl]⟩, ⟨h2, h1⟩, h3⟩
    · rw [if_neg b_10, y_ck _ (by omega) (by omega)]
      exact ok_some ⟨⟨_, _, h1, by rw [if_neg (by decide)]⟩, ⟨h2, h1⟩, h3⟩
  rcases hc with hc | ⟨hc, hw⟩
  · rw [hc, if_pos rfl, y_ck _ (by omega) (by omega), bd_s, y_ck _ (by omega) (by omega), bd_s, y_ck _ (by omega) (by omega), bd_s]
    have k0 : FK σ (setI (setI (setI σ 112 (k + 1) (nI 1)) 113 (k + 1) M1) 114 (k + 1) M1) (k + 1) := by
      refine ⟨fm_setI (fm_setI (fm_setI fm_refl (by unfold frP; omega) (by decide)) (by unfold frP; omega) (by decide)) (by unfold frP; omega) (by decide), fun i hi => ?_, fun i hi => ?_, fun i hi => ?_⟩
      · rw [gsI_o (by decide), gsI_o (by decide), gsI_s, if_neg hi]
      · rw [gsI_o (by decide), gsI_s, if_neg hi, gsI_o (by decide)]
      · rw [gsI_s, if_neg hi, gsI_o (by decide), gsI_o (by decide)]
    refine lo2_for (fun m s => FI n O k m (s.1 113 (k + 1)) (s.1 114 (k + 1)) ∧ s.1 112 (k + 1) = nI 1 ∧ FK σ s (k + 1)) (8 ^ (k + 1)) ?_ ?_ FU 0 _ (Nat.zero_le _) (fu_lt (by omega)) ⟨?_, ?_, k0⟩
    · rintro rec h s hh ⟨i1, i2, i3⟩ kk
      have hNs : NM s n O := nm_fm hN i3.f (by omega) (by unfold frP; omega)
      rw [e_power (by omega), calP_s, if_pos (nI_lt hh (by omega)), nI_add]
      refine ok_cal (m_isSetting hNs (by omega) hh) ?_
      rintro r13 s14 ⟨rfl, f14⟩
      have F14 : Fm fcP (fun x => x = 27) s s14 := fm_fr (fr_mono f14 (fun c hc => Or.inl hc)) (by unfold fcP; omega)
      have k14 := fk_fm i3 F14
      have e113 : s14.1 113 = s.1 113 := f14.1 113 (by decide)
      have e114 : s14.1 114 = s.1 114 := f14.1 114 (by decide)
      have e112 : s14.1 112 = s.1 112 := f14.1 112 (by decide)
      cases hsg : (vrB n (k + 1) h && decide (srt (k + 1) h = h)) with
      | false =>
        rw [if_pos b_f0]
        refine kk _ ⟨?_, by rw [e112]; exact i2, k14⟩
        have hno : ¬ Sg n (k + 1) h := fun w => by rw [sg_iff.mpr w] at hsg; cases hsg
        rw [e113, e114]
        rcases i1 with ⟨a1, a2, a3⟩ | ⟨r, st, a1, a2, a3, a4, a5, a6, a7⟩
        · refine Or.inl ⟨a1, a2, fun x hx hs => ?_⟩
          rcases Nat.lt_succ_iff_lt_or_eq.mp hx with e | rfl
          · exact a3 x e hs
          · exact absurd hs hno
        · refine Or.inr ⟨r, st, by omega, a2, a3, a4, a5, a6, fun x hx hs => ?_⟩
          rcases Nat.lt_succ_iff_lt_or_eq.mp hx with e | rfl
          · exact a7 x e hs
          · exact absurd hs hno
      | true =>
        have hsg' := sg_iff.mp hsg
        have hN14 : NM s14 n O := nm_fm hNs F14 (by omega) (by unfold fcP; omega)
        rw [if_neg b_t0]
        refine ok_cal (m_findClear hN14 hk hsg') ?_
        rintro u s15 ⟨hR, F15⟩
        have k15 := fk_fm k14 F15
        have d113 : s15.1 113 = s.1 113 := (F15.1.1 113 (by unfold fcP; omega)).trans e113
        have d114 : s15.1 114 = s.1 114 := (F15.1.1 114 (by unfold fcP; omega)).trans e114
        have d112 : s15.1 112 = s.1 112 := (F15.1.1 112 (by unfold fcP; omega)).trans e112
        obtain ⟨hg, y2, y3⟩ := bl_one hN.np hk hsg'
        rw [jn1]
        dsimp only
        rw [hR.fd]
        cases he : endB (BL n O k (PP n k (nI h))) with
        | false =>
          rw [if_neg (show ¬ false = true by decide), if_pos rfl, if_pos rfl]
          refine kk _ ⟨?_, by rw [d112]; exact i2, k15⟩
          rw [d113, d114]
          rcases i1 with ⟨a1, a2, a3⟩ | ⟨r, st, a1, a2, a3, a4, a5, a6, a7⟩
          · refine Or.inl ⟨a1, a2, fun x hx hs => ?_⟩
            rcases Nat.lt_succ_iff_lt_or_eq.mp hx with e | rfl
            · exact a3 x e hs
            · exact he
          · refine Or.inr ⟨r, st, by omega, a2, a3, a4, a5, a6, fun x hx hs hb => ?_⟩
            rcases Nat.lt_succ_iff_lt_or_eq.mp hx with e | rfl
            · exact a7 x e hs hb
            · rw [he] at hb; cases hb
        | true =>
          obtain ⟨z, z1, z2, z3⟩ := end_last he
          obtain ⟨-, b3, b4, b5⟩ := y3 he
          have hzk := vk_lt hk (hg.vk z (mem_get.mpr ⟨_, z1⟩)).1
          have hf : s15.1 100 27 = nI z.1 := by rw [hR.fd, he, if_pos rfl, lk_last z1]
          rw [if_pos rfl, lk_last z1, if_neg (nI_mm (by omega)), m_lengthFound hk hg hR z1 hf, calP_s, ← lw_last z1, if_neg (nI_mm (by omega)), y_ck _ (by omega) (by omega), jn0, d114]
          have put : (∀ x, x < h → Sg n (k + 1) x → endB (BL n O k (PP n k (nI x))) = true → lw (BL n O k (PP n k (nI h))) / 64 < lw (BL n O k (PP n k (nI x))) / 64) → Ok (ck (nI (k + 1)) 3 <| bd (setI s15 113 (k + 1) (nI h)) fun s19 => ck (nI (k + 1)) 3 <| bd (setI s19 114 (k + 1) (nI (lw (BL n O k (PP n k (nI h))) / 64))) fun s20 => rec s20 (nI (h + 1))) (fun q => (∃ x y, FW n O k x y ∧ q.1 = if b = 0 then x else y) ∧ (q.2.1 112 (k + 1) = nI 1 ∧ FW n O k (q.2.1 113 (k + 1)) (q.2.1 114 (k + 1))) ∧ FK σ q.2 (k + 1)) := by
            intro hl
            rw [y_ck _ (by omega) (by omega), bd_s, y_ck _ (by omega) (by omega), bd_s]
            refine kk _ ⟨?_, ?_, ?_⟩
            · rw [gsI_o (by decide), gsI_s, if_pos rfl, gsI_s, if_pos rfl]
              refine Or.inr ⟨h, _, Nat.lt_succ_self h, hsg', he, rfl, rfl, rfl, fun x hx hs hb => ?_⟩
              rcases Nat.lt_succ_iff_lt_or_eq.mp hx with e | rfl
              · exact Or.inl (hl x e hs hb)
              · exact Or.inr ⟨rfl, Nat.le_refl _⟩
            · rw [gsI_o (by decide), gsI_o (by decide), d112]; exact i2
            · refine ⟨fm_setI (fm_setI k15.f (by unfold frP; omega) (by decide)) (by unfold frP; omega) (by decide), fun i hi => ?_, fun i hi => ?_, fun i hi => ?_⟩
              · rw [gsI_o (by decide), gsI_o (by decide)]; exact k15.o2 i hi
              · rw [gsI_o (by decide), gsI_s, if_neg hi]; exact k15.o3 i hi
              · rw [gsI_s, if_neg hi, gsI_o (by decide)]; exact k15.o4 i hi
          rcases i1 with ⟨a1, a2, a3⟩ | ⟨r, st, a1, a2, a3, a4, a5, a6, a7⟩
          · rw [a2, if_pos rfl]
            exact put (fun x hx hs hb => by rw [a3 x hx hs] at hb; cases hb)
          · have hst : st < 10000 := by
              obtain ⟨-, -, c4, -⟩ := (bl_one hN.np hk a2).2.2 a3
              omega
            rw [a6, if_neg (nI_mm (by omega)), y_ck _ (by omega) (by omega)]
            by_cases g : lw (BL n O k (PP n k (nI h))) / 64 < st
            · rw [if_pos (nI_lt g (by omega))]
              exact put (fun x hx hs hb => by have := a7 x hx hs hb; omega)
            · rw [if_neg (nI_nlt (by omega) (by omega))]
              refine kk _ ⟨?_, by rw [d112]; exact i2, k15⟩
              rw [d113, d114]
              refine Or.inr ⟨r, st, by omega, a2, a3, a4, a5, a6, fun x hx hs hb => ?_⟩
              rcases Nat.lt_succ_iff_lt_or_eq.mp hx with e | rfl
              · exact a7 x e hs hb
              · omega
    · rintro rec s ⟨i1, i2, i3⟩
      rw [e_power (by omega), calP_s, if_neg (nI_nlt (Nat.le_refl _) (by omega))]
      exact fin s (fi_fw hN.np hk i1) i2 i3
    · rw [gsI_o (by decide), gsI_s, if_pos rfl, gsI_s, if_pos rfl]
      exact Or.inl ⟨rfl, rfl, fun x hx => absurd hx (Nat.not_lt_zero _)⟩
    · rw [gsI_o (by decide), gsI_o (by decide), gsI_s, if_pos rfl]
  · rw [hc, if_neg b_10]
    exact fin σ hw hc ⟨fm_refl, fun _ _ => rfl, fun _ _ => rfl, fun _ _ => rfl⟩
end FREE
