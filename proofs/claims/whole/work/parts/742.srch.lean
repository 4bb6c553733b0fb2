def PP (n k : Nat) (v : Int32) (r : Nat) : Bool := if v = M1 then sgB n (k + 1) r else decide (nI r = v)
def lw (L : List (Nat × Nat × Nat)) : Nat := match L[L.length - 1]? with
  | some x => x.2.2
  | none => 0
def UT (s : St) (n : Nat) (O : Nat → Nat) (k : Nat) (v : Int32) : Prop := CR s (BL n O k (PP n k v)) ∧ s.1 14 7 = if endB (BL n O k (PP n k v)) = true then nI (lw (BL n O k (PP n k v)) / 64) else M1
def UV (s : St) (n : Nat) (O : Nat → Nat) (c : Nat) : Prop := ∃ k', k' < 2 ∧ s.1 14 4 = nI k' ∧ (s.1 14 8 = nI c → UT s n O k' (s.1 14 9))
section SRCH
variable {σ : St} {n c k : Nat} {O : Nat → Nat} {L : List (Nat × Nat × Nat)}
theorem gl_w (hg : GL n k L) : ∀ a, ∀ b, b ≤ a → ∀ x, L[b]? = some x → x.2.2 / 64 ≤ b := by
  intro a
  induction a with
  | zero =>
    intro b hb x hx
    rcases hg.par b x hx with ⟨p0, p1, p2⟩ | ⟨p, y, p1, p2, p3, p4⟩
    · omega
    · omega
  | succ a ih =>
    intro b hb x hx
    rcases hg.par b x hx with ⟨p0, p1, p2⟩ | ⟨p, y, p1, p2, p3, p4⟩
    · omega
    · have := ih p (by omega) y p3
      omega
theorem cr_eq {s : St} (h : CR σ L) (h14 : s.1 14 5 = σ.1 14 5) (h6 : s.1 14 6 = σ.1 14 6) (h15 : s.1 15 = σ.1 15) (h16 : s.1 16 = σ.1 16) (h17 : s.1 17 = σ.1 17) : CR s L := by
  refine ⟨by rw [h14]; exact h.ct, by rw [h6]; exact h.en, fun i x hx => by rw [h15, h16]; exact h.q i x hx, ?_⟩
  rw [h17]; exact h.mt
theorem pp_sg {v : Int32} (hv : v = M1 ∨ ∃ r, Sg n (k + 1) r ∧ r < 2 ^ 31 ∧ v = nI r) : ∀ r, r < 2 ^ 31 → PP n k v r = true → Sg n (k + 1) r := by
  intro r hr hp
  unfold PP at hp
  rcases hv with rfl | ⟨r', h1, h2, rfl⟩
  · rw [if_pos rfl] at hp; exact sgB_iff.mp hp
  · rw [if_neg (nI_mm h2)] at hp
    have := (nI_eq hr h2).mp (of_decide_eq_true hp)
    rw [this]; exact h1
theorem e_search (hk : k < 2) (hN : NC σ n O c) (hT : ST σ) (hu : UV σ n O c) {v : Int32} (hv : v = M1 ∨ ∃ r, Sg n (k + 1) r ∧ r < 2 ^ 31 ∧ v = nI r) : Ok (f_X8_search σ k v) (fun q => UT q.2 n O k v ∧ q.2.1 14 4 = nI k ∧ q.2.1 14 9 = v ∧ q.2.1 14 8 = nI c ∧ Fr (fun c => 14 ≤ c ∧ c ≤ 17) σ q.2) := by
  obtain ⟨k', hk', h4, hU⟩ := hu
  have h64 := p82 k hk
  have hP : ∀ r, r < 8 ^ (k + 1) → PP n k v r = true → Sg n (k + 1) r := fun r hr => pp_sg hv r (by omega)
  unfold f_X8_search f_X3_changes
  rw [hN.ch, calP_s, jn0, calP_s]
  have body : Ok (bd (setI σ 14 8 (nI c)) fun s4 => bd (setI s4 14 4 (nI k)) fun s5 => bd (setI s5 14 9 v) fun s6 =>
                cal (f_J7_fill_53178 s6 17 (0 : Int32)) fun _ s7 =>
                  bd (setI s7 14 5 (0 : Int32)) fun s8 =>
                    bd (setI s8 14 6 (-1 : Int32)) fun s9 =>
                      lo2 FU (fun rec12 (s10 : St) (x11 : Int32) =>
                        calP (f_X6_size s10 k) fun r14 =>
                          (if x11 < r14 then
                            jn0 (fun jk15 =>
                              (if v = (-1 : Int32) then
                                calP (f_X6_isSetting s10 k x11) fun r19 =>
                                  (if r19 = 0 then
                                    rec12 s10 (x11 + 1)
                                     else
                                    jk15)
                                 else
                                (if x11 = v then
                                  jk15
                                   else
                                  rec12 s10 (x11 + 1))))
                              (
                              calP (f_X3_all s10) fun r16 =>
                                  calP (f_X6_placesOf s10 k x11) fun r17 =>
                                    cal (f_X8_meet s10 x11 (r16 &&& (r17 ^^^ (-1 : Int32))) (-1 : Int32)) fun _ s18 =>
                                      rec12 s18 (x11 + 1))
                             else
                            lo2 FU (fun rec22 (s20 : St) (x21 : Int32) =>
                              jn0 (fun jk24 =>
                                (if x21 < (s20.1 14 5) then
                                  (if x21 < (2816 : Int32) then
                                    (if (s20.1 14 6) = (-1 : Int32) then
                                      cal (f_X8_expand s20 x21) fun _ s28 =>
                                        rec22 s28 (x21 + 1)
                                       else
                                      jk24)
                                     else
                                    jk24)
                                   else
                                  jk24))
                                (
                                (if (s20.1 14 6) = (-1 : Int32) then
                                    bd (setI s20 14 7 (-1 : Int32)) fun s25 =>
                                      some ((), s25)
                                     else
                                    calP (f_X8_depthOf s20 (s20.1 14 6)) fun r26 =>
                                      bd (setI s20 14 7 r26) fun s27 =>
                                        some ((), s27)))) s10 (0 : Int32))) s9 (0 : Int32)) (fun q => UT q.2 n O k v ∧ q.2.1 14 4 = nI k ∧ q.2.1 14 9 = v ∧ q.2.1 14 8 = nI c ∧ Fr (fun c => 14 ≤ c ∧ c ≤ 17) σ q.2) := by
    rw [bd_s, bd_s, bd_s]
    refine ok_cal (e_fill (a := 17) 0 (by decide)) ?_
    rintro u s ⟨f1, f2⟩
    have hF : Fr (fun c => 14 ≤ c ∧ c ≤ 17) σ s := fr_trans (fr_setI (fr_setI (fr_setI fr_refl (by omega)) (by omega)) (by omega)) (fr_mono f2 (fun c hc => by omega))
    have h144 : s.1 14 4 = nI k ∧ s.1 14 9 = v ∧ s.1 14 8 = nI c := by
      rw [f2.1 14 (by decide)]
      refine ⟨?_, ?_, ?_⟩
      · rw [gsI_s, if_neg (by decide), gsI_s, if_pos rfl]
      · rw [gsI_s, if_pos rfl]
      · rw [gsI_s, if_neg (by decide), gsI_s, if_neg (by decide), gsI_s, if_pos rfl]
    rw [bd_s, bd_s, q_mm, q_0, q_1, q_2816]
    have c0 : CR (setI (setI s 14 5 (nI 0)) 14 6 M1) [] := by
      refine ⟨by rw [gsI_s, if_neg (by decide), gsI_s, if_pos rfl]; rfl, by rw [gsI_s, if_pos rfl]; rfl, fun i x hx => (by cases hx), fun _ => 0, fun w hw => ⟨show 0 < 2 ^ 32 by decide, ?_⟩, fun q hq => by simp [hasK]⟩
      rw [gsI_o (by decide), gsI_o (by decide), f1 w hw]; rfl
    refine lo2_for (fun r t => CR t (rtL n k (PP n k v) r) ∧ t.1 14 4 = nI k ∧ t.1 14 9 = v ∧ t.1 14 8 = nI c ∧ Fr (fun c => 14 ≤ c ∧ c ≤ 17) σ t) (8 ^ (k + 1)) ?_ ?_ FU 0 _ (Nat.zero_le _) (fu_lt (by omega)) ⟨c0, by rw [gsI_s, if_neg (by decide), gsI_s, if_neg (by decide)]; exact h144.1, by rw [gsI_s, if_neg (by decide), gsI_s, if_neg (by decide)]; exact h144.2.1, by rw [gsI_s, if_neg (by decide), gsI_s, if_neg (by decide)]; exact h144.2.2, fr_setI (fr_setI hF (by omega)) (by omega)⟩
    · rintro rec r t hr ⟨j1, j2, j3, j4, j5⟩ kk
      have hNt : NC t n O c := nc_fr hN j5 (fun x hx => by omega)
      have hTt : ST t := st_fr hT j5 (fun x h1 h2 => by omega)
      unfold f_X6_size
      rw [(hTt k (by omega)).2.1, calP_s, if_pos (nI_lt hr (by omega)), jn0, nI_add]
      rw [rtL] at kk
      have hmeet : PP n k v r = true → Ok (calP (f_X3_all t) fun r16 => calP (f_X6_placesOf t k (nI r)) fun r17 => cal (f_X8_meet t (nI r) (r16 &&& (r17 ^^^ M1)) M1) fun _ s18 => rec s18 (nI (r + 1))) (fun q => UT q.2 n O k v ∧ q.2.1 14 4 = nI k ∧ q.2.1 14 9 = v ∧ q.2.1 14 8 = nI c ∧ Fr (fun c => 14 ≤ c ∧ c ≤ 17) σ q.2) := by
        intro hp
        obtain ⟨v1, v2⟩ := rky_vk hN.np (hP r hr hp)
        rw [e_all hNt.z, calP_s, e_placesOf hTt (by omega) hr, calP_s, y_nd]
        refine ok_cal (e_meet (p := 0) (w := r) hk (rt_gl hN.np hk hP r (by omega)) j1 (nd_lt (all_lt hN.np)) v1 v2) ?_
        rintro u2 s2 ⟨m1, m2⟩
        refine kk _ ⟨by rw [if_pos hp]; exact m1, ?_, ?_, ?_, fr_trans j5 m2.1⟩
        · rw [m2.2 4 (by decide) (by decide)]; exact j2
        · rw [m2.2 9 (by decide) (by decide)]; exact j3
        · rw [m2.2 8 (by decide) (by decide)]; exact j4
      by_cases hm : v = M1
      · rw [if_pos hm, e_isSetting hTt hNt.z (by omega) hr, calP_s]
        have hpp : PP n k v r = (vrB n (k + 1) r && decide (srt (k + 1) r = r)) := by unfold PP; rw [if_pos hm]; rfl
        rw [← hpp]
        cases hp : PP n k v r with
        | false => rw [if_pos b_f0]; exact kk _ ⟨by rw [hp, if_neg (by decide)]; exact j1, j2, j3, j4, j5⟩
        | true => rw [if_neg b_t0]; exact hmeet hp
      · rw [if_neg hm]
        by_cases he : nI r = v
        · rw [if_pos he]
          exact hmeet (by unfold PP; rw [if_neg hm]; exact decide_eq_true he)
        · rw [if_neg he]
          exact kk _ ⟨by rw [if_neg (by unfold PP; rw [if_neg hm, decide_eq_false he]; decide)]; exact j1, j2, j3, j4, j5⟩
    · rintro rec t ⟨j1, j2, j3, j4, j5⟩
      have hTt : ST t := st_fr hT j5 (fun x h1 h2 => by omega)
      unfold f_X6_size
      rw [(hTt k (by omega)).2.1, calP_s, if_neg (nI_nlt (Nat.le_refl _) (by omega))]
      have fin : ∀ s L, CR s L → GL n k L → BL n O k (PP n k v) = L → s.1 14 4 = nI k → s.1 14 9 = v → s.1 14 8 = nI c → Fr (fun c => 14 ≤ c ∧ c ≤ 17) σ s → Ok (if (s.1 14 6) = M1 then bd (setI s 14 7 M1) fun s25 => some ((), s25) else calP (f_X8_depthOf s (s.1 14 6)) fun r26 => bd (setI s 14 7 r26) fun s27 => some ((), s27)) (fun q => UT q.2 n O k v ∧ q.2.1 14 4 = nI k ∧ q.2.1 14 9 = v ∧ q.2.1 14 8 = nI c ∧ Fr (fun c => 14 ≤ c ∧ c ≤ 17) σ q.2) := by
        intro s L a1 a2 a3 a4 a5 a6 a7
        have fi2 : ∀ z, z = (if endB L = true then nI (lw L / 64) else M1) → UT (setI s 14 7 z) n O k v ∧ (setI s 14 7 z).1 14 4 = nI k ∧ (setI s 14 7 z).1 14 9 = v ∧ (setI s 14 7 z).1 14 8 = nI c ∧ Fr (fun c => 14 ≤ c ∧ c ≤ 17) σ (setI s 14 7 z) := by
          intro z hz
          refine ⟨⟨?_, ?_⟩, ?_, ?_, ?_, fr_setI a7 (by omega)⟩
          · rw [a3]
            exact cr_eq a1 (by rw [gsI_s, if_neg (by decide)]) (by rw [gsI_s, if_neg (by decide)]) (gsI_o (by decide)) (gsI_o (by decide)) (gsI_o (by decide))
          · rw [a3, gsI_s, if_pos rfl, hz]
          · rw [gsI_s, if_neg (by decide)]; exact a4
          · rw [gsI_s, if_neg (by decide)]; exact a5
          · rw [gsI_s, if_neg (by decide)]; exact a6
        have hlen := gl_len hk a2
        rw [a1.en]
        cases he : endB L with
        | false =>
          rw [if_neg (show ¬ false = true by decide), if_pos rfl, bd_s]
          exact ok_some (fi2 _ (by rw [he]; rfl))
        | true =>
          obtain ⟨x, x1, x2, x3⟩ := end_last he
          rw [if_pos rfl, if_neg (nI_mm (by omega)), e_depth hk a2 a1 x1, calP_s, bd_s]
          exact ok_some (fi2 _ (by rw [he, if_pos rfl, lw, x1]))
      refine lo2_for (fun i s => ∃ L, CR s L ∧ GL n k L ∧ BL n O k (PP n k v) = rnL O k (3000 - i) L i ∧ s.1 14 4 = nI k ∧ s.1 14 9 = v ∧ s.1 14 8 = nI c ∧ Fr (fun c => 14 ≤ c ∧ c ≤ 17) σ s) 2816 ?_ ?_ FU 0 _ (Nat.zero_le _) (fu_lt (by omega)) ⟨_, j1, rt_gl hN.np hk hP _ (Nat.le_refl _), rfl, j2, j3, j4, j5⟩
      · rintro rec2 i s hi ⟨L, a1, a2, a3, a4, a5, a6, a7⟩ k2
        have hNs : NC s n O c := nc_fr hN a7 (fun x hx => by omega)
        have hTs : ST s := st_fr hT a7 (fun x h1 h2 => by omega)
        have hlen := gl_len hk a2
        rw [show 3000 - i = (3000 - (i + 1)) + 1 by omega, rnL] at a3
        have f := fin s L a1 a2
        rw [jn0, a1.ct]
        by_cases q : i < L.length
        · obtain ⟨y, hy⟩ := get_ex q
          rw [hy] at a3
          replace a3 : BL n O k (PP n k v) = if endB L = true then L else rnL O k (3000 - (i + 1)) (exL O k i y.1 y.2.2 L (8 ^ (k + 1))) (i + 1) := a3
          rw [if_pos (nI_lt q (by omega)), if_pos (nI_lt hi (by omega))]
          cases he : endB L with
          | true =>
            rw [he, if_pos rfl] at a3
            have hM : ¬ s.1 14 6 = M1 := by rw [a1.en, he, if_pos rfl]; exact nI_mm (by omega)
            have f' := f a3 a4 a5 a6 a7
            rw [if_neg hM]
            exact f'
          | false =>
            rw [he, if_neg (by decide)] at a3
            have hM : s.1 14 6 = M1 := by rw [a1.en, he]; rfl
            rw [if_pos hM]
            refine ok_cal (e_expand hk hNs hTs a4 a2 a1 hy) ?_
            rintro u2 s2 ⟨m1, m2⟩
            rw [nI_add]
            refine k2 _ ⟨_, m1, (ex_gl hN.np hk a2 hy _ (Nat.le_refl _)).1, a3, ?_, ?_, ?_, fr_trans a7 m2.1⟩
            · rw [m2.2 4 (by decide) (by decide)]; exact a4
            · rw [m2.2 9 (by decide) (by decide)]; exact a5
            · rw [m2.2 8 (by decide) (by decide)]; exact a6
        · rw [if_neg (nI_nlt (by omega) (by omega))]
          have : L[i]? = none := List.getElem?_eq_none (by omega)
          rw [this] at a3
          exact f a3 a4 a5 a6 a7
      · rintro rec2 s ⟨L, a1, a2, a3, a4, a5, a6, a7⟩
        have hlen := gl_len hk a2
        rw [jn0, a1.ct, if_neg (nI_nlt hlen (by omega))]
        have : L[2816]? = none := List.getElem?_eq_none hlen
        rw [show 3000 - 2816 = 183 + 1 from rfl, rnL, this] at a3
        exact fin s L a1 a2 a3 a4 a5 a6 a7
  by_cases g8 : σ.1 14 8 = nI c
  · rw [if_pos g8, h4, nI_clamp (by omega), ckN_s _ (by omega), bd_s]
    by_cases gk : k' = k
    · rw [if_pos gk]
      by_cases g9 : σ.1 14 9 = v
      · rw [if_pos g9]
        have := hU g8
        rw [g9, gk] at this
        exact ok_some ⟨this, by show σ.1 14 4 = _; rw [h4, gk], g9, g8, fr_refl⟩
      · rw [if_neg g9]; exact body
    · rw [if_neg gk]; exact body
  · rw [if_neg g8]; exact body
end SRCH
