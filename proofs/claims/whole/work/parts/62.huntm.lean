/-! hunt, of the reference -/
section HUNTM
variable {σ : St} {n c k s i sp : Nat} {O : Nat → Nat} {lv : Nat → Nat → Nat}
theorem rs_srt (h : HL n O k s lv) (hk : k < 3) {p x : Nat} (hx : Vr n (k + 1) x) : rs n O s (k + 1) lv p (srt (k + 1) x) = rs n O s (k + 1) lv p x := by
  unfold rs flS
  rw [plc_perm (srt_perm (K := k + 1) (by omega) (by omega) hx.1)]
  have : ∀ F m, m ≤ n → bmx F (lv (srt (k + 1) x)) m = bmx F (lv x) m := by
    intro F m
    induction m with
    | zero => intro _; rfl
    | succ m ih => intro hm; rw [bmx, bmx, ih (by omega), hl_srt h hk hx (by omega)]
  exact this _ n (Nat.le_refl _)
theorem flt_fr {x y : St} {K : Nat} (h : FLT x n O K s) (e : y.1 106 = x.1 106) : FLT y n O K s := fun a b c d => by rw [e]; exact h a b c d
theorem m_rest (hN : NM σ n O) (hk : k < 3) (h1 : 1 ≤ s) (h3 : s ≤ 3) (hl : HL n O k s lv) (hm : MT σ n O k s) (hf : FLT σ n O (k + 1) s) {x p : Nat} (hx : Sg n (k + 1) x) (hp : p < n) : f_X10_behind σ (nI (k + 1)) (nI s) (nI x) (nI p) = some (mv (rs n O s (k + 1) lv p x)) := by
  have h8 := hN.np.h8
  have h512 := p8_le k hk
  have hx1 := hx.1.1
  exact m_behind hN hk h1 h3 (by omega) (by omega) (hf x p hx hp) (flS_lt hN.np hp) (fun q hq => ⟨hl_le hl hx.1 hq, mt_lv hl hm hx hq⟩)
theorem m_huntLoop (hN : NM σ n O) (hk : k < 3) (h1 : 1 ≤ s) (h3 : s ≤ 3) (hl : HL n O k s lv) (hm : MT σ n O k s) (hf : FLT σ n O (k + 1) s) {r p : Nat} (hr : Sg n (k + 1) r) (hp : p < n) : Ok (lo4 FU (fun rec6 (s2 : St) (x3 : Int32) (x4 : Int32) (x5 : Int32) =>
      calP (f_X10_powerOf s2 (nI (k + 1))) fun r8 =>
        (if x5 < r8 then
          cal (f_X10_moved s2 (nI (k + 1)) (nI r) x5) fun r9 s10 =>
            jn1 (fun jk12 =>
              (if r9 = (-1 : Int32) then
                jk12 (-1 : Int32)
                 else
                calP (f_X10_behind s10 (nI (k + 1)) (nI s) r9 (nI p)) fun r13 =>
                  jk12 r13))
              (fun (x11 : Int32) => 
              (if x11 = (-1 : Int32) then
                  rec6 s10 x3 x4 (x5 + 1)
                   else
                  (if x4 = (-1 : Int32) then
                    rec6 s10 r9 x11 (x5 + 1)
                     else
                    (if x11 < x4 then
                      rec6 s10 r9 x11 (x5 + 1)
                       else
                      (if x11 = x4 then
                        (if r9 < x3 then
                          rec6 s10 r9 x11 (x5 + 1)
                           else
                          rec6 s10 x3 x4 (x5 + 1))
                         else
                        rec6 s10 x3 x4 (x5 + 1))))))
           else
          (if x3 = (-1 : Int32) then
            some (nI r, s2)
             else
            some (x3, s2)))) σ (-1 : Int32) (-1 : Int32) (0 : Int32)) (fun x => (∃ out, x.1 = nI out ∧ HM n O s k lv p r (8 ^ (k + 1)) out) ∧ Fr scr σ x.2) := by
  have h512 := p8_le k hk
  have hsl : ∀ x, x < 8 ^ (k + 1) → srt (k + 1) x < 8 ^ (k + 1) := fun x q => srt_lt (by omega) (by omega) q
  rw [q_0, q_mm]
  refine lo4_for (fun j st x y => ((x = M1 ∧ y = M1 ∧ ∀ x, x < j → stB O k r x (k + 1) = true → rs n O s (k + 1) lv p x = 1048576) ∨ ∃ a, a < j ∧ x = nI (srt (k + 1) a) ∧ y = nI (rs n O s (k + 1) lv p a) ∧ stB O k r a (k + 1) = true ∧ rs n O s (k + 1) lv p a < 1048576 ∧ ∀ y, y < j → stB O k r y (k + 1) = true → rs n O s (k + 1) lv p a < rs n O s (k + 1) lv p y ∨ rs n O s (k + 1) lv p a = rs n O s (k + 1) lv p y ∧ srt (k + 1) a ≤ srt (k + 1) y) ∧ Fr scr σ st) (8 ^ (k + 1)) ?_ ?_ FU 0 _ _ _ (Nat.zero_le _) (fu_lt (by omega)) ⟨Or.inl ⟨rfl, rfl, fun x hx => by omega⟩, fr_refl⟩
  · rintro rec z st x y hz ⟨hI, e2⟩ kk
    have hx := nm_fr hN e2 (by unfold scr; omega) (by unfold scr; omega)
    rw [e_power hk, calP_s, if_pos (nI_lt hz (by omega))]
    refine ok_cal (m_moved hx hk hr.1 hz) (fun w s1 ⟨w1, w2⟩ => ?_)
    dsimp only at w1 w2
    have f1 : Fr scr σ s1 := fr_trans e2 w2
    have hx1 := nm_fr hN f1 (by unfold scr; omega) (by unfold scr; omega)
    have hm1 : MT s1 n O k s := mt_fr hm (f1.1 105 (by unfold scr; omega))
    have hf1 : FLT s1 n O (k + 1) s := flt_fr hf (f1.1 106 (by unfold scr; omega))
    rw [q_1, nI_add, jn1]
    have skip : (stB O k r z (k + 1) = true → rs n O s (k + 1) lv p z = 1048576) → Ok (rec s1 x y (nI (z + 1))) (fun x => (∃ out, x.1 = nI out ∧ HM n O s k lv p r (8 ^ (k + 1)) out) ∧ Fr scr σ x.2) := fun hz' => kk _ _ _ ⟨by
        rcases hI with ⟨g1, g2, g3⟩ | ⟨a, a1, a2, a3, a4, a5, a6⟩
        · refine Or.inl ⟨g1, g2, fun w hw hs => ?_⟩
          rcases Nat.lt_succ_iff_lt_or_eq.mp hw with e | rfl
          · exact g3 w e hs
          · exact hz' hs
        · refine Or.inr ⟨a, by omega, a2, a3, a4, a5, fun w hw hs => ?_⟩
          rcases Nat.lt_succ_iff_lt_or_eq.mp hw with e | rfl
          · exact a6 w e hs
          · have := hz' hs; omega, f1⟩
    by_cases hb : stB O k r z (k + 1) = true
    · rw [if_pos hb] at w1
      subst w1
      have hV := st_vr hN.np hk hz hb
      have hsg := sg_srt hk hV
      have hle := rs_le (p := p) hl hV
      have hs2 := hsl z hz
      rw [if_neg (show ¬ nI (srt (k + 1) z) = M1 from nI_m1 (by omega)), m_rest hx1 hk h1 h3 hl hm1 hf1 hsg hp, calP_s, rs_srt hl hk hV]
      dsimp only
      by_cases q0 : rs n O s (k + 1) lv p z = 1048576
      · rw [if_pos ((mv_m1 hle).mpr q0)]
        exact skip (fun _ => q0)
      · rw [if_neg (fun e => q0 ((mv_m1 hle).mp e)), mv_n (by omega)]
        have take : (∀ w, w < z → stB O k r w (k + 1) = true → rs n O s (k + 1) lv p z < rs n O s (k + 1) lv p w ∨ rs n O s (k + 1) lv p z = rs n O s (k + 1) lv p w ∧ srt (k + 1) z ≤ srt (k + 1) w) → Ok (rec s1 (nI (srt (k + 1) z)) (nI (rs n O s (k + 1) lv p z)) (nI (z + 1))) (fun x => (∃ out, x.1 = nI out ∧ HM n O s k lv p r (8 ^ (k + 1)) out) ∧ Fr scr σ x.2) := fun hw => kk _ _ _ ⟨Or.inr ⟨z, by omega, rfl, rfl, hb, by omega, fun w g1 hs => by
            rcases Nat.lt_succ_iff_lt_or_eq.mp g1 with e | rfl
            · exact hw w e hs
            · exact Or.inr ⟨rfl, Nat.le_refl _⟩⟩, f1⟩
        rcases hI with ⟨rfl, rfl, g3⟩ | ⟨a, a1, rfl, rfl, a4, a5, a6⟩
        · rw [if_pos rfl]
          exact take (fun w hw hs => Or.inl (by rw [g3 w hw hs]; omega))
        · have hsa := hsl a (by omega)
          have hkeep : (rs n O s (k + 1) lv p a < rs n O s (k + 1) lv p z ∨ rs n O s (k + 1) lv p a = rs n O s (k + 1) lv p z ∧ srt (k + 1) a ≤ srt (k + 1) z) → Ok (rec s1 (nI (srt (k + 1) a)) (nI (rs n O s (k + 1) lv p a)) (nI (z + 1))) (fun x => (∃ out, x.1 = nI out ∧ HM n O s k lv p r (8 ^ (k + 1)) out) ∧ Fr scr σ x.2) := fun hz' => kk _ _ _ ⟨Or.inr ⟨a, by omega, rfl, rfl, a4, a5, fun w g1 hs => by
              rcases Nat.lt_succ_iff_lt_or_eq.mp g1 with e | rfl
              · exact a6 w e hs
              · exact hz'⟩, f1⟩
          rw [if_neg (show ¬ nI (rs n O s (k + 1) lv p a) = M1 from nI_m1 (by omega))]
          by_cases q : rs n O s (k + 1) lv p z < rs n O s (k + 1) lv p a
          · rw [if_pos (nI_lt q (by omega))]
            exact take (fun w hw hs => by have := a6 w hw hs; omega)
          · rw [if_neg (nI_nlt (by omega) (by omega))]
            by_cases q2 : rs n O s (k + 1) lv p z = rs n O s (k + 1) lv p a
            · rw [if_pos (by rw [q2])]
              by_cases q3 : srt (k + 1) z < srt (k + 1) a
              · rw [if_pos (nI_lt q3 (by omega))]
                exact take (fun w hw hs => by have := a6 w hw hs; omega)
              · rw [if_neg (nI_nlt (by omega) (by omega))]
                exact hkeep (by omega)
            · rw [if_neg (fun e => q2 ((nI_eq (by omega) (by omega)).mp e))]
              exact hkeep (by omega)
    · rw [if_neg hb] at w1
      subst w1
      rw [if_pos rfl]
      dsimp only
      rw [if_pos rfl]
      exact skip (fun e => (hb e).elim)
  · rintro rec st x y ⟨hI, e2⟩
    rw [e_power hk, calP_s, if_neg (nI_nlt (Nat.le_refl _) (by omega))]
    rcases hI with ⟨rfl, -, g3⟩ | ⟨a, a1, rfl, -, a4, a5, a6⟩
    · rw [if_pos rfl]
      exact ok_some ⟨⟨r, rfl, Or.inl ⟨hr.2.symm, g3⟩⟩, e2⟩
    · have hsa := hsl a a1
      rw [if_neg (show ¬ nI (srt (k + 1) a) = M1 from nI_m1 (by omega))]
      exact ok_some ⟨⟨_, rfl, Or.inr ⟨a, a1, a4, a5, rfl, a6⟩⟩, e2⟩
end HUNTM
