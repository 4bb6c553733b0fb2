def jl (w : Nat) : Nat := [4, 3, 3].getD w 0
def Bw (w i : Nat) : Nat := ([[114, 111, 97, 100], [119, 97, 121], [110, 101, 116]].getD w []).getD i 0
def wm (tx : Nat → Nat) (s w : Nat) : Nat → Bool
  | 0 => true
  | i + 1 => wm tx s w i && decide (tx (s + i) = Bw w i)
def wB (tx : Nat → Nat) (s t w : Nat) : Bool := decide (t - s = jl w) && wm tx s w (jl w)
def wdK (tx : Nat → Nat) (s t : Nat) : Nat := if wB tx s t 0 = true then 0 else if wB tx s t 1 = true then 1 else if wB tx s t 2 = true then 2 else 3
def nmb (tx : Nat → Nat) (s t : Nat) : Nat := if t - s = 1 ∧ kdB (tx s) = 2 then tx s - 48 else 99
def nmI (x : Nat) : Int32 := if x = 99 then M1 else nI x
def rE (tx : Nat → Nat) (l e : Nat) : Nat := tE tx l (tS tx l e)
def kwd (tx : Nat → Nat) (l e : Nat) : Nat := wdK tx (tS tx l e) (rE tx l e)
def nud (tx : Nat → Nat) (l e : Nat) : Nat := nmb tx (tS tx l e) (rE tx l e)
def lnR (tx : Nat → Nat) (l e b : Nat) : Nat × Nat × Nat × Nat × Nat × Nat :=
  if kwd tx l e = 3 then (tS tx l e, 0, 0, 0, 0, 0)
  else if kwd tx l e = 2 then (if nud tx l (rE tx l e) < 1 ∨ 8 < nud tx l (rE tx l e) then (tS tx l (rE tx l e), 0, 0, 0, 0, 0) else (999, rE tx l (rE tx l e), nud tx l (rE tx l e), 2, nud tx l (rE tx l e), 0))
  else if b ≤ nud tx l (rE tx l e) then (tS tx l (rE tx l e), 0, 0, 0, 0, 0)
  else if b ≤ nud tx l (rE tx l (rE tx l e)) ∨ nud tx l (rE tx l (rE tx l e)) = nud tx l (rE tx l e) then (tS tx l (rE tx l (rE tx l e)), 0, 0, 0, 0, 0)
  else (999, rE tx l (rE tx l (rE tx l e)), b, kwd tx l e, nud tx l (rE tx l e), nud tx l (rE tx l (rE tx l e)))
theorem jl_le : ∀ w, w < 3 → jl w ≤ 4 ∧ 3 ≤ jl w := by decide
theorem Bw_lt : ∀ w, w < 3 → ∀ i, i < 4 → Bw w i < 256 := by decide
theorem len_all : ∀ w, w < 3 → f_J0_length_8abf5 σ0 w = some (nI (jl w)) := by decide +kernel
theorem chr_all : ∀ w, w < 3 → ∀ i, i < jl w → f_J0_charAt_5068e σ0 w (nI i) = some (nI (Bw w i)) := by decide +kernel
section RD
variable {σ : St} {tx : Nat → Nat} {l : Nat}
theorem wm_f {s w i : Nat} (h : ¬ tx (s + i) = Bw w i) : ∀ m, i < m → wm tx s w m = false := by
  intro m
  induction m with
  | zero => intro h; omega
  | succ m ih =>
    intro hm
    rw [wm]
    rcases Nat.lt_succ_iff_lt_or_eq.mp hm with e | rfl
    · rw [ih e]; rfl
    · rw [decide_eq_false h, Bool.and_false]
theorem e_isWord (h : TC σ tx l) {s t w : Nat} (hw : w < 3) (hst : s ≤ t) (htl : t ≤ l) (h2 : σ.1 6 2 = nI s) (h3 : σ.1 6 3 = nI t) : f_X7_isWord σ w = some (nI (wB tx s t w).toNat) := by
  have hl := h.h
  have hj := jl_le w hw
  unfold f_X7_isWord
  rw [show f_J0_length_8abf5 σ w = some (nI (jl w)) from len_all w hw, calP_s, h2, h3, pk_sub hst, q_0, q_1]
  unfold wB
  by_cases g : t - s = jl w
  · rw [if_pos (by rw [g]), decide_eq_true g, Bool.true_and]
    refine ok_eq (lo1_for (fun i => wm tx s w i = true) (jl w) ?_ ?_ FU 0 (Nat.zero_le _) (fu_lt (by omega)) rfl)
    · intro rec i hi hI kk
      have hu := h.u (s + i) (by omega)
      have hB := Bw_lt w hw i (by omega)
      rw [calP_s, if_pos (nI_lt hi (by omega)), nI_add, e_byteAt h (by omega), calP_s, if_pos (show s + i < l by omega), show f_J0_charAt_5068e σ w (nI i) = some (nI (Bw w i)) from chr_all w hw i hi, calP_s, nI_add]
      by_cases q : tx (s + i) = Bw w i
      · rw [if_pos (by rw [q])]
        exact kk (by rw [wm, hI, decide_eq_true q]; rfl)
      · rw [if_neg (nI_ne (by omega) (by omega) q)]
        exact ok_some (by rw [wm_f q _ hi]; rfl)
    · intro rec hI
      rw [calP_s, if_neg (nI_nlt (Nat.le_refl _) (by omega))]
      exact ok_some (by rw [hI]; rfl)
  · rw [if_neg (nI_ne (by omega) (by omega) g), decide_eq_false g]
    rfl
theorem e_lineKind (h : TC σ tx l) {s t : Nat} (hst : s ≤ t) (htl : t ≤ l) (h2 : σ.1 6 2 = nI s) (h3 : σ.1 6 3 = nI t) : f_X7_lineKind σ = some (if wdK tx s t = 3 then M1 else nI (wdK tx s t)) := by
  unfold f_X7_lineKind wdK
  rw [e_isWord h (by decide) hst htl h2 h3, calP_s, e_isWord h (by decide) hst htl h2 h3, calP_s, e_isWord h (by decide) hst htl h2 h3, calP_s, q_mm, q_0, q_1, q_2]
  cases wB tx s t 0 <;> cases wB tx s t 1 <;> cases wB tx s t 2 <;> rfl
theorem kd2 {b : Nat} (h : kdB b = 2) : 48 ≤ b ∧ b ≤ 57 := by
  unfold kdB at h
  split at h
  · cases h
  · split at h
    · assumption
    · cases h
theorem e_number (h : TC σ tx l) {s t : Nat} (hst : s ≤ t) (htl : t ≤ l) (h2 : σ.1 6 2 = nI s) (h3 : σ.1 6 3 = nI t) : f_X7_number σ = some (nmI (nmb tx s t)) := by
  have hl := h.h
  unfold f_X7_number
  rw [h2, h3, pk_sub hst, jn1, q_mm, q_0, q_1, q_2, q_48]
  dsimp only
  unfold nmb
  by_cases g : t - s = 1
  · have hk := kdB_le (tx s)
    have hsl : s < l := by omega
    rw [if_pos (by rw [g]), e_kindAt h (by omega), calP_s, if_pos hsl]
    by_cases q : kdB (tx s) = 2
    · have := kd2 q
      rw [if_pos (by rw [q]), if_neg b_10, e_byteAt h (by omega), calP_s, if_pos hsl, pk_sub (by omega), if_pos ⟨g, q⟩]
      unfold nmI
      rw [if_neg (by omega)]
    · rw [if_neg (nI_ne (by omega) (by omega) q), if_pos rfl, if_neg (fun w => q w.2)]
      rfl
  · rw [if_neg (nI_ne (by omega) (by omega) g), if_pos rfl, if_neg (fun w => g w.1)]
    rfl
theorem nmb_le (s t : Nat) : nmb tx s t ≤ 9 ∨ nmb tx s t = 99 := by
  unfold nmb
  split
  · rename_i w; have := kd2 w.2; omega
  · exact Or.inr rfl
/-- what a reading may write: slots 2 to 5 of the text, the lines -/
def Fl (σ s : St) : Prop := Fr (fun c => c = 6 ∨ c = 8 ∨ c = 9 ∨ c = 10) σ s ∧ s.1 6 1 = σ.1 6 1
theorem fl_refl {σ : St} : Fl σ σ := ⟨fr_refl, rfl⟩
theorem fl_trans {a b c : St} (h : Fl a b) (g : Fl b c) : Fl a c := ⟨fr_trans h.1 g.1, g.2.trans h.2⟩
theorem fl_ft {a b : St} (h : Ft a b) : Fl a b := ⟨fr_mono h.1 (fun c hc => Or.inl hc), h.2 1 (by decide) (by decide)⟩
theorem fl_6 {σ s : St} {j : Nat} {v : Int32} (h : Fl σ s) (hj : j ≠ 1) : Fl σ (setI s 6 j v) := ⟨fr_setI h.1 (Or.inl rfl), by rw [gsI_s, if_neg (fun e => hj e.symm)]; exact h.2⟩
theorem fl_a {σ s : St} {a j : Nat} {v : Int32} (h : Fl σ s) (ha : a = 8 ∨ a = 9 ∨ a = 10) : Fl σ (setI s a j v) := ⟨fr_setI h.1 (by omega), by rw [gsI_o (by omega)]; exact h.2⟩
theorem tc_fl {s : St} (h : TC σ tx l) (f : Fl σ s) : TC s tx l := ⟨by rw [f.2]; exact h.l, h.h, fun i hi => by rw [f.1.1 7 (by decide)]; exact h.b i hi, h.u⟩
theorem rE_le {e : Nat} (h : e ≤ l) (hl : l ≤ 160) : tS tx l e ≤ rE tx l e ∧ rE tx l e ≤ l := by
  have h1 := tS_sp (tx := tx) h hl
  have h2 := tE_le (tx := tx) h1.2.1 hl
  exact ⟨h2.2.1, h2.1⟩
theorem nmI_neg {x : Nat} (h : x ≤ 9 ∨ x = 99) : (nmI x < nI 0 ↔ x = 99) := by
  unfold nmI
  rcases h with h | h
  · rw [if_neg (by omega)]
    constructor
    · intro w; exact absurd w (nI_nlt (Nat.zero_le _) (by omega))
    · intro w; omega
  · rw [if_pos h]; exact ⟨fun _ => h, fun _ => by decide⟩
def LnP (σ : St) (R : Nat × Nat × Nat × Nat × Nat × Nat) (j : Nat) (q : Int32 × St) : Prop := Fl σ q.2 ∧ ((R.1 ≠ 999 ∧ q.1 = nI 0 ∧ q.2.1 6 2 = nI R.1) ∨ (R.1 = 999 ∧ q.1 = nI 1 ∧ q.2.1 6 3 = nI R.2.1 ∧ q.2.1 6 4 = nI R.2.2.1 ∧ q.2.1 8 j = nI R.2.2.2.1 ∧ q.2.1 9 j = nI R.2.2.2.2.1 ∧ (R.2.2.2.1 ≠ 2 → q.2.1 10 j = nI R.2.2.2.2.2) ∧ ∀ i, i ≠ j → q.2.1 8 i = σ.1 8 i ∧ q.2.1 9 i = σ.1 9 i ∧ q.2.1 10 i = σ.1 10 i))
theorem lp_bad {R : Nat × Nat × Nat × Nat × Nat × Nat} {p j : Nat} {s : St} (hR : R = (p, 0, 0, 0, 0, 0)) (hp : p ≤ 160) (F : Fl σ s) (h : s.1 6 2 = nI p) : LnP σ R j (nI 0, s) := by
  subst hR
  exact ⟨F, Or.inl ⟨by show p ≠ 999; omega, rfl, h⟩⟩
theorem e_readLine (h : TC σ tx l) {e b j : Nat} (he : e ≤ l) (hb1 : 1 ≤ b) (hb : b ≤ 8) (hj : j < 16) (h3 : σ.1 6 3 = nI e) (h4 : σ.1 6 4 = nI b) : Ok (f_X7_readLine σ (nI j)) (LnP σ (lnR tx l e b) j) := by
  have hl := h.h
  have r1 := rE_le (tx := tx) he hl
  have r2 := rE_le (tx := tx) r1.2 hl
  have r3 := rE_le (tx := tx) r2.2 hl
  have n2 := nmb_le (tx := tx) (tS tx l (rE tx l e)) (rE tx l (rE tx l e))
  have n3 := nmb_le (tx := tx) (tS tx l (rE tx l (rE tx l e))) (rE tx l (rE tx l (rE tx l e)))
  unfold f_X7_readLine
  refine ok_cal (e_nextToken h he h3) ?_
  rintro u s1 ⟨a1, a2, a3⟩
  have T1 := tc_ft h a3
  rw [e_lineKind T1 r1.1 r1.2 a1 a2, calP_s, q_mm, q_0, q_1, q_2, q_8, show wdK tx (tS tx l e) (rE tx l e) = kwd tx l e from rfl]
  by_cases k3 : kwd tx l e = 3
  · rw [if_pos k3, if_pos rfl]
    exact ok_some (lp_bad (by unfold lnR; rw [if_pos k3]) (by omega) (fl_ft a3) a1)
  · have hkl : kwd tx l e < 3 := by
      have : kwd tx l e ≤ 3 := by unfold kwd wdK; split <;> (try split) <;> (try split) <;> omega
      omega
    rw [if_neg k3, if_neg (nI_mm (by omega))]
    refine ok_cal (e_nextToken T1 r1.2 a2) ?_
    rintro u s3 ⟨b1, b2, b3⟩
    have T3 := tc_ft T1 b3
    have F3 := fl_trans (fl_ft a3) (fl_ft b3)
    rw [e_number T3 r2.1 r2.2 b1 b2, calP_s, jn2, show nmb tx (tS tx l (rE tx l e)) (rE tx l (rE tx l e)) = nud tx l (rE tx l e) from rfl]
    dsimp only
    replace n2 : nud tx l (rE tx l e) ≤ 9 ∨ nud tx l (rE tx l e) = 99 := n2
    replace n3 : nud tx l (rE tx l (rE tx l e)) ≤ 9 ∨ nud tx l (rE tx l (rE tx l e)) = 99 := n3
    replace b1 : s3.1 6 2 = nI (tS tx l (rE tx l e)) := b1
    replace b2 : s3.1 6 3 = nI (rE tx l (rE tx l e)) := b2
    have m34 : s3.1 6 4 = nI b := by rw [b3.2 4 (by decide) (by decide), a3.2 4 (by decide) (by decide)]; exact h4
    by_cases k2 : kwd tx l e = 2
    · rw [show nI (kwd tx l e) = nI 2 by rw [k2], if_pos rfl]
      by_cases g : nud tx l (rE tx l e) < 1 ∨ 8 < nud tx l (rE tx l e)
      · have bad : Ok (some (nI 0, s3)) (LnP σ (lnR tx l e b) j) := ok_some (lp_bad (by unfold lnR; rw [if_neg k3, if_pos k2, if_pos g]) (by omega) F3 b1)
        by_cases g1 : nmI (nud tx l (rE tx l e)) < nI 1
        · rw [if_pos g1]; exact bad
        · rw [if_neg g1, if_pos]
          · exact bad
          · unfold nmI at g1 ⊢
            by_cases e9 : nud tx l (rE tx l e) = 99
            · rw [if_pos e9] at g1; exact absurd (show M1 < nI 1 by decide) g1
            · rw [if_neg e9] at g1 ⊢
              refine nI_lt ?_ (by omega)
              rcases g with g | g
              · exact absurd (nI_lt g (by decide)) g1
              · exact g
      · have e9 : ¬ nud tx l (rE tx l e) = 99 := by omega
        have eI : nmI (nud tx l (rE tx l e)) = nI (nud tx l (rE tx l e)) := by unfold nmI; rw [if_neg e9]
        have hR : lnR tx l e b = (999, rE tx l (rE tx l e), nud tx l (rE tx l e), 2, nud tx l (rE tx l e), 0) := by unfold lnR; rw [if_neg k3, if_pos k2, if_neg g]
        rw [hR, eI, if_neg (nI_nlt (by omega) (by omega)), if_neg (nI_nlt (by omega) (by omega)), bd_s, y_ck _ hj (by omega), nI_clamp (by omega), bd_s, y_ck _ hj (by omega), bd_s, y_ck _ hj (by omega), bd_s]
        refine ok_some ⟨fl_a (fl_a (fl_a (fl_6 F3 (by decide)) (by omega)) (by omega)) (by omega), Or.inr ⟨rfl, rfl, ?_, ?_, ?_, ?_, fun w => absurd rfl w, fun i hi => ⟨?_, ?_, ?_⟩⟩⟩
        · rw [gsI_o (by decide), gsI_o (by decide), gsI_o (by decide), gsI_s, if_neg (by decide)]; exact b2
        · rw [gsI_o (by decide), gsI_o (by decide), gsI_o (by decide), gsI_s, if_pos rfl]
        · rw [gsI_o (by decide), gsI_o (by decide), gsI_s, if_pos rfl]
        · rw [gsI_o (by decide), gsI_s, if_pos rfl]
        · rw [gsI_o (by decide), gsI_o (by decide), gsI_s, if_neg hi, gsI_o (by decide), b3.1.1 8 (by decide), a3.1.1 8 (by decide)]
        · rw [gsI_o (by decide), gsI_s, if_neg hi, gsI_o (by decide), gsI_o (by decide), b3.1.1 9 (by decide), a3.1.1 9 (by decide)]
        · rw [gsI_s, if_neg hi, gsI_o (by decide), gsI_o (by decide), gsI_o (by decide), b3.1.1 10 (by decide), a3.1.1 10 (by decide)]
    · rw [if_neg (nI_ne (by omega) (by omega) k2), m34]
      have bad : b ≤ nud tx l (rE tx l e) → Ok (some (nI 0, s3)) (LnP σ (lnR tx l e b) j) := fun w => ok_some (lp_bad (by unfold lnR; rw [if_neg k3, if_neg k2, if_pos w]) (by omega) F3 b1)
      by_cases g0 : nud tx l (rE tx l e) = 99
      · rw [if_pos ((nmI_neg n2).mpr g0)]; exact bad (by omega)
      · have eI : nmI (nud tx l (rE tx l e)) = nI (nud tx l (rE tx l e)) := by unfold nmI; rw [if_neg g0]
        rw [if_neg (fun w => g0 ((nmI_neg n2).mp w)), eI]
        by_cases g1 : b ≤ nud tx l (rE tx l e)
        · rw [if_neg (nI_nlt g1 (by omega))]; exact bad g1
        · rw [if_pos (nI_lt (by omega) (by omega))]
          refine ok_cal (e_nextToken T3 r2.2 b2) ?_
          rintro u s12 ⟨c1, c2, c3⟩
          have T12 := tc_ft T3 c3
          have F12 := fl_trans F3 (fl_ft c3)
          have m124 : s12.1 6 4 = nI b := by rw [c3.2 4 (by decide) (by decide)]; exact m34
          rw [e_number T12 r3.1 r3.2 c1 c2, calP_s, m124, show nmb tx (tS tx l (rE tx l (rE tx l e))) (rE tx l (rE tx l (rE tx l e))) = nud tx l (rE tx l (rE tx l e)) from rfl]
          have bad2 : (b ≤ nud tx l (rE tx l (rE tx l e)) ∨ nud tx l (rE tx l (rE tx l e)) = nud tx l (rE tx l e)) → Ok (some (nI 0, s12)) (LnP σ (lnR tx l e b) j) := fun w => ok_some (lp_bad (by unfold lnR; rw [if_neg k3, if_neg k2, if_neg g1, if_pos w]) (by omega) F12 c1)
          by_cases g2 : nud tx l (rE tx l (rE tx l e)) = 99
          · rw [if_pos ((nmI_neg n3).mpr g2)]; exact bad2 (Or.inl (by omega))
          · have eI2 : nmI (nud tx l (rE tx l (rE tx l e))) = nI (nud tx l (rE tx l (rE tx l e))) := by unfold nmI; rw [if_neg g2]
            rw [if_neg (fun w => g2 ((nmI_neg n3).mp w)), eI2]
            by_cases g3 : b ≤ nud tx l (rE tx l (rE tx l e))
            · rw [if_neg (nI_nlt g3 (by omega))]; exact bad2 (Or.inl g3)
            · rw [if_pos (nI_lt (by omega) (by omega))]
              by_cases g4 : nud tx l (rE tx l (rE tx l e)) = nud tx l (rE tx l e)
              · rw [if_pos (by rw [g4])]; exact bad2 (Or.inr g4)
              · have hR : lnR tx l e b = (999, rE tx l (rE tx l (rE tx l e)), b, kwd tx l e, nud tx l (rE tx l e), nud tx l (rE tx l (rE tx l e))) := by unfold lnR; rw [if_neg k3, if_neg k2, if_neg g1, if_neg (fun w => w.elim g3 g4)]
                rw [hR, if_neg (nI_ne (by omega) (by omega) g4), y_ck _ hj (by omega), nI_clamp (by omega), bd_s, y_ck _ hj (by omega), bd_s, y_ck _ hj (by omega), bd_s]
                refine ok_some ⟨fl_a (fl_a (fl_a F12 (by omega)) (by omega)) (by omega), Or.inr ⟨rfl, rfl, ?_, ?_, ?_, ?_, fun _ => ?_, fun i hi => ⟨?_, ?_, ?_⟩⟩⟩
                · rw [gsI_o (by decide), gsI_o (by decide), gsI_o (by decide)]; exact c2
                · rw [gsI_o (by decide), gsI_o (by decide), gsI_o (by decide)]; exact m124
                · rw [gsI_o (by decide), gsI_o (by decide), gsI_s, if_pos rfl]
                · rw [gsI_o (by decide), gsI_s, if_pos rfl]
                · rw [gsI_s, if_pos rfl]
                · rw [gsI_o (by decide), gsI_o (by decide), gsI_s, if_neg hi, c3.1.1 8 (by decide), b3.1.1 8 (by decide), a3.1.1 8 (by decide)]
                · rw [gsI_o (by decide), gsI_s, if_neg hi, gsI_o (by decide), c3.1.1 9 (by decide), b3.1.1 9 (by decide), a3.1.1 9 (by decide)]
                · rw [gsI_s, if_neg hi, gsI_o (by decide), gsI_o (by decide), c3.1.1 10 (by decide), b3.1.1 10 (by decide), a3.1.1 10 (by decide)]
end RD
