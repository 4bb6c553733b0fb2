/-! best, of the reference -/
section BESTM
variable {σ : St} {n c k s i sp : Nat} {O : Nat → Nat} {lv : Nat → Nat → Nat}
theorem mt_fr {x y : St} (h : MT x n O k s) (e : y.1 105 = x.1 105) : MT y n O k s := fun r p hr hp => by rw [e]; exact h r p hr hp
theorem m_bestLoop (hN : NM σ n O) (hk : k < 3) (h1 : 1 ≤ s) (h3 : s ≤ 3) (hl : HL n O k s lv) (hm : MT σ n O k s) : Ok (lo3 FU (fun rec5 (s2 : St) (x3 : Int32) (x4 : Int32) =>
      calP (f_X10_powerOf s2 (nI (k + 1))) fun r7 =>
        (if x4 < r7 then
          cal (f_X10_isSetting s2 (nI (k + 1)) x4) fun r8 s9 =>
            (if r8 = 0 then
              rec5 s9 x3 (x4 + 1)
               else
              calP (f_X10_worthOf s9 (nI (k + 1)) (nI s) x4) fun r10 =>
                (if r10 = (-1 : Int32) then
                  rec5 s9 x3 (x4 + 1)
                   else
                  (if x3 = (-1 : Int32) then
                    rec5 s9 x4 (x4 + 1)
                     else
                    calP (f_X10_worthOf s9 (nI (k + 1)) (nI s) x4) fun r11 =>
                      calP (f_X10_worthOf s9 (nI (k + 1)) (nI s) x3) fun r12 =>
                        (if r11 < r12 then
                          rec5 s9 x4 (x4 + 1)
                           else
                          rec5 s9 x3 (x4 + 1)))))
           else
          some (x3, s2))) σ (-1 : Int32) (0 : Int32)) (fun q => q.1 = bb n (k + 1) lv (8 ^ (k + 1)) ∧ Fr (fun c => c = 108) σ q.2) := by
  have h512 := p8_le k hk
  rw [q_0, q_mm]
  refine lo3_for (fun j x y => y = bb n (k + 1) lv j ∧ Fr (fun c => c = 108) σ x) (8 ^ (k + 1)) ?_ ?_ FU 0 _ _ (Nat.zero_le _) (fu_lt (by omega)) ⟨rfl, fr_refl⟩
  · rintro rec r x y hr ⟨rfl, e2⟩ kk
    have hx := nm_fr hN e2 (by omega) (by omega)
    have hbl := bl_le (n := n) (lv := lv) (k + 1) r
    rw [e_power hk, calP_s, if_pos (nI_lt hr (by omega))]
    refine ok_cal (m_isSetting hx hk hr) (fun w s1 ⟨w1, w2⟩ => ?_)
    dsimp only at w1 w2
    subst w1
    have f1 : Fr (fun c => c = 108) σ s1 := fr_trans e2 w2
    have hx1 := nm_fr hN f1 (by omega) (by omega)
    have hm1 : MT s1 n O k s := mt_fr hm (f1.1 105 (by omega))
    rw [q_1, nI_add]
    rw [bb] at kk
    cases hb : (vrB n (k + 1) r && decide (srt (k + 1) r = r)) with
    | false =>
      rw [if_pos (show nI false.toNat = nI 0 from rfl)]
      have hb' : sgB n (k + 1) r = false := hb
      exact kk _ _ ⟨by rw [if_neg (fun q => by rw [hb'] at q; exact Bool.noConfusion q.1)], f1⟩
    | true =>
      have hb' : sgB n (k + 1) r = true := hb
      have hsg := sgB_iff.mp hb'
      have hw : wt n lv r ≤ 1048576 := wt_le hl hsg.1
      rw [if_neg (show ¬ nI true.toNat = nI 0 by decide), m_worthOf hx1 hk h1 h3 hl hm1 hsg, calP_s]
      by_cases q1 : wt n lv r = 1048576
      · rw [q1, mv_e, if_pos rfl]
        exact kk _ _ ⟨by rw [if_neg (fun q => by omega)], f1⟩
      · rw [if_neg (fun q => q1 ((mv_m1 hw).mp q)), mv_n (by omega), calP_s]
        rcases bb_inv (n := n) (lv := lv) (k + 1) r with ⟨b1, b2⟩ | ⟨r', b1, b2, b3, b4, b5⟩
        · rw [b1, if_pos rfl]
          exact kk _ _ ⟨by rw [if_pos ⟨hb', by omega⟩], f1⟩
        · rw [b3, if_neg (show ¬ nI r' = M1 from nI_m1 (by omega)), m_worthOf hx1 hk h1 h3 hl hm1 b2, calP_s, mv_n (by omega)]
          by_cases q : wt n lv r < wt n lv r'
          · rw [if_pos (nI_lt q (by omega))]
            exact kk _ _ ⟨by rw [if_pos ⟨hb', by omega⟩], f1⟩
          · rw [if_neg (nI_nlt (by omega) (by omega))]
            exact kk _ _ ⟨by rw [if_neg (fun e => by omega), b3], f1⟩
  · rintro rec x y ⟨rfl, e2⟩
    rw [e_power hk, calP_s, if_neg (nI_nlt (Nat.le_refl _) (by omega))]
    exact ok_some ⟨rfl, e2⟩
end BESTM
