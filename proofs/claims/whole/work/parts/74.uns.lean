theorem y_bt32 {S p : Nat} (hp : p < 32) : (nI S >>> (nI p &&& 31)) &&& nI 1 = nI (S.testBit p).toNat := by
  apply Int32.toBitVec_inj.1
  rw [Int32.toBitVec_and, Int32.toBitVec_shiftRight]
  apply BitVec.eq_of_getLsbD_eq
  intro i hi
  have e1 : (nI 1).toBitVec.getLsbD i = decide (i = 0) := by
    show (BitVec.ofNat 32 1).getLsbD i = _
    rw [BitVec.getLsbD_ofNat, show (1 : Nat) = 2 ^ 0 from rfl, tb_pow]
    simp [hi, eq_comm]
  have e2 : (nI (S.testBit p).toNat).toBitVec.getLsbD i = (decide (i = 0) && S.testBit p) := by
    show (BitVec.ofNat 32 (S.testBit p).toNat).getLsbD i = _
    rw [BitVec.getLsbD_ofNat]
    cases S.testBit p
    · simp
    · show (decide (i < 32) && (2 ^ 0).testBit i) = _
      rw [tb_pow]
      simp [hi, eq_comm]
  rw [BitVec.getLsbD_and, e1, e2, show (nI S).toBitVec.sshiftRight' ((nI p &&& 31).toBitVec.smod 32) = (nI S).toBitVec.sshiftRight (((nI p &&& 31).toBitVec.smod 32).toNat) from rfl, z_sl p hp]
  by_cases h0 : i = 0
  · subst h0
    have : (nI S).toBitVec.getLsbD p = S.testBit p := by
      show (BitVec.ofNat 32 S).getLsbD p = _
      rw [BitVec.getLsbD_ofNat]; simp [hp]
    rw [BitVec.getLsbD_sshiftRight]
    simp only [hp, decide_true, Bool.not_eq_true', Nat.add_zero, if_true, Bool.and_true, Bool.true_and, hi, Nat.lt_irrefl, decide_false, Bool.not_false, Nat.not_le.mpr hi]
    exact this
  · simp [h0]
theorem e_has32 {s : St} {S p : Nat} (hp : p < 32) : f_X9_has s (nI S) (nI p) = some (nI (S.testBit p).toNat) := by
  unfold f_X9_has
  rw [q_0, q_1, y_bt32 hp]
  cases S.testBit p <;> rfl
theorem y_and31 (x : Nat) : nI x &&& (31 : Int32) = nI (x % 32) := by
  rw [show (31 : Int32) = nI 31 from rfl, z_and]
  exact congrArg nI (Nat.and_two_pow_sub_one_eq_mod x 5)
theorem y_pw32 {p : Nat} (hp : p < 32) : nI 1 <<< (nI p &&& 31) = nI (2 ^ p) := by
  have := z_shl (a := 1) hp (by rw [Nat.one_mul]; exact Nat.pow_lt_pow_right (by decide) hp)
  rw [Nat.one_mul] at this
  exact this
def CR (s : St) (L : List (Nat × Nat × Nat)) : Prop := (s.1 14 5 = nI L.length) ∧ (s.1 14 6 = if endB L = true then nI (L.length - 1) else M1) ∧ (∀ (i : Nat) (x : Nat × Nat × Nat), L[i]? = some x → s.1 15 i = nI x.1 ∧ s.1 16 i = dI x.2.1) ∧ (∃ W : Nat → Nat, (∀ w, w < 512 → W w < 2 ^ 32 ∧ s.1 17 w = nI (W w)) ∧ ∀ q, q < 16384 → (W (q / 32)).testBit (q % 32) = hasK L q)
theorem CR.ct {s : St} {L : List (Nat × Nat × Nat)} (h : CR s L) : s.1 14 5 = nI L.length := h.1
theorem CR.en {s : St} {L : List (Nat × Nat × Nat)} (h : CR s L) : s.1 14 6 = if endB L = true then nI (L.length - 1) else M1 := h.2.1
theorem CR.q {s : St} {L : List (Nat × Nat × Nat)} (h : CR s L) : ∀ (i : Nat) (x : Nat × Nat × Nat), L[i]? = some x → s.1 15 i = nI x.1 ∧ s.1 16 i = dI x.2.1 := h.2.2.1
theorem CR.mt {s : St} {L : List (Nat × Nat × Nat)} (h : CR s L) : ∃ W : Nat → Nat, (∀ w, w < 512 → W w < 2 ^ 32 ∧ s.1 17 w = nI (W w)) ∧ ∀ q, q < 16384 → (W (q / 32)).testBit (q % 32) = hasK L q := h.2.2.2
def Fu (σ s : St) : Prop := Fr (fun c => 14 ≤ c ∧ c ≤ 17) σ s ∧ ∀ j, j ≠ 5 → j ≠ 6 → s.1 14 j = σ.1 14 j
theorem fu_refl {σ : St} : Fu σ σ := ⟨fr_refl, fun _ _ _ => rfl⟩
theorem fu_trans {a b c : St} (h : Fu a b) (g : Fu b c) : Fu a c := ⟨fr_trans h.1 g.1, fun j h5 h6 => (g.2 j h5 h6).trans (h.2 j h5 h6)⟩
theorem fu_14 {σ s : St} {j : Nat} {v : Int32} (h : Fu σ s) (hj : j = 5 ∨ j = 6) : Fu σ (setI s 14 j v) := ⟨fr_setI h.1 (by omega), fun x h5 h6 => by rw [gsI_s, if_neg (by omega)]; exact h.2 x h5 h6⟩
theorem fu_set {σ s : St} {a j : Nat} {v : Int32} (h : Fu σ s) (ha : 15 ≤ a ∧ a ≤ 17) : Fu σ (setI s a j v) := ⟨fr_setI h.1 (by omega), fun x h5 h6 => by rw [gsI_o (by omega)]; exact h.2 x h5 h6⟩
section UNS
variable {σ : St} {n c k : Nat} {O : Nat → Nat} {L : List (Nat × Nat × Nat)}
theorem e_meet (hk : k < 2) (hg : GL n k L) (h : CR σ L) {r S p w : Nat} (hS : S < 256) (hv : vkB k (256 * r + S) = true) (hV : Vr n (k + 1) ((256 * r + S) / 256)) : Ok (f_X8_meet σ (nI r) (nI S) (dI p)) (fun q => CR q.2 (mtL L (256 * r + S) p w) ∧ Fu σ q.2) := by
  have hq := vk_lt hk hv
  have hlen := gl_len hk hg
  obtain ⟨W, hW, hM⟩ := h.mt
  have hw := hW ((256 * r + S) / 32) (by omega)
  have hh := hM (256 * r + S) hq
  unfold f_X8_meet
  rw [q_256, pk_mul, Nat.mul_comm r 256, nI_add, bd_s, q_5, z_shr (by omega) (by omega), bd_s, show (256 * r + S) / 2 ^ 5 = (256 * r + S) / 32 from rfl, y_and31, q_mm, q_2816, q_512, h.en]
  cases he : endB L with
  | true =>
    rw [if_pos rfl, if_neg (nI_mm (by omega))]
    exact ok_some ⟨by rw [mt_end he]; exact h, fu_refl⟩
  | false =>
    rw [if_neg (show ¬ false = true by decide), if_pos rfl, h.ct]
    have hhas : mtL L (256 * r + S) p w = if hasK L (256 * r + S) = true then L else L ++ [(256 * r + S, p, w)] := by unfold mtL; rw [he, if_neg (by decide)]
    rw [hhas]
    by_cases hc : L.length < 2816
    · rw [if_pos (nI_lt hc (by omega)), q_0, if_neg (nI_nlt (Nat.zero_le _) (by omega)), if_pos (nI_lt (by omega) (by omega)), y_ck _ (by omega) (by omega), nI_clamp (by omega), hw.2, e_has32 (by omega), calP_s, hh]
      cases hb : hasK L (256 * r + S) with
      | true =>
        rw [if_neg b_t0, if_pos rfl]
        exact ok_some ⟨h, fu_refl⟩
      | false =>
        have hl2 : (L ++ [(256 * r + S, p, w)]).length = L.length + 1 := by rw [List.length_append]; rfl
        rw [if_pos b_f0, if_neg (show ¬ false = true by decide), y_ck _ (by omega) (by omega), y_ck _ (by omega) (by omega), q_1, y_pw32 (by omega), z_or, bd_s, gsI_o (by decide), h.ct, y_ck _ hc (by omega), nI_clamp (by omega), bd_s, gsI_o (by decide), gsI_o (by decide), h.ct, y_ck _ hc (by omega), nI_clamp (by omega), bd_s, jn1]
        dsimp only
        simp only [bd_s]
        have base : ∀ s, (s = setI (setI (setI σ 17 ((256 * r + S) / 32) (nI (W ((256 * r + S) / 32) ||| 2 ^ ((256 * r + S) % 32)))) 15 L.length (nI (256 * r + S))) 16 L.length (dI p) ∧ S ≠ 0) ∨ (s = setI (setI (setI (setI σ 17 ((256 * r + S) / 32) (nI (W ((256 * r + S) / 32) ||| 2 ^ ((256 * r + S) % 32)))) 15 L.length (nI (256 * r + S))) 16 L.length (dI p)) 14 6 (nI L.length) ∧ S = 0) → CR (setI s 14 5 (s.1 14 5 + nI 1)) (L ++ [(256 * r + S, p, w)]) ∧ Fu σ (setI s 14 5 (s.1 14 5 + nI 1)) := by
          intro s hs
          have h15 : s.1 15 = (setI σ 15 L.length (nI (256 * r + S))).1 15 := by
            funext y
            rcases hs with ⟨rfl, -⟩ | ⟨rfl, -⟩
            · rw [gsI_o (by decide), gsI_s, gsI_s, gsI_o (by decide)]
            · rw [gsI_o (by decide), gsI_o (by decide), gsI_s, gsI_s, gsI_o (by decide)]
          have h16 : s.1 16 = (setI σ 16 L.length (dI p)).1 16 := by
            funext y
            rcases hs with ⟨rfl, -⟩ | ⟨rfl, -⟩
            · rw [gsI_s, gsI_s, gsI_o (by decide), gsI_o (by decide)]
            · rw [gsI_o (by decide), gsI_s, gsI_s, gsI_o (by decide), gsI_o (by decide)]
          have h17 : s.1 17 = (setI σ 17 ((256 * r + S) / 32) (nI (W ((256 * r + S) / 32) ||| 2 ^ ((256 * r + S) % 32)))).1 17 := by
            rcases hs with ⟨rfl, -⟩ | ⟨rfl, -⟩
            · rw [gsI_o (by decide), gsI_o (by decide)]
            · rw [gsI_o (by decide), gsI_o (by decide), gsI_o (by decide)]
          have h5 : s.1 14 5 = nI L.length := by
            rcases hs with ⟨rfl, -⟩ | ⟨rfl, -⟩
            · rw [gsI_o (by decide), gsI_o (by decide), gsI_o (by decide), h.ct]
            · rw [gsI_s, if_neg (by decide), gsI_o (by decide), gsI_o (by decide), gsI_o (by decide), h.ct]
          have h6 : s.1 14 6 = if decide (S = 0) = true then nI L.length else M1 := by
            rcases hs with ⟨rfl, e⟩ | ⟨rfl, e⟩
            · rw [gsI_o (by decide), gsI_o (by decide), gsI_o (by decide), h.en, he, decide_eq_false e]
              rfl
            · rw [gsI_s, if_pos rfl, decide_eq_true e, if_pos rfl]
          have hF : Fu σ s := by
            rcases hs with ⟨rfl, -⟩ | ⟨rfl, -⟩
            · exact fu_set (fu_set (fu_set fu_refl (by omega)) (by omega)) (by omega)
            · exact fu_14 (fu_set (fu_set (fu_set fu_refl (by omega)) (by omega)) (by omega)) (by omega)
          refine ⟨⟨?_, ?_, ?_, ?_⟩, fu_14 hF (by omega)⟩
          · rw [gsI_s, if_pos rfl, h5, nI_add, hl2]
          · rw [gsI_s, if_neg (by decide), h6, end_snoc, hl2, show (256 * r + S) % 256 = S by omega, Nat.add_sub_cancel]
          · intro i x hx
            rw [gsI_o (by decide), gsI_o (by decide), h15, h16, gsI_s, gsI_s]
            rcases get_snoc.mp hx with a | ⟨a, rfl⟩
            · have := get_lt a
              rw [if_neg (by omega), if_neg (by omega)]
              exact h.q i x a
            · rw [if_pos a, if_pos a]; exact ⟨rfl, rfl⟩
          · refine ⟨fun y => if y = (256 * r + S) / 32 then W y ||| 2 ^ ((256 * r + S) % 32) else W y, fun y hy => ?_, fun y hy => ?_⟩
            · rw [gsI_o (by decide), h17, gsI_s]
              show (if y = (256 * r + S) / 32 then W y ||| 2 ^ ((256 * r + S) % 32) else W y) < 2 ^ 32 ∧ _ = nI (if y = (256 * r + S) / 32 then W y ||| 2 ^ ((256 * r + S) % 32) else W y)
              by_cases e : y = (256 * r + S) / 32
              · rw [if_pos e, if_pos e, e]
                exact ⟨or_lt hw.1 (Nat.pow_lt_pow_right (by decide) (by omega)), rfl⟩
              · rw [if_neg e, if_neg e]; exact hW y hy
            · show (if y / 32 = (256 * r + S) / 32 then W (y / 32) ||| 2 ^ ((256 * r + S) % 32) else W (y / 32)).testBit (y % 32) = _
              rw [has_snoc]
              by_cases e : y / 32 = (256 * r + S) / 32
              · rw [if_pos e, Nat.testBit_or, tb_pow, hM y hy]
                congr 1
                rw [decide_eq_decide]
                constructor
                · intro h1; show 256 * r + S = y; omega
                · intro (h1 : 256 * r + S = y); omega
              · rw [if_neg e, hM y hy, decide_eq_false (show ¬ (256 * r + S, p, w).1 = y from fun (h1 : 256 * r + S = y) => e (by rw [h1])), Bool.or_false]
        by_cases e : S = 0
        · rw [if_pos (by rw [e])]
          exact ok_some (base _ (Or.inr ⟨by rw [gsI_o (by decide), gsI_o (by decide), gsI_o (by decide), h.ct], e⟩))
        · rw [if_neg (nI_ne (by omega) (by omega) e)]
          exact ok_some (base _ (Or.inl ⟨rfl, e⟩))
    · rw [if_neg (nI_nlt (by omega) (by omega))]
      cases hb : hasK L (256 * r + S) with
      | true => rw [if_pos rfl]; exact ok_some ⟨h, fu_refl⟩
      | false => exact absurd (gl_new hk hg he hb hv hV) hc
end UNS
