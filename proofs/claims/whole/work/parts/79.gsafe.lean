noncomputable def pB (P : Prop) : Bool := @decide P (Classical.propDecidable P)
theorem pB_iff {P : Prop} : pB P = true ↔ P := ⟨fun h => @of_decide_eq_true P (Classical.propDecidable P) h, fun h => @decide_eq_true P (Classical.propDecidable P) h⟩
theorem ex_iff {f : Nat → Bool} {m : Nat} : fsN f m < m ↔ ∃ q, q < m ∧ f q = true := by
  constructor
  · intro h; exact ⟨_, h, (fs_sp f m).2.1 h⟩
  · rintro ⟨q, h1, h2⟩; exact fs_ex h1 h2
def MV (g : Nat) (O : Nat → Nat) (S T : Nat) : Prop := if g = 0 then GA O S T else TG O 8 S T
noncomputable def anB (g : Nat) (O : Nat → Nat) (F : Nat → Bool) (S p T : Nat) : Bool := T.testBit p && F T && pB (MV g O S T)
noncomputable def noB (g : Nat) (O : Nat → Nat) (F : Nat → Bool) (S p : Nat) : Bool := !S.testBit p && !decide (fsN (anB g O F S p) 256 < 256)
noncomputable def okB (g n : Nat) (O : Nat → Nat) (F : Nat → Bool) (S : Nat) : Bool := !decide (fsN (noB g O F S) n < n)
noncomputable def dpS (g n : Nat) (O : Nat → Nat) (F : Nat → Bool) : Nat → Nat → Bool
  | 0 => F
  | m + 1 => fun T => if T = m ∧ okB g n O (dpS g n O F m) m = false then false else dpS g n O F m T
noncomputable def dpN (g n : Nat) (O : Nat → Nat) (F : Nat → Bool) : Nat → Nat → Bool
  | 0 => F
  | j + 1 => dpS g n O (dpN g n O F j) (2 ^ n)
def FS0 (n T : Nat) : Bool := decide (0 < T ∧ T < 2 ^ n)
noncomputable def FF (g n : Nat) (O : Nat → Nat) : Nat → Bool := dpN g n O (FS0 n) 300
def cnF (F : Nat → Bool) : Nat := sm (fun T => if F T = true then 1 else 0) 256
section GSAFE
variable {σ : St} {n c g : Nat} {O : Nat → Nat} {F : Nat → Bool}
theorem dp_le : ∀ m T, dpS g n O F m T = true → F T = true := by
  intro m
  induction m with
  | zero => intro T h; exact h
  | succ m ih =>
    intro T h
    rw [dpS] at h
    dsimp only at h
    split at h
    · cases h
    · exact ih T h
theorem dpN_le : ∀ j T, dpN g n O F j T = true → F T = true := by
  intro j
  induction j with
  | zero => intro T h; exact h
  | succ j ih => intro T h; exact ih T (dp_le _ T h)
theorem dpN_st {j : Nat} (h : dpS g n O (dpN g n O F j) (2 ^ n) = dpN g n O F j) : ∀ d, dpN g n O F (j + d) = dpN g n O F j := by
  intro d
  induction d with
  | zero => rfl
  | succ d ih => rw [← Nat.add_assoc, dpN, ih, h]
theorem FF_of {j : Nat} (hj : j ≤ 300) (h : dpS g n O (dpN g n O (FS0 n) j) (2 ^ n) = dpN g n O (FS0 n) j) : FF g n O = dpN g n O (FS0 n) j := by
  have := dpN_st h (300 - j)
  rwa [show j + (300 - j) = 300 by omega] at this
theorem cn_le (F : Nat → Bool) : cnF F ≤ 256 := by
  have := sm_bd (f := fun T => if F T = true then 1 else 0) (b := 1) (fun r => by split <;> omega) 256
  unfold cnF; omega
theorem cn_lt {G : Nat → Bool} (h : ∀ T, G T = true → F T = true) {T : Nat} (hT : T < 256) (h1 : F T = true) (h2 : G T = false) : cnF G < cnF F := by
  refine sm_lt (fun r => ?_) (r := T) ?_ 256 hT
  · cases hg : G r with
    | true => rw [h r hg]; exact Nat.le_refl _
    | false => exact Nat.zero_le _
  · show (if G T = true then 1 else 0) < if F T = true then 1 else 0
    rw [h1, h2]; decide
theorem FF_lt {T : Nat} (h : FF g n O T = true) : 0 < T ∧ T < 2 ^ n := of_decide_eq_true (dpN_le 300 T h)
/-- the row of sets that are held to be safe -/
def Sf (s : St) (g : Nat) (F : Nat → Bool) : Prop := ∀ T, T < 256 → rb (s.2 (28 + 3 * g)) 0 T = F T
def Mo (s : St) (g n : Nat) (O : Nat → Nat) : Prop := ∀ S, 0 < S → S < 2 ^ n → ∀ T, T < 256 → (rb (s.2 (27 + 3 * g)) (S * 4) T = true ↔ MV g O S T)
theorem e_isSafe (h : Sf σ g F) {S : Nat} (hS : S < 256) : f_X2_isSafe σ g (nI S) = some (nI (F S).toNat) := by
  unfold f_X2_isSafe
  rw [q_0, q_1, q_256, if_neg (nI_nlt (Nat.zero_le _) (by omega)), if_pos (nI_lt hS (by omega)), q_6, z_shr (by omega) (by omega), show S / 2 ^ 6 = S / 64 from rfl, y_ck _ (by omega) (by omega), nI_clamp (by omega), y_and63]
  have hb := h S hS
  unfold rb at hb
  rw [Nat.zero_add] at hb
  have hc : lg_cmp (σ.2 (28 + 3 * g) (S / 64) >>> ((nI (S % 64)).toInt64 &&& 63) &&& 1) 0 = nI 0 ↔ F S = false := by
    rw [cmpN, lb_shr (Nat.mod_lt _ (by decide)), hb]
  cases hF : F S with
  | false => rw [if_pos (hc.mpr hF)]; rfl
  | true => rw [if_neg (fun e => by rw [hc.mp e] at hF; cases hF)]; rfl
theorem e_answersIn (hS : Sf σ g F) (hM : Mo σ g n O) (h8 : n ≤ 8) {S p w : Nat} (h0 : 0 < S) (h1 : S < 2 ^ n) (hp : p < 8) (hw : w < 4) : Ok (f_X2_answersIn σ g (nI S) (nI p) (nI w)) (fun x => ∀ i, i < 64 → lb x i = anB g O F S p (64 * w + i)) := by
  have h256 := p256 h8
  unfold f_X2_answersIn
  rw [q_0, q_256, q_4, if_neg (nI_nlt (Nat.zero_le _) (by omega)), if_pos (nI_lt (by omega) (by omega)), if_neg (nI_nlt (Nat.zero_le _) (by omega)), if_pos (nI_lt hw (by omega)), pk_mul, nI_add, y_ck _ (by omega) (by omega), y_ck _ (by omega) (by omega), e_having hp hw, calP_s, nI_clamp (by omega), nI_clamp (by omega)]
  refine ok_some (fun i hi => ?_)
  rw [lb_and, lb_and, hv_tb hp hw hi]
  have a1 := hM S h0 h1 (64 * w + i) (by omega)
  have a2 := hS (64 * w + i) (by omega)
  unfold rb at a1 a2
  rw [show (64 * w + i) / 64 = w by omega, show (64 * w + i) % 64 = i by omega] at a1 a2
  rw [Nat.zero_add] at a2
  have a3 : lb (σ.2 (27 + 3 * g) (S * 4 + w)) i = pB (MV g O S (64 * w + i)) := by
    rw [Bool.eq_iff_iff, a1, pB_iff]
  rw [a3, a2, anB]
  cases pB (MV g O S (64 * w + i)) <;> cases F (64 * w + i) <;> cases (64 * w + i).testBit p <;> rfl
theorem e_answersAll (hN : NC σ n O c) (hS : Sf σ g F) (hM : Mo σ g n O) {S : Nat} (h0 : 0 < S) (h1 : S < 2 ^ n) : f_X2_answersAll σ g (nI S) = some (nI (okB g n O F S).toNat) := by
  have h8 := hN.np.h8
  have h256 := p256 h8
  unfold f_X2_answersAll f_X3_places
  rw [q_0, q_1, q_4]
  refine ok_eq (lo1_for (fun p => ∀ q, q < p → noB g O F S q = false) n ?_ ?_ FU 0 (by omega) (fu_lt (by omega)) fs_nil)
  · intro rec p hp hI kk
    rw [hN.pl, calP_s, if_pos (nI_lt hp (by omega)), e_has (by omega) (by omega), calP_s, nI_add]
    have fin : ∀ b : Bool, b = (S.testBit p || decide (fsN (anB g O F S p) 256 < 256)) → Ok (if nI b.toNat = nI 0 then some (nI 0) else rec (nI (p + 1))) (fun x => x = nI (okB g n O F S).toNat) := by
      intro b hb
      have hno : noB g O F S p = !b := by
        rw [hb]; unfold noB
        cases S.testBit p <;> cases decide (fsN (anB g O F S p) 256 < 256) <;> rfl
      cases b with
      | false =>
        rw [if_pos b_f0]
        refine ok_some ?_
        unfold okB
        rw [fs_hit hp hI hno, decide_eq_true hp]; rfl
      | true =>
        rw [if_neg b_t0]
        exact kk (fs_ext hI hno)
    refine lo2_for (fun w y => y = nI (S.testBit p || decide (fsN (anB g O F S p) (64 * w) < 64 * w)).toNat) 4 ?_ ?_ FU 0 _ (by omega) (fu_lt (by omega)) (by rw [show decide (fsN (anB g O F S p) (64 * 0) < 64 * 0) = false from rfl, Bool.or_false])
    · rintro rec2 w y hw rfl k2
      rw [jn0, if_pos (nI_lt hw (by omega))]
      cases hb : (S.testBit p || decide (fsN (anB g O F S p) (64 * w) < 64 * w)) with
      | true =>
        rw [if_neg b_t0]
        refine fin true ?_
        cases hs : S.testBit p with
        | true => rfl
        | false =>
          rw [hs, Bool.false_or] at hb
          obtain ⟨q, q1, q2⟩ := ex_iff.mp (of_decide_eq_true hb)
          rw [decide_eq_true (fs_ex (show q < 256 by omega) q2)]; rfl
      | false =>
        rw [if_pos b_f0]
        refine ok_calP (e_answersIn hS hM h8 h0 h1 (by omega) hw) ?_
        intro x hx
        rw [Bool.or_eq_false_iff] at hb
        rw [nI_add]
        have hno : ∀ q, q < 64 * w → anB g O F S p q = false := fun q hq => by
          cases e : anB g O F S p q with
          | false => rfl
          | true => exact absurd (fs_ex hq e) (of_decide_eq_false hb.2)
        by_cases hz : x = 0
        · rw [if_pos ((cmpN _).mpr hz)]
          refine k2 _ ?_
          have : fsN (anB g O F S p) (64 * (w + 1)) = 64 * (w + 1) := fs_miss (fun q hq => by
            rcases Nat.lt_or_ge q (64 * w) with e | e
            · exact hno q e
            · have := hx (q - 64 * w) (by omega)
              rw [hz, lb_0, show 64 * w + (q - 64 * w) = q by omega] at this
              exact this.symm)
          rw [this, hb.1, decide_eq_false (Nat.lt_irrefl _)]; rfl
        · rw [if_neg (fun e => hz ((cmpN _).mp e))]
          refine k2 _ ?_
          have hex : ∃ i, i < 64 ∧ lb x i = true := by
            rcases Nat.lt_or_ge (fsN (lb x) 64) 64 with q | q
            · exact ex_iff.mp q
            · exact absurd (lb_zero.mpr (fun i hi => (fs_sp (lb x) 64).2.2 i (by omega))) hz
          obtain ⟨i, i1, i2⟩ := hex
          rw [hx i i1] at i2
          rw [decide_eq_true (fs_ex (show 64 * w + i < 64 * (w + 1) by omega) i2), Bool.or_true]; rfl
    · rintro rec2 y rfl
      rw [jn0, if_neg (nI_nlt (Nat.le_refl _) (by omega))]
      exact fin _ rfl
  · intro rec hI
    rw [hN.pl, calP_s, if_neg (nI_nlt (Nat.le_refl _) (by omega))]
    refine ok_some ?_
    unfold okB
    rw [fs_miss hI, decide_eq_false (Nat.lt_irrefl _)]; rfl
theorem sf_drop (h : Sf σ g F) {S : Nat} (hS : S < 256) : Sf (setL σ (28 + 3 * g) (S / 64) (σ.2 (28 + 3 * g) (S / 64) &&& (((1 : Int64) <<< ((nI (S % 64)).toInt64 &&& 63)) ^^^ (-1)))) g (fun T => if T = S then false else F T) := by
  intro T hT
  have hi : T % 64 < 64 := Nat.mod_lt _ (by decide)
  have ho := h T hT
  unfold rb at ho ⊢
  rw [Nat.zero_add] at ho ⊢
  rw [gsL_s]
  show _ = if T = S then false else F T
  by_cases e : T / 64 = S / 64
  · rw [if_pos e, lb_and, lb_not _ hi, lb_one (Nat.mod_lt _ (by decide)) hi, ← e, ho]
    by_cases e2 : T = S
    · rw [if_pos e2, e2, decide_eq_true rfl]; simp
    · rw [if_neg e2, decide_eq_false (by omega)]; simp
  · rw [if_neg e, ho, if_neg (fun q => e (by rw [q]))]
theorem e_dropUnsafe (hN : NC σ n O c) (hg : g < 2) (hS : Sf σ g F) (hM : Mo σ g n O) (hF0 : F 0 = false) : Ok (f_X2_dropUnsafe σ g) (fun q => (∃ b : Bool, q.1 = nI b.toNat ∧ (b = false → dpS g n O F (2 ^ n) = F) ∧ (b = true → ∃ T, T < 256 ∧ F T = true ∧ dpS g n O F (2 ^ n) T = false)) ∧ Sf q.2 g (dpS g n O F (2 ^ n)) ∧ Fr (fun c => c = 28 + 3 * g) σ q.2 ∧ q.2.1 = σ.1) := by
  have h8 := hN.np.h8
  have h256 := p256 h8
  have h2 := Nat.two_pow_pos n
  have d1 : dpS g n O F 1 = F := by
    funext T
    show (if T = 0 ∧ okB g n O F 0 = false then false else F T) = F T
    split
    · rename_i e; rw [e.1, hF0]
    · rfl
  unfold f_X2_dropUnsafe
  rw [q_0, q_1, q_256, q_6]
  refine lo3_for (fun S s d => 1 ≤ S ∧ (∃ b : Bool, d = nI b.toNat ∧ (b = false → dpS g n O F S = F) ∧ (b = true → ∃ T, T < 256 ∧ F T = true ∧ dpS g n O F S T = false)) ∧ Sf s g (dpS g n O F S) ∧ Fr (fun c => c = 28 + 3 * g) σ s ∧ s.1 = σ.1) (2 ^ n) ?_ ?_ FU 1 _ _ (by omega) (fu_lt (by omega)) ⟨Nat.le_refl _, ⟨false, rfl, fun _ => d1, fun e => (by cases e)⟩, by rw [d1]; exact hS, fr_refl, rfl⟩
  · rintro rec S s d hSl ⟨i0, ⟨b, rfl, ib1, ib2⟩, i2, i3, i4⟩ kk
    have hNs : NC s n O c := nc_fr hN i3 (fun x hx => by omega)
    have hMs : Mo s g n O := fun S' a1 a2 T a3 => by rw [i3.2 (27 + 3 * g) (by omega)]; exact hM S' a1 a2 T a3
    have hle := dp_le (g := g) (n := n) (O := O) (F := F)
    rw [e_all hNs.z, calP_s, if_neg (nI_nlt (by omega) (by omega)), if_pos (nI_lt (by omega) (by omega)), e_isSafe i2 (by omega), calP_s, nI_add]
    have keep : (dpS g n O F S S = false ∨ okB g n O (dpS g n O F S) S = true) → dpS g n O F (S + 1) = dpS g n O F S := by
      intro hh
      funext T
      show (if T = S ∧ okB g n O (dpS g n O F S) S = false then false else dpS g n O F S T) = dpS g n O F S T
      split
      · rename_i e
        rcases hh with hh | hh
        · rw [e.1, hh]
        · rw [e.2] at hh; cases hh
      · rfl
    cases hb : dpS g n O F S S with
    | false =>
      rw [if_pos b_f0]
      exact kk _ _ (by rw [keep (Or.inl hb)]; exact ⟨by omega, ⟨b, rfl, ib1, ib2⟩, i2, i3, i4⟩)
    | true =>
      rw [if_neg b_t0, e_answersAll hNs i2 hMs (by omega) hSl, calP_s]
      cases ho : okB g n O (dpS g n O F S) S with
      | true =>
        rw [if_neg b_t0]
        exact kk _ _ (by rw [keep (Or.inr ho)]; exact ⟨by omega, ⟨b, rfl, ib1, ib2⟩, i2, i3, i4⟩)
      | false =>
        rw [if_pos b_f0, z_shr (by omega) (by omega), show S / 2 ^ 6 = S / 64 from rfl, y_ck _ (by omega) (by omega), y_ck _ (by omega) (by omega), nI_clamp (by omega), y_and63, bd_s]
        have hd : dpS g n O F (S + 1) = fun T => if T = S then false else dpS g n O F S T := by
          funext T
          show (if T = S ∧ okB g n O (dpS g n O F S) S = false then false else dpS g n O F S T) = if T = S then false else dpS g n O F S T
          by_cases e : T = S
          · rw [if_pos ⟨e, ho⟩, if_pos e]
          · rw [if_neg (fun w => e w.1), if_neg e]
        refine kk _ _ ⟨by omega, ⟨true, rfl, fun e => (by cases e), fun _ => ⟨S, by omega, hle S S hb, by rw [hd]; simp⟩⟩, by rw [hd]; exact sf_drop i2 (by omega), fr_setL i3 rfl, i4⟩
  · rintro rec s d ⟨i0, ⟨b, rfl, ib⟩, i2, i3, i4⟩
    have hNs : NC s n O c := nc_fr hN i3 (fun x hx => by omega)
    rw [e_all hNs.z, calP_s, if_pos (nI_lt (by omega) (by omega)), y_ckZ]
    exact ok_some ⟨⟨b, rfl, ib⟩, i2, i3, i4⟩
end GSAFE
