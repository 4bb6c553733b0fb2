/-! hunt -/
/-- the most rounds when hunters have come to a row -/
def rs (n : Nat) (O : Nat → Nat) (s K : Nat) (lv : Nat → Nat → Nat) (p x : Nat) : Nat := bmx (flS O s K x p) (lv x) n
/-- what is the best step of hunters at r; R: which rows they can step to -/
def HM (n : Nat) (O : Nat → Nat) (s k : Nat) (lv : Nat → Nat → Nat) (p r m out : Nat) : Prop := (out = srt (k + 1) r ∧ ∀ x, x < m → stB O k r x (k + 1) = true → rs n O s (k + 1) lv p x = 1048576) ∨ ∃ x, x < m ∧ stB O k r x (k + 1) = true ∧ rs n O s (k + 1) lv p x < 1048576 ∧ out = srt (k + 1) x ∧ ∀ y, y < m → stB O k r y (k + 1) = true → rs n O s (k + 1) lv p x < rs n O s (k + 1) lv p y ∨ rs n O s (k + 1) lv p x = rs n O s (k + 1) lv p y ∧ srt (k + 1) x ≤ srt (k + 1) y
section HUNT
variable {σ : St} {n c k s i sp : Nat} {O : Nat → Nat} {lv : Nat → Nat → Nat}
theorem rs_le (h : HL n O k s lv) {p x : Nat} (hx : Vr n (k + 1) x) : rs n O s (k + 1) lv p x ≤ 1048576 := bmx_le.mpr (fun q hq _ => hl_le h hx hq)
theorem e_rest (hx : CX σ n O c i sp) (h : HL n O (i / 3) sp lv) (hc : CT σ n O i sp) {r p : Nat} (hr : Vr n (i / 3 + 1) r) (hp : p < n) {R : Type} {K : Int32 → Option R} {Q : R → Prop} (hK : Ok (K (nI (rs n O sp (i / 3 + 1) lv p r))) Q) : Ok (calP (f_X6_holds σ (i / 3) (nI r) (nI p)) fun r9 =>
                jn1 (fun jk11 =>
                  (if r9 = nI 0 then
                    calP (f_X0_flights σ i (nI r) (nI p)) fun r13 =>
                      calP (f_X0_mostAmong σ i (nI r) r13) fun r14 =>
                        jk11 r14
                     else
                    jk11 (nI 0))) K) Q := by
  have hk : i / 3 < 3 := by have := hx.hi; omega
  have h8 := hx.nc.np.h8
  have hF := flB_lt hx.nc.np (plc (dgs (i / 3 + 1) r)) sp (S := 2 ^ p) (Nat.pow_lt_pow_right (by decide) hp)
  unfold rs flS at hK
  rw [e_holds hx.st hk hr.1 (by omega), calP_s, jn1]
  cases hb : (plc (dgs (i / 3 + 1) r)).testBit p with
  | true =>
    rw [if_neg (show ¬ nI true.toNat = nI 0 by decide)]
    rw [if_pos hb] at hK
    have e0 : bmx 0 (lv r) n = 0 := Nat.le_zero.mp (bmx_le.mpr (fun q _ hF => by simp at hF))
    rw [e0] at hK
    exact hK
  | false =>
    rw [if_pos (show nI false.toNat = nI 0 from rfl), e_flights hx hr.1 hp, calP_s, e_mostAmong hx h hc hr hF, calP_s]
    rw [if_neg (by rw [hb]; decide)] at hK
    exact hK
end HUNT
