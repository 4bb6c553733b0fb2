/-! the words by which pure texts are reckoned -/
def Ok {R : Type} (m : Option R) (Q : R → Prop) : Prop := ∃ r, m = some r ∧ Q r
theorem ok_some {R : Type} {Q : R → Prop} {r : R} (h : Q r) : Ok (some r) Q := ⟨r, rfl, h⟩
theorem ok_of {R : Type} {Q : R → Prop} {m : Option R} {r : R} (e : m = some r) (h : Q r) : Ok m Q := ⟨r, e, h⟩
theorem ok_eq {R : Type} {m : Option R} {r : R} (h : Ok m (fun x => x = r)) : m = some r := by
  obtain ⟨x, e, rfl⟩ := h
  exact e
theorem ok_mono {R : Type} {P Q : R → Prop} {m : Option R} (h : Ok m P) (k : ∀ r, P r → Q r) : Ok m Q := by
  obtain ⟨x, e, hx⟩ := h
  exact ⟨x, e, k x hx⟩
theorem ok_calP {β R : Type} {m : Option β} {K : β → Option R} {P : β → Prop} {Q : R → Prop} (h : Ok m P) (k : ∀ v, P v → Ok (K v) Q) : Ok (calP m K) Q := by
  obtain ⟨v, rfl, hv⟩ := h
  exact k v hv
theorem ok_cal {β R : Type} {m : Option (β × St)} {K : β → St → Option R} {P : β × St → Prop} {Q : R → Prop} (h : Ok m P) (k : ∀ v s, P (v, s) → Ok (K v s) Q) : Ok (cal m K) Q := by
  obtain ⟨⟨v, s⟩, rfl, hv⟩ := h
  exact k v s hv
theorem q_0 : (0 : Int32) = nI 0 := rfl
theorem q_1 : (1 : Int32) = nI 1 := rfl
theorem q_2 : (2 : Int32) = nI 2 := rfl
theorem q_3 : (3 : Int32) = nI 3 := rfl
theorem q_4 : (4 : Int32) = nI 4 := rfl
theorem q_5 : (5 : Int32) = nI 5 := rfl
theorem q_6 : (6 : Int32) = nI 6 := rfl
theorem q_7 : (7 : Int32) = nI 7 := rfl
theorem q_8 : (8 : Int32) = nI 8 := rfl
theorem q_9 : (9 : Int32) = nI 9 := rfl
theorem q_15 : (15 : Int32) = nI 15 := rfl
theorem q_16 : (16 : Int32) = nI 16 := rfl
theorem q_31 : (31 : Int32) = nI 31 := rfl
theorem q_32 : (32 : Int32) = nI 32 := rfl
theorem q_48 : (48 : Int32) = nI 48 := rfl
theorem q_57 : (57 : Int32) = nI 57 := rfl
theorem q_59 : (59 : Int32) = nI 59 := rfl
theorem q_63 : (63 : Int32) = nI 63 := rfl
theorem q_64 : (64 : Int32) = nI 64 := rfl
theorem q_97 : (97 : Int32) = nI 97 := rfl
theorem q_100 : (100 : Int32) = nI 100 := rfl
theorem q_122 : (122 : Int32) = nI 122 := rfl
theorem q_127 : (127 : Int32) = nI 127 := rfl
theorem q_160 : (160 : Int32) = nI 160 := rfl
theorem q_255 : (255 : Int32) = nI 255 := rfl
theorem q_256 : (256 : Int32) = nI 256 := rfl
theorem q_512 : (512 : Int32) = nI 512 := rfl
theorem q_1024 : (1024 : Int32) = nI 1024 := rfl
theorem q_2816 : (2816 : Int32) = nI 2816 := rfl
theorem q_4096 : (4096 : Int32) = nI 4096 := rfl
theorem q_16384 : (16384 : Int32) = nI 16384 := rfl
theorem q_1048576 : (1048576 : Int32) = nI 1048576 := rfl
def M1 : Int32 := -1
/-- counting down: j is told by j - 1 -/
def dI (j : Nat) : Int32 := if j = 0 then M1 else nI (j - 1)
theorem lo1_ok {A0 R : Type} {F : (A0 → Option R) → A0 → Option R} {Q : R → Prop} (I : A0 → Prop) (μ : A0 → Nat) (hs : ∀ rec a0, I a0 → (∀ b0, I b0 → μ b0 < μ a0 → Ok (rec b0) Q) → Ok (F rec a0) Q) : ∀ N a0, I a0 → μ a0 < N → Ok (lo1 N F a0) Q := lo1_wp Q I μ hs
theorem lo2_ok {A0 A1 R : Type} {F : (A0 → A1 → Option R) → A0 → A1 → Option R} {Q : R → Prop} (I : A0 → A1 → Prop) (μ : A0 → A1 → Nat) (hs : ∀ rec a0 a1, I a0 a1 → (∀ b0 b1, I b0 b1 → μ b0 b1 < μ a0 a1 → Ok (rec b0 b1) Q) → Ok (F rec a0 a1) Q) : ∀ N a0 a1, I a0 a1 → μ a0 a1 < N → Ok (lo2 N F a0 a1) Q := lo2_wp Q I μ hs
theorem lo3_ok {A0 A1 A2 R : Type} {F : (A0 → A1 → A2 → Option R) → A0 → A1 → A2 → Option R} {Q : R → Prop} (I : A0 → A1 → A2 → Prop) (μ : A0 → A1 → A2 → Nat) (hs : ∀ rec a0 a1 a2, I a0 a1 a2 → (∀ b0 b1 b2, I b0 b1 b2 → μ b0 b1 b2 < μ a0 a1 a2 → Ok (rec b0 b1 b2) Q) → Ok (F rec a0 a1 a2) Q) : ∀ N a0 a1 a2, I a0 a1 a2 → μ a0 a1 a2 < N → Ok (lo3 N F a0 a1 a2) Q := lo3_wp Q I μ hs
theorem lo4_ok {A0 A1 A2 A3 R : Type} {F : (A0 → A1 → A2 → A3 → Option R) → A0 → A1 → A2 → A3 → Option R} {Q : R → Prop} (I : A0 → A1 → A2 → A3 → Prop) (μ : A0 → A1 → A2 → A3 → Nat) (hs : ∀ rec a0 a1 a2 a3, I a0 a1 a2 a3 → (∀ b0 b1 b2 b3, I b0 b1 b2 b3 → μ b0 b1 b2 b3 < μ a0 a1 a2 a3 → Ok (rec b0 b1 b2 b3) Q) → Ok (F rec a0 a1 a2 a3) Q) : ∀ N a0 a1 a2 a3, I a0 a1 a2 a3 → μ a0 a1 a2 a3 < N → Ok (lo4 N F a0 a1 a2 a3) Q := lo4_wp Q I μ hs
theorem lo5_ok {A0 A1 A2 A3 A4 R : Type} {F : (A0 → A1 → A2 → A3 → A4 → Option R) → A0 → A1 → A2 → A3 → A4 → Option R} {Q : R → Prop} (I : A0 → A1 → A2 → A3 → A4 → Prop) (μ : A0 → A1 → A2 → A3 → A4 → Nat) (hs : ∀ rec a0 a1 a2 a3 a4, I a0 a1 a2 a3 a4 → (∀ b0 b1 b2 b3 b4, I b0 b1 b2 b3 b4 → μ b0 b1 b2 b3 b4 < μ a0 a1 a2 a3 a4 → Ok (rec b0 b1 b2 b3 b4) Q) → Ok (F rec a0 a1 a2 a3 a4) Q) : ∀ N a0 a1 a2 a3 a4, I a0 a1 a2 a3 a4 → μ a0 a1 a2 a3 a4 < N → Ok (lo5 N F a0 a1 a2 a3 a4) Q := lo5_wp Q I μ hs
theorem lo6_ok {A0 A1 A2 A3 A4 A5 R : Type} {F : (A0 → A1 → A2 → A3 → A4 → A5 → Option R) → A0 → A1 → A2 → A3 → A4 → A5 → Option R} {Q : R → Prop} (I : A0 → A1 → A2 → A3 → A4 → A5 → Prop) (μ : A0 → A1 → A2 → A3 → A4 → A5 → Nat) (hs : ∀ rec a0 a1 a2 a3 a4 a5, I a0 a1 a2 a3 a4 a5 → (∀ b0 b1 b2 b3 b4 b5, I b0 b1 b2 b3 b4 b5 → μ b0 b1 b2 b3 b4 b5 < μ a0 a1 a2 a3 a4 a5 → Ok (rec b0 b1 b2 b3 b4 b5) Q) → Ok (F rec a0 a1 a2 a3 a4 a5) Q) : ∀ N a0 a1 a2 a3 a4 a5, I a0 a1 a2 a3 a4 a5 → μ a0 a1 a2 a3 a4 a5 < N → Ok (lo6 N F a0 a1 a2 a3 a4 a5) Q := lo6_wp Q I μ hs
theorem lo7_ok {A0 A1 A2 A3 A4 A5 A6 R : Type} {F : (A0 → A1 → A2 → A3 → A4 → A5 → A6 → Option R) → A0 → A1 → A2 → A3 → A4 → A5 → A6 → Option R} {Q : R → Prop} (I : A0 → A1 → A2 → A3 → A4 → A5 → A6 → Prop) (μ : A0 → A1 → A2 → A3 → A4 → A5 → A6 → Nat) (hs : ∀ rec a0 a1 a2 a3 a4 a5 a6, I a0 a1 a2 a3 a4 a5 a6 → (∀ b0 b1 b2 b3 b4 b5 b6, I b0 b1 b2 b3 b4 b5 b6 → μ b0 b1 b2 b3 b4 b5 b6 < μ a0 a1 a2 a3 a4 a5 a6 → Ok (rec b0 b1 b2 b3 b4 b5 b6) Q) → Ok (F rec a0 a1 a2 a3 a4 a5 a6) Q) : ∀ N a0 a1 a2 a3 a4 a5 a6, I a0 a1 a2 a3 a4 a5 a6 → μ a0 a1 a2 a3 a4 a5 a6 < N → Ok (lo7 N F a0 a1 a2 a3 a4 a5 a6) Q := lo7_wp Q I μ hs
theorem lo8_ok {A0 A1 A2 A3 A4 A5 A6 A7 R : Type} {F : (A0 → A1 → A2 → A3 → A4 → A5 → A6 → A7 → Option R) → A0 → A1 → A2 → A3 → A4 → A5 → A6 → A7 → Option R} {Q : R → Prop} (I : A0 → A1 → A2 → A3 → A4 → A5 → A6 → A7 → Prop) (μ : A0 → A1 → A2 → A3 → A4 → A5 → A6 → A7 → Nat) (hs : ∀ rec a0 a1 a2 a3 a4 a5 a6 a7, I a0 a1 a2 a3 a4 a5 a6 a7 → (∀ b0 b1 b2 b3 b4 b5 b6 b7, I b0 b1 b2 b3 b4 b5 b6 b7 → μ b0 b1 b2 b3 b4 b5 b6 b7 < μ a0 a1 a2 a3 a4 a5 a6 a7 → Ok (rec b0 b1 b2 b3 b4 b5 b6 b7) Q) → Ok (F rec a0 a1 a2 a3 a4 a5 a6 a7) Q) : ∀ N a0 a1 a2 a3 a4 a5 a6 a7, I a0 a1 a2 a3 a4 a5 a6 a7 → μ a0 a1 a2 a3 a4 a5 a6 a7 < N → Ok (lo8 N F a0 a1 a2 a3 a4 a5 a6 a7) Q := lo8_wp Q I μ hs
theorem lo1_for { R : Type} {F : (Int32 → Option R) → Int32 → Option R} {Q : R → Prop} (I : Nat → Prop) (m : Nat) (hs : ∀ rec i , i < m → I i  → (I (i + 1)  → Ok (rec  (nI (i + 1))) Q) → Ok (F rec  (nI i)) Q) (he : ∀ rec , I m  → Ok (F rec  (nI m)) Q) : ∀ N i , i ≤ m → m - i < N → I i  → Ok (lo1 N F  (nI i)) Q := by
  intro N
  induction N with
  | zero => intro i  _ h; omega
  | succ N ih =>
    intro i  hi hm hI
    rcases Nat.lt_or_ge i m with h | h
    · exact hs (lo1 N F) i  h hI (fun  hb => ih (i + 1)  (by omega) (by omega) hb)
    · obtain rfl : i = m := by omega
      exact he (lo1 N F)  hI
theorem lo2_for {A0 R : Type} {F : (A0 → Int32 → Option R) → A0 → Int32 → Option R} {Q : R → Prop} (I : Nat → A0 → Prop) (m : Nat) (hs : ∀ rec i a0, i < m → I i a0 → (∀ b0, I (i + 1) b0 → Ok (rec b0 (nI (i + 1))) Q) → Ok (F rec a0 (nI i)) Q) (he : ∀ rec a0, I m a0 → Ok (F rec a0 (nI m)) Q) : ∀ N i a0, i ≤ m → m - i < N → I i a0 → Ok (lo2 N F a0 (nI i)) Q := by
  intro N
  induction N with
  | zero => intro i a0 _ h; omega
  | succ N ih =>
    intro i a0 hi hm hI
    rcases Nat.lt_or_ge i m with h | h
    · exact hs (lo2 N F) i a0 h hI (fun b0  hb => ih (i + 1) b0 (by omega) (by omega) hb)
    · obtain rfl : i = m := by omega
      exact he (lo2 N F) a0 hI
theorem lo3_for {A0 A1 R : Type} {F : (A0 → A1 → Int32 → Option R) → A0 → A1 → Int32 → Option R} {Q : R → Prop} (I : Nat → A0 → A1 → Prop) (m : Nat) (hs : ∀ rec i a0 a1, i < m → I i a0 a1 → (∀ b0 b1, I (i + 1) b0 b1 → Ok (rec b0 b1 (nI (i + 1))) Q) → Ok (F rec a0 a1 (nI i)) Q) (he : ∀ rec a0 a1, I m a0 a1 → Ok (F rec a0 a1 (nI m)) Q) : ∀ N i a0 a1, i ≤ m → m - i < N → I i a0 a1 → Ok (lo3 N F a0 a1 (nI i)) Q := by
  intro N
  induction N with
  | zero => intro i a0 a1 _ h; omega
  | succ N ih =>
    intro i a0 a1 hi hm hI
    rcases Nat.lt_or_ge i m with h | h
    · exact hs (lo3 N F) i a0 a1 h hI (fun b0 b1  hb => ih (i + 1) b0 b1 (by omega) (by omega) hb)
    · obtain rfl : i = m := by omega
      exact he (lo3 N F) a0 a1 hI
theorem lo4_for {A0 A1 A2 R : Type} {F : (A0 → A1 → A2 → Int32 → Option R) → A0 → A1 → A2 → Int32 → Option R} {Q : R → Prop} (I : Nat → A0 → A1 → A2 → Prop) (m : Nat) (hs : ∀ rec i a0 a1 a2, i < m → I i a0 a1 a2 → (∀ b0 b1 b2, I (i + 1) b0 b1 b2 → Ok (rec b0 b1 b2 (nI (i + 1))) Q) → Ok (F rec a0 a1 a2 (nI i)) Q) (he : ∀ rec a0 a1 a2, I m a0 a1 a2 → Ok (F rec a0 a1 a2 (nI m)) Q) : ∀ N i a0 a1 a2, i ≤ m → m - i < N → I i a0 a1 a2 → Ok (lo4 N F a0 a1 a2 (nI i)) Q := by
  intro N
  induction N with
  | zero => intro i a0 a1 a2 _ h; omega
  | succ N ih =>
    intro i a0 a1 a2 hi hm hI
    rcases Nat.lt_or_ge i m with h | h
    · exact hs (lo4 N F) i a0 a1 a2 h hI (fun b0 b1 b2  hb => ih (i + 1) b0 b1 b2 (by omega) (by omega) hb)
    · obtain rfl : i = m := by omega
      exact he (lo4 N F) a0 a1 a2 hI
theorem lo5_for {A0 A1 A2 A3 R : Type} {F : (A0 → A1 → A2 → A3 → Int32 → Option R) → A0 → A1 → A2 → A3 → Int32 → Option R} {Q : R → Prop} (I : Nat → A0 → A1 → A2 → A3 → Prop) (m : Nat) (hs : ∀ rec i a0 a1 a2 a3, i < m → I i a0 a1 a2 a3 → (∀ b0 b1 b2 b3, I (i + 1) b0 b1 b2 b3 → Ok (rec b0 b1 b2 b3 (nI (i + 1))) Q) → Ok (F rec a0 a1 a2 a3 (nI i)) Q) (he : ∀ rec a0 a1 a2 a3, I m a0 a1 a2 a3 → Ok (F rec a0 a1 a2 a3 (nI m)) Q) : ∀ N i a0 a1 a2 a3, i ≤ m → m - i < N → I i a0 a1 a2 a3 → Ok (lo5 N F a0 a1 a2 a3 (nI i)) Q := by
  intro N
  induction N with
  | zero => intro i a0 a1 a2 a3 _ h; omega
  | succ N ih =>
    intro i a0 a1 a2 a3 hi hm hI
    rcases Nat.lt_or_ge i m with h | h
    · exact hs (lo5 N F) i a0 a1 a2 a3 h hI (fun b0 b1 b2 b3  hb => ih (i + 1) b0 b1 b2 b3 (by omega) (by omega) hb)
    · obtain rfl : i = m := by omega
      exact he (lo5 N F) a0 a1 a2 a3 hI
theorem lo6_for {A0 A1 A2 A3 A4 R : Type} {F : (A0 → A1 → A2 → A3 → A4 → Int32 → Option R) → A0 → A1 → A2 → A3 → A4 → Int32 → Option R} {Q : R → Prop} (I : Nat → A0 → A1 → A2 → A3 → A4 → Prop) (m : Nat) (hs : ∀ rec i a0 a1 a2 a3 a4, i < m → I i a0 a1 a2 a3 a4 → (∀ b0 b1 b2 b3 b4, I (i + 1) b0 b1 b2 b3 b4 → Ok (rec b0 b1 b2 b3 b4 (nI (i + 1))) Q) → Ok (F rec a0 a1 a2 a3 a4 (nI i)) Q) (he : ∀ rec a0 a1 a2 a3 a4, I m a0 a1 a2 a3 a4 → Ok (F rec a0 a1 a2 a3 a4 (nI m)) Q) : ∀ N i a0 a1 a2 a3 a4, i ≤ m → m - i < N → I i a0 a1 a2 a3 a4 → Ok (lo6 N F a0 a1 a2 a3 a4 (nI i)) Q := by
  intro N
  induction N with
  | zero => intro i a0 a1 a2 a3 a4 _ h; omega
  | succ N ih =>
    intro i a0 a1 a2 a3 a4 hi hm hI
    rcases Nat.lt_or_ge i m with h | h
    · exact hs (lo6 N F) i a0 a1 a2 a3 a4 h hI (fun b0 b1 b2 b3 b4  hb => ih (i + 1) b0 b1 b2 b3 b4 (by omega) (by omega) hb)
    · obtain rfl : i = m := by omega
      exact he (lo6 N F) a0 a1 a2 a3 a4 hI
theorem lo7_for {A0 A1 A2 A3 A4 A5 R : Type} {F : (A0 → A1 → A2 → A3 → A4 → A5 → Int32 → Option R) → A0 → A1 → A2 → A3 → A4 → A5 → Int32 → Option R} {Q : R → Prop} (I : Nat → A0 → A1 → A2 → A3 → A4 → A5 → Prop) (m : Nat) (hs : ∀ rec i a0 a1 a2 a3 a4 a5, i < m → I i a0 a1 a2 a3 a4 a5 → (∀ b0 b1 b2 b3 b4 b5, I (i + 1) b0 b1 b2 b3 b4 b5 → Ok (rec b0 b1 b2 b3 b4 b5 (nI (i + 1))) Q) → Ok (F rec a0 a1 a2 a3 a4 a5 (nI i)) Q) (he : ∀ rec a0 a1 a2 a3 a4 a5, I m a0 a1 a2 a3 a4 a5 → Ok (F rec a0 a1 a2 a3 a4 a5 (nI m)) Q) : ∀ N i a0 a1 a2 a3 a4 a5, i ≤ m → m - i < N → I i a0 a1 a2 a3 a4 a5 → Ok (lo7 N F a0 a1 a2 a3 a4 a5 (nI i)) Q := by
  intro N
  induction N with
  | zero => intro i a0 a1 a2 a3 a4 a5 _ h; omega
  | succ N ih =>
    intro i a0 a1 a2 a3 a4 a5 hi hm hI
    rcases Nat.lt_or_ge i m with h | h
    · exact hs (lo7 N F) i a0 a1 a2 a3 a4 a5 h hI (fun b0 b1 b2 b3 b4 b5  hb => ih (i + 1) b0 b1 b2 b3 b4 b5 (by omega) (by omega) hb)
    · obtain rfl : i = m := by omega
      exact he (lo7 N F) a0 a1 a2 a3 a4 a5 hI
theorem lo1_dn { R : Type} {F : (Int32 → Option R) → Int32 → Option R} {Q : R → Prop} (I : Nat → Prop) (m : Nat) (hs : ∀ rec j , j < m → I (j + 1)  → (I j  → Ok (rec  (dI j)) Q) → Ok (F rec  (nI j)) Q) (he : ∀ rec , I 0  → Ok (F rec  M1) Q) : ∀ N j , j ≤ m → j < N → I j  → Ok (lo1 N F  (dI j)) Q := by
  intro N
  induction N with
  | zero => intro j  _ h; omega
  | succ N ih =>
    intro j  hi hm hI
    cases j with
    | zero => exact he (lo1 N F)  hI
    | succ j => exact hs (lo1 N F) j  (by omega) hI (fun  hb => ih j  (by omega) (by omega) hb)
theorem lo1_S {A0 R : Type} (F : (A0 → Option R) → A0 → Option R) (N : Nat) (a0 : A0) : lo1 (N + 1) F a0 = F (lo1 N F) a0 := rfl
theorem lo2_dn {A0 R : Type} {F : (A0 → Int32 → Option R) → A0 → Int32 → Option R} {Q : R → Prop} (I : Nat → A0 → Prop) (m : Nat) (hs : ∀ rec j a0, j < m → I (j + 1) a0 → (∀ b0, I j b0 → Ok (rec b0 (dI j)) Q) → Ok (F rec a0 (nI j)) Q) (he : ∀ rec a0, I 0 a0 → Ok (F rec a0 M1) Q) : ∀ N j a0, j ≤ m → j < N → I j a0 → Ok (lo2 N F a0 (dI j)) Q := by
  intro N
  induction N with
  | zero => intro j a0 _ h; omega
  | succ N ih =>
    intro j a0 hi hm hI
    cases j with
    | zero => exact he (lo2 N F) a0 hI
    | succ j => exact hs (lo2 N F) j a0 (by omega) hI (fun b0  hb => ih j b0 (by omega) (by omega) hb)
theorem lo2_S {A0 A1 R : Type} (F : (A0 → A1 → Option R) → A0 → A1 → Option R) (N : Nat) (a0 : A0) (a1 : A1) : lo2 (N + 1) F a0 a1 = F (lo2 N F) a0 a1 := rfl
theorem lo3_dn {A0 A1 R : Type} {F : (A0 → A1 → Int32 → Option R) → A0 → A1 → Int32 → Option R} {Q : R → Prop} (I : Nat → A0 → A1 → Prop) (m : Nat) (hs : ∀ rec j a0 a1, j < m → I (j + 1) a0 a1 → (∀ b0 b1, I j b0 b1 → Ok (rec b0 b1 (dI j)) Q) → Ok (F rec a0 a1 (nI j)) Q) (he : ∀ rec a0 a1, I 0 a0 a1 → Ok (F rec a0 a1 M1) Q) : ∀ N j a0 a1, j ≤ m → j < N → I j a0 a1 → Ok (lo3 N F a0 a1 (dI j)) Q := by
  intro N
  induction N with
  | zero => intro j a0 a1 _ h; omega
  | succ N ih =>
    intro j a0 a1 hi hm hI
    cases j with
    | zero => exact he (lo3 N F) a0 a1 hI
    | succ j => exact hs (lo3 N F) j a0 a1 (by omega) hI (fun b0 b1  hb => ih j b0 b1 (by omega) (by omega) hb)
theorem lo3_S {A0 A1 A2 R : Type} (F : (A0 → A1 → A2 → Option R) → A0 → A1 → A2 → Option R) (N : Nat) (a0 : A0) (a1 : A1) (a2 : A2) : lo3 (N + 1) F a0 a1 a2 = F (lo3 N F) a0 a1 a2 := rfl
theorem lo4_dn {A0 A1 A2 R : Type} {F : (A0 → A1 → A2 → Int32 → Option R) → A0 → A1 → A2 → Int32 → Option R} {Q : R → Prop} (I : Nat → A0 → A1 → A2 → Prop) (m : Nat) (hs : ∀ rec j a0 a1 a2, j < m → I (j + 1) a0 a1 a2 → (∀ b0 b1 b2, I j b0 b1 b2 → Ok (rec b0 b1 b2 (dI j)) Q) → Ok (F rec a0 a1 a2 (nI j)) Q) (he : ∀ rec a0 a1 a2, I 0 a0 a1 a2 → Ok (F rec a0 a1 a2 M1) Q) : ∀ N j a0 a1 a2, j ≤ m → j < N → I j a0 a1 a2 → Ok (lo4 N F a0 a1 a2 (dI j)) Q := by
  intro N
  induction N with
  | zero => intro j a0 a1 a2 _ h; omega
  | succ N ih =>
    intro j a0 a1 a2 hi hm hI
    cases j with
    | zero => exact he (lo4 N F) a0 a1 a2 hI
    | succ j => exact hs (lo4 N F) j a0 a1 a2 (by omega) hI (fun b0 b1 b2  hb => ih j b0 b1 b2 (by omega) (by omega) hb)
theorem lo4_S {A0 A1 A2 A3 R : Type} (F : (A0 → A1 → A2 → A3 → Option R) → A0 → A1 → A2 → A3 → Option R) (N : Nat) (a0 : A0) (a1 : A1) (a2 : A2) (a3 : A3) : lo4 (N + 1) F a0 a1 a2 a3 = F (lo4 N F) a0 a1 a2 a3 := rfl
theorem lo5_dn {A0 A1 A2 A3 R : Type} {F : (A0 → A1 → A2 → A3 → Int32 → Option R) → A0 → A1 → A2 → A3 → Int32 → Option R} {Q : R → Prop} (I : Nat → A0 → A1 → A2 → A3 → Prop) (m : Nat) (hs : ∀ rec j a0 a1 a2 a3, j < m → I (j + 1) a0 a1 a2 a3 → (∀ b0 b1 b2 b3, I j b0 b1 b2 b3 → Ok (rec b0 b1 b2 b3 (dI j)) Q) → Ok (F rec a0 a1 a2 a3 (nI j)) Q) (he : ∀ rec a0 a1 a2 a3, I 0 a0 a1 a2 a3 → Ok (F rec a0 a1 a2 a3 M1) Q) : ∀ N j a0 a1 a2 a3, j ≤ m → j < N → I j a0 a1 a2 a3 → Ok (lo5 N F a0 a1 a2 a3 (dI j)) Q := by
  intro N
  induction N with
  | zero => intro j a0 a1 a2 a3 _ h; omega
  | succ N ih =>
    intro j a0 a1 a2 a3 hi hm hI
    cases j with
    | zero => exact he (lo5 N F) a0 a1 a2 a3 hI
    | succ j => exact hs (lo5 N F) j a0 a1 a2 a3 (by omega) hI (fun b0 b1 b2 b3  hb => ih j b0 b1 b2 b3 (by omega) (by omega) hb)
theorem lo5_S {A0 A1 A2 A3 A4 R : Type} (F : (A0 → A1 → A2 → A3 → A4 → Option R) → A0 → A1 → A2 → A3 → A4 → Option R) (N : Nat) (a0 : A0) (a1 : A1) (a2 : A2) (a3 : A3) (a4 : A4) : lo5 (N + 1) F a0 a1 a2 a3 a4 = F (lo5 N F) a0 a1 a2 a3 a4 := rfl
theorem lo6_dn {A0 A1 A2 A3 A4 R : Type} {F : (A0 → A1 → A2 → A3 → A4 → Int32 → Option R) → A0 → A1 → A2 → A3 → A4 → Int32 → Option R} {Q : R → Prop} (I : Nat → A0 → A1 → A2 → A3 → A4 → Prop) (m : Nat) (hs : ∀ rec j a0 a1 a2 a3 a4, j < m → I (j + 1) a0 a1 a2 a3 a4 → (∀ b0 b1 b2 b3 b4, I j b0 b1 b2 b3 b4 → Ok (rec b0 b1 b2 b3 b4 (dI j)) Q) → Ok (F rec a0 a1 a2 a3 a4 (nI j)) Q) (he : ∀ rec a0 a1 a2 a3 a4, I 0 a0 a1 a2 a3 a4 → Ok (F rec a0 a1 a2 a3 a4 M1) Q) : ∀ N j a0 a1 a2 a3 a4, j ≤ m → j < N → I j a0 a1 a2 a3 a4 → Ok (lo6 N F a0 a1 a2 a3 a4 (dI j)) Q := by
  intro N
  induction N with
  | zero => intro j a0 a1 a2 a3 a4 _ h; omega
  | succ N ih =>
    intro j a0 a1 a2 a3 a4 hi hm hI
    cases j with
    | zero => exact he (lo6 N F) a0 a1 a2 a3 a4 hI
    | succ j => exact hs (lo6 N F) j a0 a1 a2 a3 a4 (by omega) hI (fun b0 b1 b2 b3 b4  hb => ih j b0 b1 b2 b3 b4 (by omega) (by omega) hb)
theorem lo6_S {A0 A1 A2 A3 A4 A5 R : Type} (F : (A0 → A1 → A2 → A3 → A4 → A5 → Option R) → A0 → A1 → A2 → A3 → A4 → A5 → Option R) (N : Nat) (a0 : A0) (a1 : A1) (a2 : A2) (a3 : A3) (a4 : A4) (a5 : A5) : lo6 (N + 1) F a0 a1 a2 a3 a4 a5 = F (lo6 N F) a0 a1 a2 a3 a4 a5 := rfl
theorem lo7_dn {A0 A1 A2 A3 A4 A5 R : Type} {F : (A0 → A1 → A2 → A3 → A4 → A5 → Int32 → Option R) → A0 → A1 → A2 → A3 → A4 → A5 → Int32 → Option R} {Q : R → Prop} (I : Nat → A0 → A1 → A2 → A3 → A4 → A5 → Prop) (m : Nat) (hs : ∀ rec j a0 a1 a2 a3 a4 a5, j < m → I (j + 1) a0 a1 a2 a3 a4 a5 → (∀ b0 b1 b2 b3 b4 b5, I j b0 b1 b2 b3 b4 b5 → Ok (rec b0 b1 b2 b3 b4 b5 (dI j)) Q) → Ok (F rec a0 a1 a2 a3 a4 a5 (nI j)) Q) (he : ∀ rec a0 a1 a2 a3 a4 a5, I 0 a0 a1 a2 a3 a4 a5 → Ok (F rec a0 a1 a2 a3 a4 a5 M1) Q) : ∀ N j a0 a1 a2 a3 a4 a5, j ≤ m → j < N → I j a0 a1 a2 a3 a4 a5 → Ok (lo7 N F a0 a1 a2 a3 a4 a5 (dI j)) Q := by
  intro N
  induction N with
  | zero => intro j a0 a1 a2 a3 a4 a5 _ h; omega
  | succ N ih =>
    intro j a0 a1 a2 a3 a4 a5 hi hm hI
    cases j with
    | zero => exact he (lo7 N F) a0 a1 a2 a3 a4 a5 hI
    | succ j => exact hs (lo7 N F) j a0 a1 a2 a3 a4 a5 (by omega) hI (fun b0 b1 b2 b3 b4 b5  hb => ih j b0 b1 b2 b3 b4 b5 (by omega) (by omega) hb)
theorem lo7_S {A0 A1 A2 A3 A4 A5 A6 R : Type} (F : (A0 → A1 → A2 → A3 → A4 → A5 → A6 → Option R) → A0 → A1 → A2 → A3 → A4 → A5 → A6 → Option R) (N : Nat) (a0 : A0) (a1 : A1) (a2 : A2) (a3 : A3) (a4 : A4) (a5 : A5) (a6 : A6) : lo7 (N + 1) F a0 a1 a2 a3 a4 a5 a6 = F (lo7 N F) a0 a1 a2 a3 a4 a5 a6 := rfl
def M2 : Int32 := -2
def M3 : Int32 := -3
def M4 : Int32 := -4
def M5 : Int32 := -5
theorem q_m1 : -nI 1 = M1 := rfl
theorem q_m2 : -nI 2 = M2 := rfl
theorem q_m3 : -nI 3 = M3 := rfl
theorem q_m4 : -nI 4 = M4 := rfl
theorem q_m5 : -nI 5 = M5 := rfl
theorem y_nd (a b : Nat) : nI a &&& (nI b ^^^ M1) = nI (nd a b) := z_nd a b
theorem y_dn (j : Nat) : nI j + M1 = dI j := by
  cases j with
  | zero => decide
  | succ j => exact pk_m1 j
theorem dI_s (j : Nat) : dI (j + 1) = nI j := rfl
theorem y_shl {a p : Nat} (hp : p < 32) (h : a * 2 ^ p < 2 ^ 32) : nI a <<< nI (p &&& 31) = nI (a * 2 ^ p) := by
  rw [← z_and]
  exact z_shl hp h
theorem y_shr {S p : Nat} (hS : S < 2 ^ 31) (hp : p < 32) : nI S >>> nI (p &&& 31) = nI (S / 2 ^ p) := by
  rw [← z_and]
  exact z_shr hS hp
theorem y_tb (S p : Nat) : S / 2 ^ p &&& 1 = (S.testBit p).toNat := by
  rw [Nat.testBit_eq_decide_div_mod_eq, Nat.and_one_is_mod]
  rcases Nat.mod_two_eq_zero_or_one (S / 2 ^ p) with h | h <;> rw [h] <;> rfl
theorem y_ck {R : Type} {j n : Nat} (k : Option R) (h : j < n) (hn : n < 2 ^ 31) : ck (nI j) n k = k := ck_s k h hn
theorem y_m1a {a : Nat} (h : a < 2 ^ 31) : (nI a = M1) = False := eq_false (nI_m1 h)
theorem y_m1b {a : Nat} (h : a < 2 ^ 31) : (M1 = nI a) = False := eq_false (m1_nI h)
theorem y_m1c {a : Nat} (h : a < 2 ^ 31) : (M1 < nI a) = True := eq_true (m1_lt h)
theorem y_m1d {a : Nat} (h : a < 2 ^ 31) : (nI a < M1) = False := eq_false (nlt_m1 h)
theorem y_m1e : (M1 = M1) = True := eq_self M1
theorem y_b0 (b : Bool) : (nI b.toNat = nI 0) = (b = false) := by cases b <;> decide
theorem y_b1 (b : Bool) : (nI b.toNat = nI 1) = (b = true) := by cases b <;> decide
theorem y_and255 {S : Nat} (h : S < 256) : S &&& 255 = S := by
  have := Nat.and_two_pow_sub_one_eq_mod S 8
  rw [show (2 : Nat) ^ 8 - 1 = 255 from rfl] at this
  rw [this]
  exact Nat.mod_eq_of_lt h
theorem gsI_o {σ : St} {a k c : Nat} {v : Int32} (h : c ≠ a) : (setI σ a k v).1 c = σ.1 c := va_up_ne _ _ h
theorem gsI_s {σ : St} {a k j : Nat} {v : Int32} : (setI σ a k v).1 a j = if j = k then v else σ.1 a j := by
  show va_up σ.1 a (upd (σ.1 a) k v) a j = _
  rw [va_up_self]
  rfl
theorem gsI_2 {σ : St} {a k : Nat} {v : Int32} : (setI σ a k v).2 = σ.2 := rfl
theorem gsR_o {σ : St} {a c : Nat} {f : Nat → Int32} (h : c ≠ a) : (setR σ a f).1 c = σ.1 c := va_up_ne _ _ h
theorem gsR_s {σ : St} {a : Nat} {f : Nat → Int32} : (setR σ a f).1 a = f := va_up_self _ _ _
theorem gsR_2 {σ : St} {a : Nat} {f : Nat → Int32} : (setR σ a f).2 = σ.2 := rfl
theorem gsL_1 {σ : St} {a k : Nat} {v : Int64} : (setL σ a k v).1 = σ.1 := rfl
theorem gsL_o {σ : St} {a k c : Nat} {v : Int64} (h : c ≠ a) : (setL σ a k v).2 c = σ.2 c := va_up_ne _ _ h
theorem gsL_s {σ : St} {a k j : Nat} {v : Int64} : (setL σ a k v).2 a j = if j = k then v else σ.2 a j := by
  show va_up σ.2 a (vp_updL (σ.2 a) k v) a j = _
  rw [va_up_self]
  rfl
/-- what a text may have written -/
def Fr (P : Nat → Prop) (σ s : St) : Prop := (∀ c, ¬ P c → s.1 c = σ.1 c) ∧ ∀ c, ¬ P c → s.2 c = σ.2 c
theorem fr_refl {P : Nat → Prop} {σ : St} : Fr P σ σ := ⟨fun _ _ => rfl, fun _ _ => rfl⟩
theorem fr_trans {P : Nat → Prop} {a b c : St} (h : Fr P a b) (k : Fr P b c) : Fr P a c := ⟨fun x hx => (k.1 x hx).trans (h.1 x hx), fun x hx => (k.2 x hx).trans (h.2 x hx)⟩
theorem fr_mono {P P' : Nat → Prop} {a b : St} (h : Fr P a b) (k : ∀ c, P c → P' c) : Fr P' a b := ⟨fun x hx => h.1 x (fun q => hx (k x q)), fun x hx => h.2 x (fun q => hx (k x q))⟩
theorem fr_setI {P : Nat → Prop} {σ s : St} {a k : Nat} {v : Int32} (h : Fr P σ s) (ha : P a) : Fr P σ (setI s a k v) := ⟨fun x hx => (gsI_o (fun e : x = a => hx (e.symm ▸ ha))).trans (h.1 x hx), h.2⟩
theorem fr_setR {P : Nat → Prop} {σ s : St} {a : Nat} {f : Nat → Int32} (h : Fr P σ s) (ha : P a) : Fr P σ (setR s a f) := ⟨fun x hx => (gsR_o (fun e : x = a => hx (e.symm ▸ ha))).trans (h.1 x hx), h.2⟩
theorem fr_setL {P : Nat → Prop} {σ s : St} {a k : Nat} {v : Int64} (h : Fr P σ s) (ha : P a) : Fr P σ (setL s a k v) := ⟨h.1, fun x hx => (gsL_o (fun e : x = a => hx (e.symm ▸ ha))).trans (h.2 x hx)⟩
/-- a value: below nought, or a number -/
theorem i_cases (v : Int32) : v < nI 0 ∨ ∃ p, p < 2 ^ 31 ∧ v = nI p := by
  by_cases h : v < 0
  · exact Or.inl h
  · exact Or.inr (nI_of h)
theorem i_neg {v : Int32} {p : Nat} (h : v < nI 0) (hp : p < 2 ^ 31) : v < nI p := by
  rw [Int32.lt_iff_toInt_lt, nI_toInt (by omega)] at h
  rw [Int32.lt_iff_toInt_lt, nI_toInt hp]
  omega
theorem fu_lt {n : Nat} (h : n < 1000000) : n < FU := h
