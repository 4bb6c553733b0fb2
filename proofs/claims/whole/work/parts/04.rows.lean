/-- the words of the pure texts -/
def bd {α R : Type} (e : α) (K : α → R) : R := K e
def ck {R : Type} (i : Int32) (n : Nat) (k : Option R) : Option R := if i < 0 then none else if n ≤ i.toNatClampNeg then none else k
def ckN {R : Type} (i n : Nat) (k : Option R) : Option R := if i < n then k else none
def ckZ {R : Type} (x : Int32) (k : Option R) : Option R := if x = 0 then k else if x = 1 then k else none
def cal {β R : Type} (o : Option (β × St)) (K : β → St → Option R) : Option R := o.bind (fun q => K q.1 q.2)
def calP {β R : Type} (o : Option β) (K : β → Option R) : Option R := o.bind K
theorem ck_in {R : Type} {i : Int32} {n : Nat} {k : Option R} {r : R} (h : ck i n k = some r) : vp_in i n ∧ k = some r := by
  unfold ck at h
  by_cases h1 : i < 0
  · rw [if_pos h1] at h; cases h
  · rw [if_neg h1] at h
    by_cases h2 : n ≤ i.toNatClampNeg
    · rw [if_pos h2] at h; cases h
    · rw [if_neg h2] at h
      exact ⟨fun q => q.elim h1 h2, h⟩
theorem ckN_in {R : Type} {i n : Nat} {k : Option R} {r : R} (h : ckN i n k = some r) : i < n ∧ k = some r := by
  unfold ckN at h
  by_cases h1 : i < n
  · rw [if_pos h1] at h; exact ⟨h1, h⟩
  · rw [if_neg h1] at h; cases h
theorem ckZ_in {R : Type} {x : Int32} {k : Option R} {r : R} (h : ckZ x k = some r) : (x = 0 ∨ x = 1) ∧ k = some r := by
  unfold ckZ at h
  by_cases h1 : x = 0
  · rw [if_pos h1] at h; exact ⟨Or.inl h1, h⟩
  · rw [if_neg h1] at h
    by_cases h2 : x = 1
    · rw [if_pos h2] at h; exact ⟨Or.inr h2, h⟩
    · rw [if_neg h2] at h; cases h
theorem calP_in {β R : Type} {o : Option β} {K : β → Option R} {r : R} (h : calP o K = some r) : ∃ a, o = some a ∧ K a = some r := by
  unfold calP at h
  cases o with
  | none => cases h
  | some q => exact ⟨q, rfl, h⟩
theorem cal_in {β R : Type} {o : Option (β × St)} {K : β → St → Option R} {r : R} (h : cal o K = some r) : ∃ a σ, o = some (a, σ) ∧ K a σ = some r := by
  unfold cal at h
  cases o with
  | none => cases h
  | some q => exact ⟨q.1, q.2, rfl, h⟩
def lo1 {A0 R : Type} : Nat → ((A0 → Option R) → A0 → Option R) → A0 → Option R
  | 0, _, _ => none
  | n + 1, F, a0 => F (lo1 n F) a0
def lo2 {A0 A1 R : Type} : Nat → ((A0 → A1 → Option R) → A0 → A1 → Option R) → A0 → A1 → Option R
  | 0, _, _, _ => none
  | n + 1, F, a0, a1 => F (lo2 n F) a0 a1
def lo3 {A0 A1 A2 R : Type} : Nat → ((A0 → A1 → A2 → Option R) → A0 → A1 → A2 → Option R) → A0 → A1 → A2 → Option R
  | 0, _, _, _, _ => none
  | n + 1, F, a0, a1, a2 => F (lo3 n F) a0 a1 a2
def lo4 {A0 A1 A2 A3 R : Type} : Nat → ((A0 → A1 → A2 → A3 → Option R) → A0 → A1 → A2 → A3 → Option R) → A0 → A1 → A2 → A3 → Option R
  | 0, _, _, _, _, _ => none
  | n + 1, F, a0, a1, a2, a3 => F (lo4 n F) a0 a1 a2 a3
def lo5 {A0 A1 A2 A3 A4 R : Type} : Nat → ((A0 → A1 → A2 → A3 → A4 → Option R) → A0 → A1 → A2 → A3 → A4 → Option R) → A0 → A1 → A2 → A3 → A4 → Option R
  | 0, _, _, _, _, _, _ => none
  | n + 1, F, a0, a1, a2, a3, a4 => F (lo5 n F) a0 a1 a2 a3 a4
def lo6 {A0 A1 A2 A3 A4 A5 R : Type} : Nat → ((A0 → A1 → A2 → A3 → A4 → A5 → Option R) → A0 → A1 → A2 → A3 → A4 → A5 → Option R) → A0 → A1 → A2 → A3 → A4 → A5 → Option R
  | 0, _, _, _, _, _, _, _ => none
  | n + 1, F, a0, a1, a2, a3, a4, a5 => F (lo6 n F) a0 a1 a2 a3 a4 a5
def lo7 {A0 A1 A2 A3 A4 A5 A6 R : Type} : Nat → ((A0 → A1 → A2 → A3 → A4 → A5 → A6 → Option R) → A0 → A1 → A2 → A3 → A4 → A5 → A6 → Option R) → A0 → A1 → A2 → A3 → A4 → A5 → A6 → Option R
  | 0, _, _, _, _, _, _, _, _ => none
  | n + 1, F, a0, a1, a2, a3, a4, a5, a6 => F (lo7 n F) a0 a1 a2 a3 a4 a5 a6
def lo8 {A0 A1 A2 A3 A4 A5 A6 A7 R : Type} : Nat → ((A0 → A1 → A2 → A3 → A4 → A5 → A6 → A7 → Option R) → A0 → A1 → A2 → A3 → A4 → A5 → A6 → A7 → Option R) → A0 → A1 → A2 → A3 → A4 → A5 → A6 → A7 → Option R
  | 0, _, _, _, _, _, _, _, _, _ => none
  | n + 1, F, a0, a1, a2, a3, a4, a5, a6, a7 => F (lo8 n F) a0 a1 a2 a3 a4 a5 a6 a7
def jn0 {R : Type} (B : R → R) (K : R) : R := B K
def jn1 {A0 R : Type} (B : (A0 → R) → R) (K : A0 → R) : R := B K
def jn2 {A0 A1 R : Type} (B : (A0 → A1 → R) → R) (K : A0 → A1 → R) : R := B K
def jn3 {A0 A1 A2 R : Type} (B : (A0 → A1 → A2 → R) → R) (K : A0 → A1 → A2 → R) : R := B K
def jn4 {A0 A1 A2 A3 R : Type} (B : (A0 → A1 → A2 → A3 → R) → R) (K : A0 → A1 → A2 → A3 → R) : R := B K
def jn5 {A0 A1 A2 A3 A4 R : Type} (B : (A0 → A1 → A2 → A3 → A4 → R) → R) (K : A0 → A1 → A2 → A3 → A4 → R) : R := B K
section ROWS
variable {ρ : Type} {Q : ρ → State → Prop} {Γ : Gm} {Ξ : Gx} {E : Ev} {μ : Md} {σ : St} {pc : Nat} {lv : List (Nat × Value)} {st : List Value} {o oT oF : Option ρ}
theorem s_iconst {n : Int} {v : Int32} (hd : decode μ.2.1 pc = .ok (.iconst n, 1)) (hv : Int32.ofInt n = v) (k : Sim Q Γ Ξ E μ σ (pc + 1) lv (.int v :: st) o) : Sim Q Γ Ξ E μ σ pc lv (st) o := by
  intro C r ho ls H locs hl hP hS
  exact lv_iconst C.1 C.2.1 hd hv (k C r ho ls H locs hl hP hS)
theorem s_bipush {n : Int} {v : Int32} (hd : decode μ.2.1 pc = .ok (.bipush n, 2)) (hv : (Int8.ofInt n).toInt32 = v) (k : Sim Q Γ Ξ E μ σ (pc + 2) lv (.int v :: st) o) : Sim Q Γ Ξ E μ σ pc lv (st) o := by
  intro C r ho ls H locs hl hP hS
  exact lv_bipush C.1 C.2.1 hd hv (k C r ho ls H locs hl hP hS)
theorem s_sipush {n : Int} {v : Int32} (hd : decode μ.2.1 pc = .ok (.sipush n, 3)) (hv : (Int16.ofInt n).toInt32 = v) (k : Sim Q Γ Ξ E μ σ (pc + 3) lv (.int v :: st) o) : Sim Q Γ Ξ E μ σ pc lv (st) o := by
  intro C r ho ls H locs hl hP hS
  exact lv_sipush C.1 C.2.1 hd hv (k C r ho ls H locs hl hP hS)
theorem s_lconst {n : Fin 2} {v : Int64} (hd : decode μ.2.1 pc = .ok (.lconst n, 1)) (hv : Int64.ofNat (n : Nat) = v) (k : Sim Q Γ Ξ E μ σ (pc + 1) lv (.long v :: st) o) : Sim Q Γ Ξ E μ σ pc lv (st) o := by
  intro C r ho ls H locs hl hP hS
  exact lv_lconst C.1 C.2.1 hd hv (k C r ho ls H locs hl hP hS)
theorem s_iload_n {k : Fin 4} {i : Nat} {x : Int32} (hd : decode μ.2.1 pc = .ok (.iload_n k, 1)) (j : Nat) (hi : (k : Nat) = i) (hj : lv[j]? = some (i, .int x)) (k : Sim Q Γ Ξ E μ σ (pc + 1) lv (.int x :: st) o) : Sim Q Γ Ξ E μ σ pc lv st o := by
  intro C r ho ls H locs hl hP hS
  exact lv_iload_n C.1 C.2.1 hd hi (lv_at hl j hj) (k C r ho ls H locs hl hP hS)
theorem s_iload {i : Nat} {x : Int32} (hd : decode μ.2.1 pc = .ok (.iload i, 2)) (j : Nat) (hj : lv[j]? = some (i, .int x)) (k : Sim Q Γ Ξ E μ σ (pc + 2) lv (.int x :: st) o) : Sim Q Γ Ξ E μ σ pc lv st o := by
  intro C r ho ls H locs hl hP hS
  exact lv_iload C.1 C.2.1 hd (lv_at hl j hj) (k C r ho ls H locs hl hP hS)
theorem s_lload_n {k : Fin 4} {i : Nat} {x : Int64} (hd : decode μ.2.1 pc = .ok (.lload_n k, 1)) (j : Nat) (hi : (k : Nat) = i) (hj : lv[j]? = some (i, .long x)) (k : Sim Q Γ Ξ E μ σ (pc + 1) lv (.long x :: st) o) : Sim Q Γ Ξ E μ σ pc lv st o := by
  intro C r ho ls H locs hl hP hS
  exact lv_lload_n C.1 C.2.1 hd hi (lv_at hl j hj) (k C r ho ls H locs hl hP hS)
theorem s_lload {i : Nat} {x : Int64} (hd : decode μ.2.1 pc = .ok (.lload i, 2)) (j : Nat) (hj : lv[j]? = some (i, .long x)) (k : Sim Q Γ Ξ E μ σ (pc + 2) lv (.long x :: st) o) : Sim Q Γ Ξ E μ σ pc lv st o := by
  intro C r ho ls H locs hl hP hS
  exact lv_lload C.1 C.2.1 hd (lv_at hl j hj) (k C r ho ls H locs hl hP hS)
theorem s_aload_n {k : Fin 4} {i : Nat} {x : Nat} (hd : decode μ.2.1 pc = .ok (.aload_n k, 1)) (j : Nat) (hi : (k : Nat) = i) (hj : lv[j]? = some (i, .ref x)) (k : Sim Q Γ Ξ E μ σ (pc + 1) lv (.ref x :: st) o) : Sim Q Γ Ξ E μ σ pc lv st o := by
  intro C r ho ls H locs hl hP hS
  exact lv_aload_n C.1 C.2.1 hd hi (lv_at hl j hj) (k C r ho ls H locs hl hP hS)
theorem s_aload {i : Nat} {x : Nat} (hd : decode μ.2.1 pc = .ok (.aload i, 2)) (j : Nat) (hj : lv[j]? = some (i, .ref x)) (k : Sim Q Γ Ξ E μ σ (pc + 2) lv (.ref x :: st) o) : Sim Q Γ Ξ E μ σ pc lv st o := by
  intro C r ho ls H locs hl hP hS
  exact lv_aload C.1 C.2.1 hd (lv_at hl j hj) (k C r ho ls H locs hl hP hS)
theorem s_istore_n {k : Fin 4} {i : Nat} {x : Int32} (lv' : List (Nat × Value)) (hd : decode μ.2.1 pc = .ok (.istore_n k, 1)) (hi : (k : Nat) = i) (hn : i < μ.2.2.1) (hv : (i, Value.int x) :: lv.filter (fun q => !(q.1 == i) && !(q.1 + 1 == i && q.2.category == 2)) = lv') (k : Sim Q Γ Ξ E μ σ (pc + 1) lv' st o) : Sim Q Γ Ξ E μ σ pc lv (Value.int x :: st) o := by
  intro C r ho ls H locs hl hP hS
  exact lv_istore_n C.1 C.2.1 hd hi hl hn hv (fun ls hl => k C r ho ls H locs hl hP hS)
theorem s_istore_nB {k : Fin 4} {i : Nat} {x : Int32} {K : Int32 → Option ρ} (lvf : Int32 → List (Nat × Value)) (hd : decode μ.2.1 pc = .ok (.istore_n k, 1)) (hi : (k : Nat) = i) (hn : i < μ.2.2.1) (hv : ∀ x, (i, Value.int x) :: lv.filter (fun q => !(q.1 == i) && !(q.1 + 1 == i && q.2.category == 2)) = lvf x) (k : ∀ x, Sim Q Γ Ξ E μ σ (pc + 1) (lvf x) st (K x)) : Sim Q Γ Ξ E μ σ pc lv (Value.int x :: st) (bd x K) := by
  intro C r ho ls H locs hl hP hS
  exact lv_istore_n C.1 C.2.1 hd hi hl hn (hv x) (fun ls hl => k x C r ho ls H locs hl hP hS)
theorem s_istore {i : Nat} {x : Int32} (lv' : List (Nat × Value)) (hd : decode μ.2.1 pc = .ok (.istore i, 2)) (hn : i < μ.2.2.1) (hv : (i, Value.int x) :: lv.filter (fun q => !(q.1 == i) && !(q.1 + 1 == i && q.2.category == 2)) = lv') (k : Sim Q Γ Ξ E μ σ (pc + 2) lv' st o) : Sim Q Γ Ξ E μ σ pc lv (Value.int x :: st) o := by
  intro C r ho ls H locs hl hP hS
  exact lv_istore C.1 C.2.1 hd hl hn hv (fun ls hl => k C r ho ls H locs hl hP hS)
theorem s_istoreB {i : Nat} {x : Int32} {K : Int32 → Option ρ} (lvf : Int32 → List (Nat × Value)) (hd : decode μ.2.1 pc = .ok (.istore i, 2)) (hn : i < μ.2.2.1) (hv : ∀ x, (i, Value.int x) :: lv.filter (fun q => !(q.1 == i) && !(q.1 + 1 == i && q.2.category == 2)) = lvf x) (k : ∀ x, Sim Q Γ Ξ E μ σ (pc + 2) (lvf x) st (K x)) : Sim Q Γ Ξ E μ σ pc lv (Value.int x :: st) (bd x K) := by
  intro C r ho ls H locs hl hP hS
  exact lv_istore C.1 C.2.1 hd hl hn (hv x) (fun ls hl => k x C r ho ls H locs hl hP hS)
theorem s_lstore_n {k : Fin 4} {i : Nat} {x : Int64} (lv' : List (Nat × Value)) (hd : decode μ.2.1 pc = .ok (.lstore_n k, 1)) (hi : (k : Nat) = i) (hn : i + 1 < μ.2.2.1) (hv : (i, Value.long x) :: lv.filter (fun q => !(q.1 == i) && (!(q.1 == i + 1) && !(q.1 + 1 == i && q.2.category == 2))) = lv') (k : Sim Q Γ Ξ E μ σ (pc + 1) lv' st o) : Sim Q Γ Ξ E μ σ pc lv (Value.long x :: st) o := by
  intro C r ho ls H locs hl hP hS
  exact lv_lstore_n C.1 C.2.1 hd hi hl hn hv (fun ls hl => k C r ho ls H locs hl hP hS)
theorem s_lstore_nB {k : Fin 4} {i : Nat} {x : Int64} {K : Int64 → Option ρ} (lvf : Int64 → List (Nat × Value)) (hd : decode μ.2.1 pc = .ok (.lstore_n k, 1)) (hi : (k : Nat) = i) (hn : i + 1 < μ.2.2.1) (hv : ∀ x, (i, Value.long x) :: lv.filter (fun q => !(q.1 == i) && (!(q.1 == i + 1) && !(q.1 + 1 == i && q.2.category == 2))) = lvf x) (k : ∀ x, Sim Q Γ Ξ E μ σ (pc + 1) (lvf x) st (K x)) : Sim Q Γ Ξ E μ σ pc lv (Value.long x :: st) (bd x K) := by
  intro C r ho ls H locs hl hP hS
  exact lv_lstore_n C.1 C.2.1 hd hi hl hn (hv x) (fun ls hl => k x C r ho ls H locs hl hP hS)
theorem s_lstore {i : Nat} {x : Int64} (lv' : List (Nat × Value)) (hd : decode μ.2.1 pc = .ok (.lstore i, 2)) (hn : i + 1 < μ.2.2.1) (hv : (i, Value.long x) :: lv.filter (fun q => !(q.1 == i) && (!(q.1 == i + 1) && !(q.1 + 1 == i && q.2.category == 2))) = lv') (k : Sim Q Γ Ξ E μ σ (pc + 2) lv' st o) : Sim Q Γ Ξ E μ σ pc lv (Value.long x :: st) o := by
  intro C r ho ls H locs hl hP hS
  exact lv_lstore C.1 C.2.1 hd hl hn hv (fun ls hl => k C r ho ls H locs hl hP hS)
theorem s_lstoreB {i : Nat} {x : Int64} {K : Int64 → Option ρ} (lvf : Int64 → List (Nat × Value)) (hd : decode μ.2.1 pc = .ok (.lstore i, 2)) (hn : i + 1 < μ.2.2.1) (hv : ∀ x, (i, Value.long x) :: lv.filter (fun q => !(q.1 == i) && (!(q.1 == i + 1) && !(q.1 + 1 == i && q.2.category == 2))) = lvf x) (k : ∀ x, Sim Q Γ Ξ E μ σ (pc + 2) (lvf x) st (K x)) : Sim Q Γ Ξ E μ σ pc lv (Value.long x :: st) (bd x K) := by
  intro C r ho ls H locs hl hP hS
  exact lv_lstore C.1 C.2.1 hd hl hn (hv x) (fun ls hl => k x C r ho ls H locs hl hP hS)
theorem s_astore_n {k : Fin 4} {i : Nat} {x : Nat} (lv' : List (Nat × Value)) (hd : decode μ.2.1 pc = .ok (.astore_n k, 1)) (hi : (k : Nat) = i) (hn : i < μ.2.2.1) (hv : (i, Value.ref x) :: lv.filter (fun q => !(q.1 == i) && !(q.1 + 1 == i && q.2.category == 2)) = lv') (k : Sim Q Γ Ξ E μ σ (pc + 1) lv' st o) : Sim Q Γ Ξ E μ σ pc lv (Value.ref x :: st) o := by
  intro C r ho ls H locs hl hP hS
  exact lv_astore_n C.1 C.2.1 hd hi hl hn hv (fun ls hl => k C r ho ls H locs hl hP hS)
theorem s_astore {i : Nat} {x : Nat} (lv' : List (Nat × Value)) (hd : decode μ.2.1 pc = .ok (.astore i, 2)) (hn : i < μ.2.2.1) (hv : (i, Value.ref x) :: lv.filter (fun q => !(q.1 == i) && !(q.1 + 1 == i && q.2.category == 2)) = lv') (k : Sim Q Γ Ξ E μ σ (pc + 2) lv' st o) : Sim Q Γ Ξ E μ σ pc lv (Value.ref x :: st) o := by
  intro C r ho ls H locs hl hP hS
  exact lv_astore C.1 C.2.1 hd hl hn hv (fun ls hl => k C r ho ls H locs hl hP hS)
theorem s_iinc {i : Nat} {n : Int} {x v : Int32} (lv' : List (Nat × Value)) (hd : decode μ.2.1 pc = .ok (.iinc i n, 3)) (j : Nat) (hj : lv[j]? = some (i, .int x)) (hv : x + Int32.ofInt n = v) (hn : i < μ.2.2.1) (hl' : (i, Value.int v) :: lv.filter (fun q => !(q.1 == i) && !(q.1 + 1 == i && q.2.category == 2)) = lv') (k : Sim Q Γ Ξ E μ σ (pc + 3) lv' st o) : Sim Q Γ Ξ E μ σ pc lv st o := by
  intro C r ho ls H locs hl hP hS
  exact lv_iinc C.1 C.2.1 hd hl hj hv hn hl' (fun ls hl => k C r ho ls H locs hl hP hS)
theorem s_iadd {x y : Int32} (hd : decode μ.2.1 pc = .ok (.iadd, 1)) (k : Sim Q Γ Ξ E μ σ (pc + 1) lv (.int (x + y) :: st) o) : Sim Q Γ Ξ E μ σ pc lv (.int y :: .int x :: st) o := by
  intro C r ho ls H locs hl hP hS
  exact lv_iadd C.1 C.2.1 hd (k C r ho ls H locs hl hP hS)
theorem s_isub {x y : Int32} (hd : decode μ.2.1 pc = .ok (.isub, 1)) (k : Sim Q Γ Ξ E μ σ (pc + 1) lv (.int (x - y) :: st) o) : Sim Q Γ Ξ E μ σ pc lv (.int y :: .int x :: st) o := by
  intro C r ho ls H locs hl hP hS
  exact lv_isub C.1 C.2.1 hd (k C r ho ls H locs hl hP hS)
theorem s_imul {x y : Int32} (hd : decode μ.2.1 pc = .ok (.imul, 1)) (k : Sim Q Γ Ξ E μ σ (pc + 1) lv (.int (x * y) :: st) o) : Sim Q Γ Ξ E μ σ pc lv (.int y :: .int x :: st) o := by
  intro C r ho ls H locs hl hP hS
  exact lv_imul C.1 C.2.1 hd (k C r ho ls H locs hl hP hS)
theorem s_iand {x y : Int32} (hd : decode μ.2.1 pc = .ok (.iand, 1)) (k : Sim Q Γ Ξ E μ σ (pc + 1) lv (.int (x &&& y) :: st) o) : Sim Q Γ Ξ E μ σ pc lv (.int y :: .int x :: st) o := by
  intro C r ho ls H locs hl hP hS
  exact lv_iand C.1 C.2.1 hd (k C r ho ls H locs hl hP hS)
theorem s_ior {x y : Int32} (hd : decode μ.2.1 pc = .ok (.ior, 1)) (k : Sim Q Γ Ξ E μ σ (pc + 1) lv (.int (x ||| y) :: st) o) : Sim Q Γ Ξ E μ σ pc lv (.int y :: .int x :: st) o := by
  intro C r ho ls H locs hl hP hS
  exact lv_ior C.1 C.2.1 hd (k C r ho ls H locs hl hP hS)
theorem s_ixor {x y : Int32} (hd : decode μ.2.1 pc = .ok (.ixor, 1)) (k : Sim Q Γ Ξ E μ σ (pc + 1) lv (.int (x ^^^ y) :: st) o) : Sim Q Γ Ξ E μ σ pc lv (.int y :: .int x :: st) o := by
  intro C r ho ls H locs hl hP hS
  exact lv_ixor C.1 C.2.1 hd (k C r ho ls H locs hl hP hS)
theorem s_ishl {x y : Int32} (hd : decode μ.2.1 pc = .ok (.ishl, 1)) (k : Sim Q Γ Ξ E μ σ (pc + 1) lv (.int (x <<< (y &&& 31)) :: st) o) : Sim Q Γ Ξ E μ σ pc lv (.int y :: .int x :: st) o := by
  intro C r ho ls H locs hl hP hS
  exact lv_ishl C.1 C.2.1 hd (k C r ho ls H locs hl hP hS)
theorem s_ishr {x y : Int32} (hd : decode μ.2.1 pc = .ok (.ishr, 1)) (k : Sim Q Γ Ξ E μ σ (pc + 1) lv (.int (x >>> (y &&& 31)) :: st) o) : Sim Q Γ Ξ E μ σ pc lv (.int y :: .int x :: st) o := by
  intro C r ho ls H locs hl hP hS
  exact lv_ishr C.1 C.2.1 hd (k C r ho ls H locs hl hP hS)
theorem s_idiv {x y : Int32} (hd : decode μ.2.1 pc = .ok (.idiv, 1)) (hne : ¬ y = 0) (k : Sim Q Γ Ξ E μ σ (pc + 1) lv (.int (x / y) :: st) o) : Sim Q Γ Ξ E μ σ pc lv (.int y :: .int x :: st) o := by
  intro C r ho ls H locs hl hP hS
  exact lv_idiv C.1 C.2.1 hd hne (k C r ho ls H locs hl hP hS)
theorem s_irem {x y : Int32} (hd : decode μ.2.1 pc = .ok (.irem, 1)) (hne : ¬ y = 0) (k : Sim Q Γ Ξ E μ σ (pc + 1) lv (.int (x - x / y * y) :: st) o) : Sim Q Γ Ξ E μ σ pc lv (.int y :: .int x :: st) o := by
  intro C r ho ls H locs hl hP hS
  exact lv_irem C.1 C.2.1 hd hne (k C r ho ls H locs hl hP hS)
theorem s_iushr {x y v : Int32} (hd : decode μ.2.1 pc = .ok (.iushr, 1)) (hv : (x.toUInt32 >>> (y.toUInt32 &&& Int32.toUInt32 31)).toInt32 = v) (k : Sim Q Γ Ξ E μ σ (pc + 1) lv (.int v :: st) o) : Sim Q Γ Ξ E μ σ pc lv (.int y :: .int x :: st) o := by
  intro C r ho ls H locs hl hP hS
  exact lv_iushr C.1 C.2.1 hd hv (k C r ho ls H locs hl hP hS)
theorem s_ineg {x : Int32} (hd : decode μ.2.1 pc = .ok (.ineg, 1)) (k : Sim Q Γ Ξ E μ σ (pc + 1) lv (.int (-x) :: st) o) : Sim Q Γ Ξ E μ σ pc lv (.int x :: st) o := by
  intro C r ho ls H locs hl hP hS
  exact lv_ineg C.1 C.2.1 hd (k C r ho ls H locs hl hP hS)
theorem s_ladd {x y : Int64} (hd : decode μ.2.1 pc = .ok (.ladd, 1)) (k : Sim Q Γ Ξ E μ σ (pc + 1) lv (.long (x + y) :: st) o) : Sim Q Γ Ξ E μ σ pc lv (.long y :: .long x :: st) o := by
  intro C r ho ls H locs hl hP hS
  exact lv_ladd C.1 C.2.1 hd (k C r ho ls H locs hl hP hS)
theorem s_lsub {x y : Int64} (hd : decode μ.2.1 pc = .ok (.lsub, 1)) (k : Sim Q Γ Ξ E μ σ (pc + 1) lv (.long (x - y) :: st) o) : Sim Q Γ Ξ E μ σ pc lv (.long y :: .long x :: st) o := by
  intro C r ho ls H locs hl hP hS
  exact lv_lsub C.1 C.2.1 hd (k C r ho ls H locs hl hP hS)
theorem s_lmul {x y : Int64} (hd : decode μ.2.1 pc = .ok (.lmul, 1)) (k : Sim Q Γ Ξ E μ σ (pc + 1) lv (.long (x * y) :: st) o) : Sim Q Γ Ξ E μ σ pc lv (.long y :: .long x :: st) o := by
  intro C r ho ls H locs hl hP hS
  exact lv_lmul C.1 C.2.1 hd (k C r ho ls H locs hl hP hS)
theorem s_land {x y : Int64} (hd : decode μ.2.1 pc = .ok (.land, 1)) (k : Sim Q Γ Ξ E μ σ (pc + 1) lv (.long (x &&& y) :: st) o) : Sim Q Γ Ξ E μ σ pc lv (.long y :: .long x :: st) o := by
  intro C r ho ls H locs hl hP hS
  exact lv_land C.1 C.2.1 hd (k C r ho ls H locs hl hP hS)
theorem s_lor {x y : Int64} (hd : decode μ.2.1 pc = .ok (.lor, 1)) (k : Sim Q Γ Ξ E μ σ (pc + 1) lv (.long (x ||| y) :: st) o) : Sim Q Γ Ξ E μ σ pc lv (.long y :: .long x :: st) o := by
  intro C r ho ls H locs hl hP hS
  exact lv_lor C.1 C.2.1 hd (k C r ho ls H locs hl hP hS)
theorem s_lxor {x y : Int64} (hd : decode μ.2.1 pc = .ok (.lxor, 1)) (k : Sim Q Γ Ξ E μ σ (pc + 1) lv (.long (x ^^^ y) :: st) o) : Sim Q Γ Ξ E μ σ pc lv (.long y :: .long x :: st) o := by
  intro C r ho ls H locs hl hP hS
  exact lv_lxor C.1 C.2.1 hd (k C r ho ls H locs hl hP hS)
theorem s_lneg {x : Int64} (hd : decode μ.2.1 pc = .ok (.lneg, 1)) (k : Sim Q Γ Ξ E μ σ (pc + 1) lv (.long (-x) :: st) o) : Sim Q Γ Ξ E μ σ pc lv (.long x :: st) o := by
  intro C r ho ls H locs hl hP hS
  exact lv_lneg C.1 C.2.1 hd (k C r ho ls H locs hl hP hS)
theorem s_lushr {x v : Int64} {y : Int32} (hd : decode μ.2.1 pc = .ok (.lushr, 1)) (hv : (x.toUInt64 >>> (y.toInt64.toUInt64 &&& Int64.toUInt64 63)).toInt64 = v) (k : Sim Q Γ Ξ E μ σ (pc + 1) lv (.long v :: st) o) : Sim Q Γ Ξ E μ σ pc lv (.int y :: .long x :: st) o := by
  intro C r ho ls H locs hl hP hS
  exact lv_lushr C.1 C.2.1 hd hv (k C r ho ls H locs hl hP hS)
theorem s_lshl {x v : Int64} {y : Int32} (hd : decode μ.2.1 pc = .ok (.lshl, 1)) (hv : x <<< (y.toInt64 &&& 63) = v) (k : Sim Q Γ Ξ E μ σ (pc + 1) lv (.long v :: st) o) : Sim Q Γ Ξ E μ σ pc lv (.int y :: .long x :: st) o := by
  intro C r ho ls H locs hl hP hS
  exact lv_lshl C.1 C.2.1 hd hv (k C r ho ls H locs hl hP hS)
theorem s_lshr {x v : Int64} {y : Int32} (hd : decode μ.2.1 pc = .ok (.lshr, 1)) (hv : x >>> (y.toInt64 &&& 63) = v) (k : Sim Q Γ Ξ E μ σ (pc + 1) lv (.long v :: st) o) : Sim Q Γ Ξ E μ σ pc lv (.int y :: .long x :: st) o := by
  intro C r ho ls H locs hl hP hS
  exact lv_lshr C.1 C.2.1 hd hv (k C r ho ls H locs hl hP hS)
theorem s_i2l {x : Int32} {v : Int64} (hd : decode μ.2.1 pc = .ok (.i2l, 1)) (hv : x.toInt64 = v) (k : Sim Q Γ Ξ E μ σ (pc + 1) lv (.long v :: st) o) : Sim Q Γ Ξ E μ σ pc lv (.int x :: st) o := by
  intro C r ho ls H locs hl hP hS
  exact lv_i2l C.1 C.2.1 hd hv (k C r ho ls H locs hl hP hS)
theorem s_l2i {x : Int64} {v : Int32} (hd : decode μ.2.1 pc = .ok (.l2i, 1)) (hv : x.toInt32 = v) (k : Sim Q Γ Ξ E μ σ (pc + 1) lv (.int v :: st) o) : Sim Q Γ Ξ E μ σ pc lv (.long x :: st) o := by
  intro C r ho ls H locs hl hP hS
  exact lv_l2i C.1 C.2.1 hd hv (k C r ho ls H locs hl hP hS)
theorem s_lcmp {x y : Int64} (hd : decode μ.2.1 pc = .ok (.lcmp, 1)) (k : Sim Q Γ Ξ E μ σ (pc + 1) lv (.int (lg_cmp x y) :: st) o) : Sim Q Γ Ξ E μ σ pc lv (.long y :: .long x :: st) o := by
  intro C r ho ls H locs hl hP hS
  exact W.lcmp C.1 C.2.1 hd (k C r ho ls H locs hl hP hS)
theorem s_dup {va : Value} (hd : decode μ.2.1 pc = .ok (.dup, 1)) (hva : va.category = 1) (k : Sim Q Γ Ξ E μ σ (pc + 1) lv (va :: va :: st) o) : Sim Q Γ Ξ E μ σ pc lv (va :: st) o := by
  intro C r ho ls H locs hl hP hS
  exact lv_dup C.1 C.2.1 hd hva (k C r ho ls H locs hl hP hS)
theorem s_pop {va : Value} (hd : decode μ.2.1 pc = .ok (.pop, 1)) (hva : va.category = 1) (k : Sim Q Γ Ξ E μ σ (pc + 1) lv (st) o) : Sim Q Γ Ξ E μ σ pc lv (va :: st) o := by
  intro C r ho ls H locs hl hP hS
  exact lv_pop C.1 C.2.1 hd hva (k C r ho ls H locs hl hP hS)
theorem s_dup2 {va vb : Value} (hd : decode μ.2.1 pc = .ok (.dup2, 1)) (hva : va.category = 1) (hvb : vb.category = 1) (k : Sim Q Γ Ξ E μ σ (pc + 1) lv (va :: vb :: va :: vb :: st) o) : Sim Q Γ Ξ E μ σ pc lv (va :: vb :: st) o := by
  intro C r ho ls H locs hl hP hS
  exact lv_dup2_11 C.1 C.2.1 hd hva hvb (k C r ho ls H locs hl hP hS)
theorem s_goto {off : Int} (tgt : Nat) (hd : decode μ.2.1 pc = .ok (.goto off, 3)) (ht : (pc : Int) + off = (tgt : Int)) (k : Sim Q Γ Ξ E μ σ tgt lv st o) : Sim Q Γ Ξ E μ σ pc lv st o := by
  intro C r ho ls H locs hl hP hS
  exact lv_goto C.1 C.2.1 hd ht (k C r ho ls H locs hl hP hS)
theorem i_nle {x y : Int32} (h : ¬ x < y) : y ≤ x := by
  rw [Int32.lt_iff_toInt_lt] at h
  rw [Int32.le_iff_toInt_le]
  omega
theorem i_nlt {x y : Int32} (h : x ≤ y) : ¬ y < x := by
  rw [Int32.le_iff_toInt_le] at h
  rw [Int32.lt_iff_toInt_lt]
  omega
theorem fa_lt' (x y : Int32) : x < y ∨ y ≤ x := by
  by_cases h : x < y
  · exact Or.inl h
  · exact Or.inr (i_nle h)
theorem s_if_eq {x : Int32} {off : Int} (tgt : Nat) (hd : decode μ.2.1 pc = .ok (.ifCond .eq off, 3)) (ht : (pc : Int) + off = (tgt : Int)) (kT : Sim Q Γ Ξ E μ σ (tgt) lv st oT) (kF : Sim Q Γ Ξ E μ σ (pc + 3) lv st oF) : Sim Q Γ Ξ E μ σ pc lv (.int x :: st) (if x = 0 then oT else oF) := by
  intro C r ho ls H locs hl hP hS
  exact lv_if_eq C.1 C.2.1 hd ht (fun c => kT C r (by rw [if_pos c] at ho; exact ho) ls H locs hl hP hS) (fun c => kF C r (by rw [if_neg c] at ho; exact ho) ls H locs hl hP hS)
theorem s_if_ne {x : Int32} {off : Int} (tgt : Nat) (hd : decode μ.2.1 pc = .ok (.ifCond .ne off, 3)) (ht : (pc : Int) + off = (tgt : Int)) (kT : Sim Q Γ Ξ E μ σ (pc + 3) lv st oT) (kF : Sim Q Γ Ξ E μ σ (tgt) lv st oF) : Sim Q Γ Ξ E μ σ pc lv (.int x :: st) (if x = 0 then oT else oF) := by
  intro C r ho ls H locs hl hP hS
  exact lv_if_ne C.1 C.2.1 hd ht (fun c => kF C r (by rw [if_neg c] at ho; exact ho) ls H locs hl hP hS) (fun c => kT C r (by rw [if_pos c] at ho; exact ho) ls H locs hl hP hS)
theorem s_if_lt {x : Int32} {off : Int} (tgt : Nat) (hd : decode μ.2.1 pc = .ok (.ifCond .lt off, 3)) (ht : (pc : Int) + off = (tgt : Int)) (kT : Sim Q Γ Ξ E μ σ (tgt) lv st oT) (kF : Sim Q Γ Ξ E μ σ (pc + 3) lv st oF) : Sim Q Γ Ξ E μ σ pc lv (.int x :: st) (if x < 0 then oT else oF) := by
  intro C r ho ls H locs hl hP hS
  exact lv_if_lt C.1 C.2.1 hd ht (fun c => kT C r (by rw [if_pos c] at ho; exact ho) ls H locs hl hP hS) (fun c => kF C r (by rw [if_neg c] at ho; exact ho) ls H locs hl hP hS)
theorem s_if_ge {x : Int32} {off : Int} (tgt : Nat) (hd : decode μ.2.1 pc = .ok (.ifCond .ge off, 3)) (ht : (pc : Int) + off = (tgt : Int)) (kT : Sim Q Γ Ξ E μ σ (pc + 3) lv st oT) (kF : Sim Q Γ Ξ E μ σ (tgt) lv st oF) : Sim Q Γ Ξ E μ σ pc lv (.int x :: st) (if x < 0 then oT else oF) := by
  intro C r ho ls H locs hl hP hS
  exact lv_if_ge C.1 C.2.1 hd ht (fun c => kF C r (by rw [if_neg (i_nlt c)] at ho; exact ho) ls H locs hl hP hS) (fun c => kT C r (by rw [if_pos (by rcases fa_lt' x 0 with q | q; exact q; exact absurd q c)] at ho; exact ho) ls H locs hl hP hS)
theorem s_if_gt {x : Int32} {off : Int} (tgt : Nat) (hd : decode μ.2.1 pc = .ok (.ifCond .gt off, 3)) (ht : (pc : Int) + off = (tgt : Int)) (kT : Sim Q Γ Ξ E μ σ (tgt) lv st oT) (kF : Sim Q Γ Ξ E μ σ (pc + 3) lv st oF) : Sim Q Γ Ξ E μ σ pc lv (.int x :: st) (if 0 < x then oT else oF) := by
  intro C r ho ls H locs hl hP hS
  exact lv_if_gt C.1 C.2.1 hd ht (fun c => kT C r (by rw [if_pos c] at ho; exact ho) ls H locs hl hP hS) (fun c => kF C r (by rw [if_neg c] at ho; exact ho) ls H locs hl hP hS)
theorem s_if_le {x : Int32} {off : Int} (tgt : Nat) (hd : decode μ.2.1 pc = .ok (.ifCond .le off, 3)) (ht : (pc : Int) + off = (tgt : Int)) (kT : Sim Q Γ Ξ E μ σ (pc + 3) lv st oT) (kF : Sim Q Γ Ξ E μ σ (tgt) lv st oF) : Sim Q Γ Ξ E μ σ pc lv (.int x :: st) (if 0 < x then oT else oF) := by
  intro C r ho ls H locs hl hP hS
  exact lv_if_le C.1 C.2.1 hd ht (fun c => kF C r (by rw [if_neg (i_nlt c)] at ho; exact ho) ls H locs hl hP hS) (fun c => kT C r (by rw [if_pos (by rcases fa_lt' 0 x with q | q; exact q; exact absurd q c)] at ho; exact ho) ls H locs hl hP hS)
theorem s_icmp_eq {x y : Int32} {off : Int} (tgt : Nat) (hd : decode μ.2.1 pc = .ok (.if_icmp .eq off, 3)) (ht : (pc : Int) + off = (tgt : Int)) (kT : Sim Q Γ Ξ E μ σ (tgt) lv st oT) (kF : Sim Q Γ Ξ E μ σ (pc + 3) lv st oF) : Sim Q Γ Ξ E μ σ pc lv (.int y :: .int x :: st) (if x = y then oT else oF) := by
  intro C r ho ls H locs hl hP hS
  exact lv_icmp_eq C.1 C.2.1 hd ht (fun c => kT C r (by rw [if_pos c] at ho; exact ho) ls H locs hl hP hS) (fun c => kF C r (by rw [if_neg c] at ho; exact ho) ls H locs hl hP hS)
theorem s_icmp_ne {x y : Int32} {off : Int} (tgt : Nat) (hd : decode μ.2.1 pc = .ok (.if_icmp .ne off, 3)) (ht : (pc : Int) + off = (tgt : Int)) (kT : Sim Q Γ Ξ E μ σ (pc + 3) lv st oT) (kF : Sim Q Γ Ξ E μ σ (tgt) lv st oF) : Sim Q Γ Ξ E μ σ pc lv (.int y :: .int x :: st) (if x = y then oT else oF) := by
  intro C r ho ls H locs hl hP hS
  exact lv_icmp_ne C.1 C.2.1 hd ht (fun c => kF C r (by rw [if_neg c] at ho; exact ho) ls H locs hl hP hS) (fun c => kT C r (by rw [if_pos c] at ho; exact ho) ls H locs hl hP hS)
theorem s_icmp_lt {x y : Int32} {off : Int} (tgt : Nat) (hd : decode μ.2.1 pc = .ok (.if_icmp .lt off, 3)) (ht : (pc : Int) + off = (tgt : Int)) (kT : Sim Q Γ Ξ E μ σ (tgt) lv st oT) (kF : Sim Q Γ Ξ E μ σ (pc + 3) lv st oF) : Sim Q Γ Ξ E μ σ pc lv (.int y :: .int x :: st) (if x < y then oT else oF) := by
  intro C r ho ls H locs hl hP hS
  exact lv_icmp_lt C.1 C.2.1 hd ht (fun c => kT C r (by rw [if_pos c] at ho; exact ho) ls H locs hl hP hS) (fun c => kF C r (by rw [if_neg c] at ho; exact ho) ls H locs hl hP hS)
theorem s_icmp_ge {x y : Int32} {off : Int} (tgt : Nat) (hd : decode μ.2.1 pc = .ok (.if_icmp .ge off, 3)) (ht : (pc : Int) + off = (tgt : Int)) (kT : Sim Q Γ Ξ E μ σ (pc + 3) lv st oT) (kF : Sim Q Γ Ξ E μ σ (tgt) lv st oF) : Sim Q Γ Ξ E μ σ pc lv (.int y :: .int x :: st) (if x < y then oT else oF) := by
  intro C r ho ls H locs hl hP hS
  exact lv_icmp_ge C.1 C.2.1 hd ht (fun c => kF C r (by rw [if_neg (i_nlt c)] at ho; exact ho) ls H locs hl hP hS) (fun c => kT C r (by rw [if_pos (by rcases fa_lt' x y with q | q; exact q; exact absurd q c)] at ho; exact ho) ls H locs hl hP hS)
theorem s_icmp_gt {x y : Int32} {off : Int} (tgt : Nat) (hd : decode μ.2.1 pc = .ok (.if_icmp .gt off, 3)) (ht : (pc : Int) + off = (tgt : Int)) (kT : Sim Q Γ Ξ E μ σ (tgt) lv st oT) (kF : Sim Q Γ Ξ E μ σ (pc + 3) lv st oF) : Sim Q Γ Ξ E μ σ pc lv (.int y :: .int x :: st) (if y < x then oT else oF) := by
  intro C r ho ls H locs hl hP hS
  exact lv_icmp_gt C.1 C.2.1 hd ht (fun c => kT C r (by rw [if_pos c] at ho; exact ho) ls H locs hl hP hS) (fun c => kF C r (by rw [if_neg c] at ho; exact ho) ls H locs hl hP hS)
theorem s_icmp_le {x y : Int32} {off : Int} (tgt : Nat) (hd : decode μ.2.1 pc = .ok (.if_icmp .le off, 3)) (ht : (pc : Int) + off = (tgt : Int)) (kT : Sim Q Γ Ξ E μ σ (pc + 3) lv st oT) (kF : Sim Q Γ Ξ E μ σ (tgt) lv st oF) : Sim Q Γ Ξ E μ σ pc lv (.int y :: .int x :: st) (if y < x then oT else oF) := by
  intro C r ho ls H locs hl hP hS
  exact lv_icmp_le C.1 C.2.1 hd ht (fun c => kF C r (by rw [if_neg (i_nlt c)] at ho; exact ho) ls H locs hl hP hS) (fun c => kT C r (by rw [if_pos (by rcases fa_lt' y x with q | q; exact q; exact absurd q c)] at ho; exact ho) ls H locs hl hP hS)
theorem s_ldc {own : String} {index : Nat} {v : Int32} (hown : μ.1.cls = own) (hw : Cond.constant own index v ∈ tT) (hd : decode μ.2.1 pc = .ok (.ldc index, 2)) (k : Sim Q Γ Ξ E μ σ (pc + 2) lv (.int v :: st) o) : Sim Q Γ Ξ E μ σ pc lv st o := by
  intro C r ho ls H locs hl hP hS
  obtain ⟨hx, hb, hml, hr, hown', hts, hlocks, hK, ⟨hE, hA, hcc, hcs⟩, hKs⟩ := id C
  rw [hown] at hown'
  exact lv_ldc hx hb hown' (hts _ hw) hd (k C r ho ls H locs hl hP hS)
theorem s_ldcw {own : String} {index : Nat} {v : Int32} (hown : μ.1.cls = own) (hw : Cond.constant own index v ∈ tT) (hd : decode μ.2.1 pc = .ok (.ldc_w index, 3)) (k : Sim Q Γ Ξ E μ σ (pc + 3) lv (.int v :: st) o) : Sim Q Γ Ξ E μ σ pc lv st o := by
  intro C r ho ls H locs hl hP hS
  obtain ⟨hx, hb, hml, hr, hown', hts, hlocks, hK, ⟨hE, hA, hcc, hcs⟩, hKs⟩ := id C
  rw [hown] at hown'
  exact lv_ldcw hx hb hown' (hts _ hw) hd (k C r ho ls H locs hl hP hS)
theorem s_ldc2 {own : String} {index : Nat} {v : Int64} (hown : μ.1.cls = own) (hw : Cond.constantLong own index v ∈ tT) (hd : decode μ.2.1 pc = .ok (.ldc2_w index, 3)) (k : Sim Q Γ Ξ E μ σ (pc + 3) lv (.long v :: st) o) : Sim Q Γ Ξ E μ σ pc lv st o := by
  intro C r ho ls H locs hl hP hS
  obtain ⟨hx, hb, hml, hr, hown', hts, hlocks, hK, ⟨hE, hA, hcc, hcs⟩, hKs⟩ := id C
  rw [hown] at hown'
  exact lv_ldc2 hx hb hown' (hts _ hw) hd (k C r ho ls H locs hl hP hS)
/-- fields -/
def FL (own : String) (idx ci k : Nat) (fin : Bool) (ty : FieldType) : Prop := ∃ (C : String) (T : u_T) (N : Nat) (ty0 : Nat → FieldType), vwCl[ci]? = some (C, T, N) ∧ (∀ w ∈ u_ws C T N, w ∈ tT) ∧ (∀ j, j < N → parseFieldDescriptor (T j).2.2.1 = some (ty0 j)) ∧ (∀ a, a < N → ∀ b, b < N → a ≠ b → (T a).2.1 ≠ (T b).2.1) ∧ k < N ∧ Cond.fieldLink own idx (T k).1 (T k).2.1 (T k).2.2.1 ∈ tT ∧ (T k).2.2.2 = fin ∧ ty0 k = ty ∧ ci < 11
theorem s_get {own : String} {idx ci k t a : Nat} {fin : Bool} {ty : FieldType} (hF : FL own idx ci k fin ty) (hown : μ.1.cls = own) (hm : a ∈ E.2.2.2.1) (hkd : kd a = ci) (hft : ft a k = some t) (hd : decode μ.2.1 pc = .ok (.getfield idx, 3)) (kk : Sim Q Γ Ξ E μ σ (pc + 3) lv (fv E σ a t k :: st) o) : Sim Q Γ Ξ E μ σ pc lv (rV E a :: st) o := by
  intro Cc r ho ls H locs hl hP hS
  obtain ⟨hx, hb, hml, hr, hown', hts, hlocks, hK, ⟨hE, hA, hcc, hcs⟩, hKs⟩ := id Cc
  rw [hown] at hown'
  obtain ⟨C, T, N, ty0, h1, h2, h3, h4, h5, h6, h7, h8, h9⟩ := hF
  obtain ⟨q0, -, hq⟩ := ws_get σ hm
  rw [cont_o E σ hkd h9] at hq
  exact va_get (C := C) (T := T) (N := N) (ci := ci) hx hb hts h2 hown' hK hP q0 hq h1 k h5 (hts _ h6) (fun _ h => h) (flds_get E σ hft) hd (kk Cc r ho ls H locs hl hP hS)
theorem s_geti {own : String} {idx ci k a : Nat} {fin : Bool} {ty : FieldType} (hF : FL own idx ci k fin ty) (hown : μ.1.cls = own) (hm : a ∈ E.2.2.2.1) (hkd : kd a = ci) (hft : ft a k = some 0) (hd : decode μ.2.1 pc = .ok (.getfield idx, 3)) (kk : Sim Q Γ Ξ E μ σ (pc + 3) lv (.int (σ.1 a k) :: st) o) : Sim Q Γ Ξ E μ σ pc lv (rV E a :: st) o := s_get hF hown hm hkd hft hd kk
theorem s_getl {own : String} {idx ci k a : Nat} {fin : Bool} {ty : FieldType} (hF : FL own idx ci k fin ty) (hown : μ.1.cls = own) (hm : a ∈ E.2.2.2.1) (hkd : kd a = ci) (hft : ft a k = some 1) (hd : decode μ.2.1 pc = .ok (.getfield idx, 3)) (kk : Sim Q Γ Ξ E μ σ (pc + 3) lv (.long (σ.2 a k) :: st) o) : Sim Q Γ Ξ E μ σ pc lv (rV E a :: st) o := s_get hF hown hm hkd hft hd kk
theorem s_getr {own : String} {idx ci k a b : Nat} {fin : Bool} {ty : FieldType} (hF : FL own idx ci k fin ty) (hown : μ.1.cls = own) (hm : a ∈ E.2.2.2.1) (hkd : kd a = ci) (hft : ft a k = some 2) (hrr : E.2.2.2.2 a k = true) (hr : rf a k = b) (hd : decode μ.2.1 pc = .ok (.getfield idx, 3)) (kk : Sim Q Γ Ξ E μ σ (pc + 3) lv (rV E b :: st) o) : Sim Q Γ Ξ E μ σ pc lv (rV E a :: st) o := by
  subst hr
  exact s_get hF hown hm hkd hft hd (by simpa [fv, hrr] using kk)
/-- the one field that holds a Settings, by its number -/
theorem s_getS {own : String} {idx ci k a : Nat} {fin : Bool} {ty : FieldType} {K : Nat → Option ρ} (hF : FL own idx ci k fin ty) (hown : μ.1.cls = own) (hm : a ∈ E.2.2.2.1) (hkd : kd a = ci) (hft : ft a k = some 3) (hrr : E.2.2.2.2 a k = true) (hd : decode μ.2.1 pc = .ok (.getfield idx, 3)) (kk : ∀ j, j < 3 → Sim Q Γ Ξ E μ σ (pc + 3) lv (rV E (32 + 2 * j) :: st) (K j)) : Sim Q Γ Ξ E μ σ pc lv (rV E a :: st) (ckN (σ.1 a k).toNatClampNeg 3 (bd (σ.1 a k).toNatClampNeg K)) := by
  intro Cc r ho
  obtain ⟨h1, h2⟩ := ckN_in ho
  refine s_get hF hown hm hkd hft hd ?_ Cc r h2
  have := kk _ h1
  simpa [fv, hrr, bd, Nat.mod_eq_of_lt h1] using this
theorem s_put {own : String} {idx ci k t a : Nat} {ty : FieldType} {v : Value} {σ1 : St} (hF : FL own idx ci k false ty) (hown : μ.1.cls = own) (hm : a ∈ E.2.2.2.1) (hkd : kd a = ci) (hft : ft a k = some t) (hn : narrow ty v = v) (hfit : fits ty v = true) (hv : fv E σ1 a t k = v) (h1n : ∀ j, j ≠ k → σ1.1 a j = σ.1 a j ∧ σ1.2 a j = σ.2 a j) (h2n : ∀ b, b ≠ a → σ1.1 b = σ.1 b ∧ σ1.2 b = σ.2 b) (hd : decode μ.2.1 pc = .ok (.putfield idx, 3)) (kk : Sim Q Γ Ξ E μ σ1 (pc + 3) lv st o) : Sim Q Γ Ξ E μ σ pc lv (v :: rV E a :: st) o := by
  intro Cc r ho ls H locs hl hP hS
  obtain ⟨hx, hb, hml, hr, hown', hts, hlocks, hK, ⟨hE, hA, hcc, hcs⟩, hKs⟩ := id Cc
  rw [hown] at hown'
  obtain ⟨C, T, N, ty0, h1, h2, h3, h4, h5, h6, h7, h8, h9⟩ := hF
  obtain ⟨q0, hq0, hq⟩ := ws_get σ hm
  rw [cont_o E σ hkd h9] at hq
  refine va_put (C := C) (T := T) (N := N) (ci := ci) (ty := ty) hx hb hts h2 ty0 h3 h4 hown' hK hP (ws_D hE hA σ) hS q0 hq h1 k h5 (hts _ h6) (fun _ h => h) h7 (by rw [h3 k h5, h8]) hn hfit (flds_len E σ hft) hd (fun H1 locs1 hP1 _ hS1 => ?_)
  refine kk Cc r ho ls H1 locs1 hl ?_ hS1
  rw [← flds_set E hft hv h1n, ← cont_o E σ1 hkd h9, ws_set hE hq0 (fun b hb => cont_cg E (h2n b hb).1 (h2n b hb).2)] at hP1
  exact hP1
theorem s_puti {own : String} {idx ci k a : Nat} {x : Int32} {K : St → Option ρ} (hF : FL own idx ci k false .int) (hown : μ.1.cls = own) (hm : a ∈ E.2.2.2.1) (hkd : kd a = ci) (hft : ft a k = some 0) (hd : decode μ.2.1 pc = .ok (.putfield idx, 3)) (kk : ∀ σ1, Sim Q Γ Ξ E μ σ1 (pc + 3) lv st (K σ1)) : Sim Q Γ Ξ E μ σ pc lv (.int x :: rV E a :: st) (bd (setI σ a k x) K) :=
  s_put (σ1 := setI σ a k x) hF hown hm hkd hft rfl rfl (by show Value.int ((setI σ a k x).1 a k) = _; rw [setI_s]; simp [upd]) (fun j hj => ⟨by rw [setI_s]; simp [upd, hj], rfl⟩) (fun b hb => ⟨setI_n σ k x hb, rfl⟩) hd (kk _)
theorem s_putz {own : String} {idx ci k a : Nat} {x : Int32} {K : St → Option ρ} (hF : FL own idx ci k false .boolean) (hown : μ.1.cls = own) (hm : a ∈ E.2.2.2.1) (hkd : kd a = ci) (hft : ft a k = some 0) (hz : x = 0 ∨ x = 1) (hd : decode μ.2.1 pc = .ok (.putfield idx, 3)) (kk : ∀ σ1, Sim Q Γ Ξ E μ σ1 (pc + 3) lv st (K σ1)) : Sim Q Γ Ξ E μ σ pc lv (.int x :: rV E a :: st) (bd (setI σ a k x) K) :=
  s_put (σ1 := setI σ a k x) hF hown hm hkd hft (by rcases hz with rfl | rfl <;> rfl) (by rcases hz with rfl | rfl <;> rfl) (by show Value.int ((setI σ a k x).1 a k) = _; rw [setI_s]; simp [upd]) (fun j hj => ⟨by rw [setI_s]; simp [upd, hj], rfl⟩) (fun b hb => ⟨setI_n σ k x hb, rfl⟩) hd (kk _)
theorem s_putl {own : String} {idx ci k a : Nat} {x : Int64} {K : St → Option ρ} (hF : FL own idx ci k false .long) (hown : μ.1.cls = own) (hm : a ∈ E.2.2.2.1) (hkd : kd a = ci) (hft : ft a k = some 1) (hd : decode μ.2.1 pc = .ok (.putfield idx, 3)) (kk : ∀ σ1, Sim Q Γ Ξ E μ σ1 (pc + 3) lv st (K σ1)) : Sim Q Γ Ξ E μ σ pc lv (.long x :: rV E a :: st) (bd (setL σ a k x) K) :=
  s_put (σ1 := setL σ a k x) hF hown hm hkd hft rfl rfl (by show Value.long ((setL σ a k x).2 a k) = _; rw [setL_s]; simp [vp_updL]) (fun j hj => ⟨rfl, by rw [setL_s]; simp [vp_updL, hj]⟩) (fun b hb => ⟨rfl, setL_n σ k x hb⟩) hd (kk _)
theorem s_putS {own C : String} {idx ci k a j : Nat} {K : St → Option ρ} (hF : FL own idx ci k false (.object C)) (hown : μ.1.cls = own) (hm : a ∈ E.2.2.2.1) (hkd : kd a = ci) (hft : ft a k = some 3) (hrr : E.2.2.2.2 a k = true) (hj : j < 3) (hd : decode μ.2.1 pc = .ok (.putfield idx, 3)) (kk : ∀ σ1, Sim Q Γ Ξ E μ σ1 (pc + 3) lv st (K σ1)) : Sim Q Γ Ξ E μ σ pc lv (rV E (32 + 2 * j) :: rV E a :: st) (bd (setI σ a k (nI j)) K) :=
  s_put (σ1 := setI σ a k (nI j)) hF hown hm hkd hft rfl rfl (by simp only [fv, hrr]; rw [setI_s]; simp only [upd, if_true]; rw [nI_clamp (by omega), Nat.mod_eq_of_lt hj]; rfl) (fun j hj => ⟨by rw [setI_s]; simp [upd, hj], rfl⟩) (fun b hb => ⟨setI_n σ k _ hb, rfl⟩) hd (kk _)
/-- arrays -/
theorem s_iald {a n : Nat} {i : Int32} (hm : a ∈ E.2.2.2.1) (hkd : kd a = 11) (hn : ln a = n) (hd : decode μ.2.1 pc = .ok (.iaload, 1)) (kk : Sim Q Γ Ξ E μ σ (pc + 1) lv (.int (σ.1 a i.toNatClampNeg) :: st) o) : Sim Q Γ Ξ E μ σ pc lv (.int i :: rV E a :: st) (ck i n o) := by
  subst hn
  intro Cc r ho ls H locs hl hP hS
  obtain ⟨hi, ho2⟩ := ck_in ho
  obtain ⟨hx, hb, hml, hr, hown', hts, hlocks, hK, ⟨hE, hA, hcc, hcs⟩, hKs⟩ := id Cc
  obtain ⟨q0, hq0, hq⟩ := ws_get σ hm
  rw [cont_i E σ hkd] at hq
  exact va_iald hx hb hK hP q0 0 hq rfl hi hd (kk Cc r ho2 ls H locs hl hP hS)
theorem s_zald {a n : Nat} {i : Int32} (hm : a ∈ E.2.2.2.1) (hkd : kd a = 13) (hn : ln a = n) (hd : decode μ.2.1 pc = .ok (.baload, 1)) (kk : Sim Q Γ Ξ E μ σ (pc + 1) lv (.int (σ.1 a i.toNatClampNeg) :: st) o) : Sim Q Γ Ξ E μ σ pc lv (.int i :: rV E a :: st) (ck i n o) := by
  subst hn
  intro Cc r ho ls H locs hl hP hS
  obtain ⟨hi, ho2⟩ := ck_in ho
  obtain ⟨hx, hb, hml, hr, hown', hts, hlocks, hK, ⟨hE, hA, hcc, hcs⟩, hKs⟩ := id Cc
  obtain ⟨q0, hq0, hq⟩ := ws_get σ hm
  rw [cont_z E σ hkd] at hq
  exact va_zald hx hb hK hP q0 2 hq rfl hi hd (kk Cc r ho2 ls H locs hl hP hS)
theorem s_lald {a n : Nat} {i : Int32} (hm : a ∈ E.2.2.2.1) (hkd : kd a = 12) (hn : ln a = n) (hd : decode μ.2.1 pc = .ok (.laload, 1)) (kk : Sim Q Γ Ξ E μ σ (pc + 1) lv (.long (σ.2 a i.toNatClampNeg) :: st) o) : Sim Q Γ Ξ E μ σ pc lv (.int i :: rV E a :: st) (ck i n o) := by
  subst hn
  intro Cc r ho ls H locs hl hP hS
  obtain ⟨hi, ho2⟩ := ck_in ho
  obtain ⟨hx, hb, hml, hr, hown', hts, hlocks, hK, ⟨hE, hA, hcc, hcs⟩, hKs⟩ := id Cc
  obtain ⟨q0, hq0, hq⟩ := ws_get σ hm
  rw [cont_l E σ hkd] at hq
  exact va_lald hx hb hK hP q0 1 hq rfl hi hd (kk Cc r ho2 ls H locs hl hP hS)
theorem s_iast {a n : Nat} {i x : Int32} {K : St → Option ρ} (hm : a ∈ E.2.2.2.1) (hkd : kd a = 11) (hn : ln a = n) (hd : decode μ.2.1 pc = .ok (.iastore, 1)) (kk : ∀ σ1, Sim Q Γ Ξ E μ σ1 (pc + 1) lv st (K σ1)) : Sim Q Γ Ξ E μ σ pc lv (.int x :: .int i :: rV E a :: st) (ck i n (bd (setI σ a i.toNatClampNeg x) K)) := by
  subst hn
  intro Cc r ho ls H locs hl hP hS
  obtain ⟨hi, ho2⟩ := ck_in ho
  obtain ⟨hx, hb, hml, hr, hown', hts, hlocks, hK, ⟨hE, hA, hcc, hcs⟩, hKs⟩ := id Cc
  obtain ⟨q0, hq0, hq⟩ := ws_get σ hm
  rw [cont_i E σ hkd] at hq
  refine va_iast hx hb hK hP (ws_D hE hA σ) hS q0 0 hq rfl hi hd (fun H1 locs1 hP1 _ hS1 => ?_)
  refine kk _ Cc r ho2 ls H1 locs1 hl ?_ hS1
  rw [← setI_s, ← cont_i E (setI σ a i.toNatClampNeg x) hkd, ws_set hE hq0 (fun b hb => cont_cg E (setI_n σ _ _ hb) rfl)] at hP1
  exact hP1
theorem s_zast {a n : Nat} {i x : Int32} {K : St → Option ρ} (hm : a ∈ E.2.2.2.1) (hkd : kd a = 13) (hn : ln a = n) (hz : x = 0 ∨ x = 1) (hd : decode μ.2.1 pc = .ok (.bastore, 1)) (kk : ∀ σ1, Sim Q Γ Ξ E μ σ1 (pc + 1) lv st (K σ1)) : Sim Q Γ Ξ E μ σ pc lv (.int x :: .int i :: rV E a :: st) (ck i n (bd (setI σ a i.toNatClampNeg x) K)) := by
  subst hn
  intro Cc r ho ls H locs hl hP hS
  obtain ⟨hi, ho2⟩ := ck_in ho
  obtain ⟨hx, hb, hml, hr, hown', hts, hlocks, hK, ⟨hE, hA, hcc, hcs⟩, hKs⟩ := id Cc
  obtain ⟨q0, hq0, hq⟩ := ws_get σ hm
  rw [cont_z E σ hkd] at hq
  refine va_zast hx hb hK hP (ws_D hE hA σ) hS q0 2 hq rfl hi hd (fun H1 locs1 hP1 _ hS1 => ?_)
  refine kk _ Cc r ho2 ls H1 locs1 hl ?_ hS1
  rw [show vp_nar .boolean x = x by rcases hz with rfl | rfl <;> rfl, ← setI_s, ← cont_z E (setI σ a i.toNatClampNeg x) hkd, ws_set hE hq0 (fun b hb => cont_cg E (setI_n σ _ _ hb) rfl)] at hP1
  exact hP1
theorem s_last {a n : Nat} {i : Int32} {x : Int64} {K : St → Option ρ} (hm : a ∈ E.2.2.2.1) (hkd : kd a = 12) (hn : ln a = n) (hd : decode μ.2.1 pc = .ok (.lastore, 1)) (kk : ∀ σ1, Sim Q Γ Ξ E μ σ1 (pc + 1) lv st (K σ1)) : Sim Q Γ Ξ E μ σ pc lv (.long x :: .int i :: rV E a :: st) (ck i n (bd (setL σ a i.toNatClampNeg x) K)) := by
  subst hn
  intro Cc r ho ls H locs hl hP hS
  obtain ⟨hi, ho2⟩ := ck_in ho
  obtain ⟨hx, hb, hml, hr, hown', hts, hlocks, hK, ⟨hE, hA, hcc, hcs⟩, hKs⟩ := id Cc
  obtain ⟨q0, hq0, hq⟩ := ws_get σ hm
  rw [cont_l E σ hkd] at hq
  refine va_last hx hb hK hP (ws_D hE hA σ) hS q0 1 hq rfl hi hd (fun H1 locs1 hP1 _ hS1 => ?_)
  refine kk _ Cc r ho2 ls H1 locs1 hl ?_ hS1
  rw [← setL_s, ← cont_l E (setL σ a i.toNatClampNeg x) hkd, ws_set (σ := σ) (σ' := setL σ a i.toNatClampNeg x) hE hq0 (fun b hb => cont_cg E rfl (setL_n σ _ _ hb))] at hP1
  exact hP1
theorem s_aald {a n c : Nat} {i : Int32} {K : Nat → Option ρ} {C : String} (hm : a ∈ E.2.2.2.1) (hkd : kd a = c) (hc : 14 ≤ c) (t0 : Nat) (ht : (tys E)[t0]? = some (E.2.1 c, .object C)) (hn : ln a = n) (hrr : ∀ j, j < n → E.2.2.2.2 a j = true) (hd : decode μ.2.1 pc = .ok (.aaload, 1)) (kk : ∀ j, j < n → Sim Q Γ Ξ E μ σ (pc + 1) lv (rV E (rf a j) :: st) (K j)) : Sim Q Γ Ξ E μ σ pc lv (.int i :: rV E a :: st) (ck i n (bd i.toNatClampNeg K)) := by
  subst hn
  intro Cc r ho ls H locs hl hP hS
  obtain ⟨hi, ho2⟩ := ck_in ho
  obtain ⟨hx, hb, hml, hr, hown', hts, hlocks, hK, ⟨hE, hA, hcc, hcs⟩, hKs⟩ := id Cc
  obtain ⟨q0, hq0, hq⟩ := ws_get σ hm
  rw [cont_q E σ hkd hc] at hq
  have hj : i.toNatClampNeg < ln a := Nat.not_le.mp fun q => hi (Or.inr q)
  refine va_aldq hx hb hK hP q0 t0 hq ht hi hd ?_
  rw [hrr _ hj]
  exact kk _ hj Cc r ho2 ls H locs hl hP hS
theorem s_alen {a c : Nat} {n : Int32} (hm : a ∈ E.2.2.2.1) (hkd : kd a = c) (hc : 11 ≤ c) (hc2 : c ≤ 16) (hn : Int32.ofNat (ln a) = n) (hd : decode μ.2.1 pc = .ok (.arraylength, 1)) (kk : Sim Q Γ Ξ E μ σ (pc + 1) lv (.int n :: st) o) : Sim Q Γ Ξ E μ σ pc lv (rV E a :: st) o := by
  intro Cc r ho ls H locs hl hP hS
  obtain ⟨hx, hb, hml, hr, hown', hts, hlocks, hK, ⟨hE, hA, hcc, hcs⟩, hKs⟩ := id Cc
  obtain ⟨q0, hq0, hq⟩ := ws_get σ hm
  have hk := kk Cc r ho ls H locs hl hP hS
  rcases (show c = 11 ∨ c = 12 ∨ c = 13 ∨ c = 14 ∨ c = 15 ∨ c = 16 by omega) with e | e | e | e | e | e <;> subst e
  · rw [cont_i E σ hkd] at hq; exact va_alen hx hb hK hP q0 0 hq rfl hn hd hk
  · rw [cont_l E σ hkd] at hq; exact va_alen hx hb hK hP q0 1 hq rfl hn hd hk
  · rw [cont_z E σ hkd] at hq; exact va_alen hx hb hK hP q0 2 hq rfl hn hd hk
  · rw [cont_q E σ hkd (by omega)] at hq; exact va_alen hx hb hK hP q0 3 hq rfl hn hd hk
  · rw [cont_q E σ hkd (by omega)] at hq; exact va_alen hx hb hK hP q0 4 hq rfl hn hd hk
  · rw [cont_q E σ hkd (by omega)] at hq; exact va_alen hx hb hK hP q0 5 hq rfl hn hd hk
/-- ends -/
theorem s_ireturn {en : ρ → Option Value} {fs : ρ → St} {x : Int32} {y : ρ} (hr : μ.2.2.2.1 = some .int) (he : en y = some (.int x)) (hf : fs y = σ) (hd : decode μ.2.1 pc = .ok (.ireturn, 1)) : Sim (qM en fs Γ E) Γ (x0 E) E μ σ pc lv [.int x] (some y) := by
  intro Cc r ho ls H locs hl hP hS
  cases ho
  obtain ⟨hx, hb, hml, hr', hown', hts, hlocks, hK, ⟨hE, hA, hcc, hcs⟩, hKs⟩ := id Cc
  exact W.iret hx hb (hr'.trans hr) (fun t ht hW => ⟨⟨by rw [he], by rw [ht, hf]; exact hP⟩, hS.F ht⟩) hS.2.2 hd hlocks
theorem s_zreturn {en : ρ → Option Value} {fs : ρ → St} {x : Int32} {y : ρ} (hr : μ.2.2.2.1 = some .boolean) (hz : x = 0 ∨ x = 1) (he : en y = some (.int x)) (hf : fs y = σ) (hd : decode μ.2.1 pc = .ok (.ireturn, 1)) : Sim (qM en fs Γ E) Γ (x0 E) E μ σ pc lv [.int x] (some y) := by
  intro Cc r ho ls H locs hl hP hS
  cases ho
  obtain ⟨hx, hb, hml, hr', hown', hts, hlocks, hK, ⟨hE, hA, hcc, hcs⟩, hKs⟩ := id Cc
  exact W.zret hx hb (hr'.trans hr) (by rcases hz with rfl | rfl <;> rfl) (fun t ht hW => ⟨⟨by rw [he], by rw [ht, hf]; exact hP⟩, hS.F ht⟩) hS.2.2 hd hlocks
theorem s_lreturn {en : ρ → Option Value} {fs : ρ → St} {x : Int64} {y : ρ} (hr : μ.2.2.2.1 = some .long) (he : en y = some (.long x)) (hf : fs y = σ) (hd : decode μ.2.1 pc = .ok (.lreturn, 1)) : Sim (qM en fs Γ E) Γ (x0 E) E μ σ pc lv [.long x] (some y) := by
  intro Cc r ho ls H locs hl hP hS
  cases ho
  obtain ⟨hx, hb, hml, hr', hown', hts, hlocks, hK, ⟨hE, hA, hcc, hcs⟩, hKs⟩ := id Cc
  exact W.lret hx hb (hr'.trans hr) (fun t ht hW => ⟨⟨by rw [he], by rw [ht, hf]; exact hP⟩, hS.F ht⟩) hS.2.2 hd hlocks
theorem s_return {en : ρ → Option Value} {fs : ρ → St} {y : ρ} (hr : μ.2.2.2.1 = none) (he : en y = none) (hf : fs y = σ) (hd : decode μ.2.1 pc = .ok (.return_, 1)) : Sim (qM en fs Γ E) Γ (x0 E) E μ σ pc lv [] (some y) := by
  intro Cc r ho ls H locs hl hP hS
  cases ho
  obtain ⟨hx, hb, hml, hr', hown', hts, hlocks, hK, ⟨hE, hA, hcc, hcs⟩, hKs⟩ := id Cc
  exact W.vret hx hb (hr'.trans hr) (fun t ht hW => ⟨⟨by rw [he], by rw [ht, hf]; exact hP⟩, hS.F ht⟩) hS.2.2 hd hlocks
theorem s_areturn {en : ρ → Option Value} {fs : ρ → St} {a : Nat} {C : String} {y : ρ} (hr : μ.2.2.2.1 = some (.object C)) (he : en y = some (rV E a)) (hf : fs y = σ) (hd : decode μ.2.1 pc = .ok (.areturn, 1)) : Sim (qM en fs Γ E) Γ (x0 E) E μ σ pc lv [rV E a] (some y) := by
  intro Cc r ho ls H locs hl hP hS
  cases ho
  obtain ⟨hx, hb, hml, hr', hown', hts, hlocks, hK, ⟨hE, hA, hcc, hcs⟩, hKs⟩ := id Cc
  exact W.aret hx hb (hr'.trans hr) (Or.inl ⟨_, rfl⟩) (Or.inr ⟨_, rfl⟩) (fun t ht hW => ⟨⟨by rw [he], by rw [ht, hf]; exact hP⟩, hS.F ht⟩) hS.2.2 hd hlocks
/-- fewer locals, in another order -/
theorem s_sub {lv' : List (Nat × Value)} (ks : List Nat) (h : lv_pick lv ks = lv') (k : Sim Q Γ Ξ E μ σ pc lv' st o) : Sim Q Γ Ξ E μ σ pc lv st o :=
  fun C r ho ls H locs hl hP hS => k C r ho ls H locs (lv_sub hl ks h) hP hS
theorem s_eq {o' : Option ρ} (h : o = o') (k : Sim Q Γ Ξ E μ σ pc lv st o') : Sim Q Γ Ξ E μ σ pc lv st o := h ▸ k
theorem s_ckN {i n : Nat} (k : i < n → Sim Q Γ Ξ E μ σ pc lv st o) : Sim Q Γ Ξ E μ σ pc lv st (ckN i n o) := fun C r ho => k (ckN_in ho).1 C r (ckN_in ho).2
theorem s_ckZ {x : Int32} (k : (x = 0 ∨ x = 1) → Sim Q Γ Ξ E μ σ pc lv st o) : Sim Q Γ Ξ E μ σ pc lv st (ckZ x o) := fun C r ho => k (ckZ_in ho).1 C r (ckZ_in ho).2
/-- one value from several roads: e is told as the roads tell it -/
theorem s_bd {A : Type} {e : A} {K : A → Option ρ} (pj : Nat) (lvf : A → List (Nat × Value)) (stf : A → List Value) (B : (A → Option ρ) → Option ρ) (hB : ∀ k, k e = B k) (hK : ∀ a, Sim Q Γ Ξ E μ σ pj (lvf a) (stf a) (K a)) (h : ∀ k, (∀ a, Sim Q Γ Ξ E μ σ pj (lvf a) (stf a) (k a)) → Sim Q Γ Ξ E μ σ pc lv st (B k)) : Sim Q Γ Ξ E μ σ pc lv st (bd e K) :=
  s_eq (hB K) (h K hK)
theorem s_jn0 {B : Option ρ → Option ρ} {K : Option ρ} (σj : St) (pj : Nat) (lvj : List (Nat × Value)) (stj : List Value) (hK : Sim Q Γ Ξ E μ σj pj lvj stj K) (h : ∀ k, Sim Q Γ Ξ E μ σj pj lvj stj k → Sim Q Γ Ξ E μ σ pc lv st (B k)) : Sim Q Γ Ξ E μ σ pc lv st (jn0 B K) := h K hK
theorem s_jn1 {A0 : Type} {B : (A0 → Option ρ) → Option ρ} {K : A0 → Option ρ} (pj : Nat) (σf : A0 → St) (lvf : A0 → List (Nat × Value)) (stf : A0 → List Value) (hK : ∀ a0, Sim Q Γ Ξ E μ (σf a0) pj (lvf a0) (stf a0) (K a0)) (h : ∀ k, (∀ a0, Sim Q Γ Ξ E μ (σf a0) pj (lvf a0) (stf a0) (k a0)) → Sim Q Γ Ξ E μ σ pc lv st (B k)) : Sim Q Γ Ξ E μ σ pc lv st (jn1 B K) := h K hK
theorem s_jn2 {A0 A1 : Type} {B : (A0 → A1 → Option ρ) → Option ρ} {K : A0 → A1 → Option ρ} (pj : Nat) (σf : A0 → A1 → St) (lvf : A0 → A1 → List (Nat × Value)) (stf : A0 → A1 → List Value) (hK : ∀ a0 a1, Sim Q Γ Ξ E μ (σf a0 a1) pj (lvf a0 a1) (stf a0 a1) (K a0 a1)) (h : ∀ k, (∀ a0 a1, Sim Q Γ Ξ E μ (σf a0 a1) pj (lvf a0 a1) (stf a0 a1) (k a0 a1)) → Sim Q Γ Ξ E μ σ pc lv st (B k)) : Sim Q Γ Ξ E μ σ pc lv st (jn2 B K) := h K hK
theorem s_jn3 {A0 A1 A2 : Type} {B : (A0 → A1 → A2 → Option ρ) → Option ρ} {K : A0 → A1 → A2 → Option ρ} (pj : Nat) (σf : A0 → A1 → A2 → St) (lvf : A0 → A1 → A2 → List (Nat × Value)) (stf : A0 → A1 → A2 → List Value) (hK : ∀ a0 a1 a2, Sim Q Γ Ξ E μ (σf a0 a1 a2) pj (lvf a0 a1 a2) (stf a0 a1 a2) (K a0 a1 a2)) (h : ∀ k, (∀ a0 a1 a2, Sim Q Γ Ξ E μ (σf a0 a1 a2) pj (lvf a0 a1 a2) (stf a0 a1 a2) (k a0 a1 a2)) → Sim Q Γ Ξ E μ σ pc lv st (B k)) : Sim Q Γ Ξ E μ σ pc lv st (jn3 B K) := h K hK
theorem s_jn4 {A0 A1 A2 A3 : Type} {B : (A0 → A1 → A2 → A3 → Option ρ) → Option ρ} {K : A0 → A1 → A2 → A3 → Option ρ} (pj : Nat) (σf : A0 → A1 → A2 → A3 → St) (lvf : A0 → A1 → A2 → A3 → List (Nat × Value)) (stf : A0 → A1 → A2 → A3 → List Value) (hK : ∀ a0 a1 a2 a3, Sim Q Γ Ξ E μ (σf a0 a1 a2 a3) pj (lvf a0 a1 a2 a3) (stf a0 a1 a2 a3) (K a0 a1 a2 a3)) (h : ∀ k, (∀ a0 a1 a2 a3, Sim Q Γ Ξ E μ (σf a0 a1 a2 a3) pj (lvf a0 a1 a2 a3) (stf a0 a1 a2 a3) (k a0 a1 a2 a3)) → Sim Q Γ Ξ E μ σ pc lv st (B k)) : Sim Q Γ Ξ E μ σ pc lv st (jn4 B K) := h K hK
theorem s_jn5 {A0 A1 A2 A3 A4 : Type} {B : (A0 → A1 → A2 → A3 → A4 → Option ρ) → Option ρ} {K : A0 → A1 → A2 → A3 → A4 → Option ρ} (pj : Nat) (σf : A0 → A1 → A2 → A3 → A4 → St) (lvf : A0 → A1 → A2 → A3 → A4 → List (Nat × Value)) (stf : A0 → A1 → A2 → A3 → A4 → List Value) (hK : ∀ a0 a1 a2 a3 a4, Sim Q Γ Ξ E μ (σf a0 a1 a2 a3 a4) pj (lvf a0 a1 a2 a3 a4) (stf a0 a1 a2 a3 a4) (K a0 a1 a2 a3 a4)) (h : ∀ k, (∀ a0 a1 a2 a3 a4, Sim Q Γ Ξ E μ (σf a0 a1 a2 a3 a4) pj (lvf a0 a1 a2 a3 a4) (stf a0 a1 a2 a3 a4) (k a0 a1 a2 a3 a4)) → Sim Q Γ Ξ E μ σ pc lv st (B k)) : Sim Q Γ Ξ E μ σ pc lv st (jn5 B K) := h K hK
theorem s_lo1 {A0 : Type} {F : (A0 → Option ρ) → A0 → Option ρ} {N : Nat} {b0 : A0} (σf : A0 → St) (lvf : A0 → List (Nat × Value)) (h : ∀ rec, (∀ a0, Sim Q Γ Ξ E μ (σf a0) pc (lvf a0) [] (rec a0)) → ∀ a0, Sim Q Γ Ξ E μ (σf a0) pc (lvf a0) [] (F rec a0)) : Sim Q Γ Ξ E μ (σf b0) pc (lvf b0) [] (lo1 N F b0) := by
  have key : ∀ N a0, Sim Q Γ Ξ E μ (σf a0) pc (lvf a0) [] (lo1 N F a0) := by
    intro N
    induction N with
    | zero => intro a0 C r ho; cases ho
    | succ N ih => intro a0; exact h (lo1 N F) ih a0
  exact key N b0
theorem s_lo2 {A0 A1 : Type} {F : (A0 → A1 → Option ρ) → A0 → A1 → Option ρ} {N : Nat} {b0 : A0} {b1 : A1} (σf : A0 → A1 → St) (lvf : A0 → A1 → List (Nat × Value)) (h : ∀ rec, (∀ a0 a1, Sim Q Γ Ξ E μ (σf a0 a1) pc (lvf a0 a1) [] (rec a0 a1)) → ∀ a0 a1, Sim Q Γ Ξ E μ (σf a0 a1) pc (lvf a0 a1) [] (F rec a0 a1)) : Sim Q Γ Ξ E μ (σf b0 b1) pc (lvf b0 b1) [] (lo2 N F b0 b1) := by
  have key : ∀ N a0 a1, Sim Q Γ Ξ E μ (σf a0 a1) pc (lvf a0 a1) [] (lo2 N F a0 a1) := by
    intro N
    induction N with
    | zero => intro a0 a1 C r ho; cases ho
    | succ N ih => intro a0 a1; exact h (lo2 N F) ih a0 a1
  exact key N b0 b1
theorem s_lo3 {A0 A1 A2 : Type} {F : (A0 → A1 → A2 → Option ρ) → A0 → A1 → A2 → Option ρ} {N : Nat} {b0 : A0} {b1 : A1} {b2 : A2} (σf : A0 → A1 → A2 → St) (lvf : A0 → A1 → A2 → List (Nat × Value)) (h : ∀ rec, (∀ a0 a1 a2, Sim Q Γ Ξ E μ (σf a0 a1 a2) pc (lvf a0 a1 a2) [] (rec a0 a1 a2)) → ∀ a0 a1 a2, Sim Q Γ Ξ E μ (σf a0 a1 a2) pc (lvf a0 a1 a2) [] (F rec a0 a1 a2)) : Sim Q Γ Ξ E μ (σf b0 b1 b2) pc (lvf b0 b1 b2) [] (lo3 N F b0 b1 b2) := by
  have key : ∀ N a0 a1 a2, Sim Q Γ Ξ E μ (σf a0 a1 a2) pc (lvf a0 a1 a2) [] (lo3 N F a0 a1 a2) := by
    intro N
    induction N with
    | zero => intro a0 a1 a2 C r ho; cases ho
    | succ N ih => intro a0 a1 a2; exact h (lo3 N F) ih a0 a1 a2
  exact key N b0 b1 b2
theorem s_lo4 {A0 A1 A2 A3 : Type} {F : (A0 → A1 → A2 → A3 → Option ρ) → A0 → A1 → A2 → A3 → Option ρ} {N : Nat} {b0 : A0} {b1 : A1} {b2 : A2} {b3 : A3} (σf : A0 → A1 → A2 → A3 → St) (lvf : A0 → A1 → A2 → A3 → List (Nat × Value)) (h : ∀ rec, (∀ a0 a1 a2 a3, Sim Q Γ Ξ E μ (σf a0 a1 a2 a3) pc (lvf a0 a1 a2 a3) [] (rec a0 a1 a2 a3)) → ∀ a0 a1 a2 a3, Sim Q Γ Ξ E μ (σf a0 a1 a2 a3) pc (lvf a0 a1 a2 a3) [] (F rec a0 a1 a2 a3)) : Sim Q Γ Ξ E μ (σf b0 b1 b2 b3) pc (lvf b0 b1 b2 b3) [] (lo4 N F b0 b1 b2 b3) := by
  have key : ∀ N a0 a1 a2 a3, Sim Q Γ Ξ E μ (σf a0 a1 a2 a3) pc (lvf a0 a1 a2 a3) [] (lo4 N F a0 a1 a2 a3) := by
    intro N
    induction N with
    | zero => intro a0 a1 a2 a3 C r ho; cases ho
    | succ N ih => intro a0 a1 a2 a3; exact h (lo4 N F) ih a0 a1 a2 a3
  exact key N b0 b1 b2 b3
theorem s_lo5 {A0 A1 A2 A3 A4 : Type} {F : (A0 → A1 → A2 → A3 → A4 → Option ρ) → A0 → A1 → A2 → A3 → A4 → Option ρ} {N : Nat} {b0 : A0} {b1 : A1} {b2 : A2} {b3 : A3} {b4 : A4} (σf : A0 → A1 → A2 → A3 → A4 → St) (lvf : A0 → A1 → A2 → A3 → A4 → List (Nat × Value)) (h : ∀ rec, (∀ a0 a1 a2 a3 a4, Sim Q Γ Ξ E μ (σf a0 a1 a2 a3 a4) pc (lvf a0 a1 a2 a3 a4) [] (rec a0 a1 a2 a3 a4)) → ∀ a0 a1 a2 a3 a4, Sim Q Γ Ξ E μ (σf a0 a1 a2 a3 a4) pc (lvf a0 a1 a2 a3 a4) [] (F rec a0 a1 a2 a3 a4)) : Sim Q Γ Ξ E μ (σf b0 b1 b2 b3 b4) pc (lvf b0 b1 b2 b3 b4) [] (lo5 N F b0 b1 b2 b3 b4) := by
  have key : ∀ N a0 a1 a2 a3 a4, Sim Q Γ Ξ E μ (σf a0 a1 a2 a3 a4) pc (lvf a0 a1 a2 a3 a4) [] (lo5 N F a0 a1 a2 a3 a4) := by
    intro N
    induction N with
    | zero => intro a0 a1 a2 a3 a4 C r ho; cases ho
    | succ N ih => intro a0 a1 a2 a3 a4; exact h (lo5 N F) ih a0 a1 a2 a3 a4
  exact key N b0 b1 b2 b3 b4
theorem s_lo6 {A0 A1 A2 A3 A4 A5 : Type} {F : (A0 → A1 → A2 → A3 → A4 → A5 → Option ρ) → A0 → A1 → A2 → A3 → A4 → A5 → Option ρ} {N : Nat} {b0 : A0} {b1 : A1} {b2 : A2} {b3 : A3} {b4 : A4} {b5 : A5} (σf : A0 → A1 → A2 → A3 → A4 → A5 → St) (lvf : A0 → A1 → A2 → A3 → A4 → A5 → List (Nat × Value)) (h : ∀ rec, (∀ a0 a1 a2 a3 a4 a5, Sim Q Γ Ξ E μ (σf a0 a1 a2 a3 a4 a5) pc (lvf a0 a1 a2 a3 a4 a5) [] (rec a0 a1 a2 a3 a4 a5)) → ∀ a0 a1 a2 a3 a4 a5, Sim Q Γ Ξ E μ (σf a0 a1 a2 a3 a4 a5) pc (lvf a0 a1 a2 a3 a4 a5) [] (F rec a0 a1 a2 a3 a4 a5)) : Sim Q Γ Ξ E μ (σf b0 b1 b2 b3 b4 b5) pc (lvf b0 b1 b2 b3 b4 b5) [] (lo6 N F b0 b1 b2 b3 b4 b5) := by
  have key : ∀ N a0 a1 a2 a3 a4 a5, Sim Q Γ Ξ E μ (σf a0 a1 a2 a3 a4 a5) pc (lvf a0 a1 a2 a3 a4 a5) [] (lo6 N F a0 a1 a2 a3 a4 a5) := by
    intro N
    induction N with
    | zero => intro a0 a1 a2 a3 a4 a5 C r ho; cases ho
    | succ N ih => intro a0 a1 a2 a3 a4 a5; exact h (lo6 N F) ih a0 a1 a2 a3 a4 a5
  exact key N b0 b1 b2 b3 b4 b5
theorem s_lo7 {A0 A1 A2 A3 A4 A5 A6 : Type} {F : (A0 → A1 → A2 → A3 → A4 → A5 → A6 → Option ρ) → A0 → A1 → A2 → A3 → A4 → A5 → A6 → Option ρ} {N : Nat} {b0 : A0} {b1 : A1} {b2 : A2} {b3 : A3} {b4 : A4} {b5 : A5} {b6 : A6} (σf : A0 → A1 → A2 → A3 → A4 → A5 → A6 → St) (lvf : A0 → A1 → A2 → A3 → A4 → A5 → A6 → List (Nat × Value)) (h : ∀ rec, (∀ a0 a1 a2 a3 a4 a5 a6, Sim Q Γ Ξ E μ (σf a0 a1 a2 a3 a4 a5 a6) pc (lvf a0 a1 a2 a3 a4 a5 a6) [] (rec a0 a1 a2 a3 a4 a5 a6)) → ∀ a0 a1 a2 a3 a4 a5 a6, Sim Q Γ Ξ E μ (σf a0 a1 a2 a3 a4 a5 a6) pc (lvf a0 a1 a2 a3 a4 a5 a6) [] (F rec a0 a1 a2 a3 a4 a5 a6)) : Sim Q Γ Ξ E μ (σf b0 b1 b2 b3 b4 b5 b6) pc (lvf b0 b1 b2 b3 b4 b5 b6) [] (lo7 N F b0 b1 b2 b3 b4 b5 b6) := by
  have key : ∀ N a0 a1 a2 a3 a4 a5 a6, Sim Q Γ Ξ E μ (σf a0 a1 a2 a3 a4 a5 a6) pc (lvf a0 a1 a2 a3 a4 a5 a6) [] (lo7 N F a0 a1 a2 a3 a4 a5 a6) := by
    intro N
    induction N with
    | zero => intro a0 a1 a2 a3 a4 a5 a6 C r ho; cases ho
    | succ N ih => intro a0 a1 a2 a3 a4 a5 a6; exact h (lo7 N F) ih a0 a1 a2 a3 a4 a5 a6
  exact key N b0 b1 b2 b3 b4 b5 b6
theorem s_lo8 {A0 A1 A2 A3 A4 A5 A6 A7 : Type} {F : (A0 → A1 → A2 → A3 → A4 → A5 → A6 → A7 → Option ρ) → A0 → A1 → A2 → A3 → A4 → A5 → A6 → A7 → Option ρ} {N : Nat} {b0 : A0} {b1 : A1} {b2 : A2} {b3 : A3} {b4 : A4} {b5 : A5} {b6 : A6} {b7 : A7} (σf : A0 → A1 → A2 → A3 → A4 → A5 → A6 → A7 → St) (lvf : A0 → A1 → A2 → A3 → A4 → A5 → A6 → A7 → List (Nat × Value)) (h : ∀ rec, (∀ a0 a1 a2 a3 a4 a5 a6 a7, Sim Q Γ Ξ E μ (σf a0 a1 a2 a3 a4 a5 a6 a7) pc (lvf a0 a1 a2 a3 a4 a5 a6 a7) [] (rec a0 a1 a2 a3 a4 a5 a6 a7)) → ∀ a0 a1 a2 a3 a4 a5 a6 a7, Sim Q Γ Ξ E μ (σf a0 a1 a2 a3 a4 a5 a6 a7) pc (lvf a0 a1 a2 a3 a4 a5 a6 a7) [] (F rec a0 a1 a2 a3 a4 a5 a6 a7)) : Sim Q Γ Ξ E μ (σf b0 b1 b2 b3 b4 b5 b6 b7) pc (lvf b0 b1 b2 b3 b4 b5 b6 b7) [] (lo8 N F b0 b1 b2 b3 b4 b5 b6 b7) := by
  have key : ∀ N a0 a1 a2 a3 a4 a5 a6 a7, Sim Q Γ Ξ E μ (σf a0 a1 a2 a3 a4 a5 a6 a7) pc (lvf a0 a1 a2 a3 a4 a5 a6 a7) [] (lo8 N F a0 a1 a2 a3 a4 a5 a6 a7) := by
    intro N
    induction N with
    | zero => intro a0 a1 a2 a3 a4 a5 a6 a7 C r ho; cases ho
    | succ N ih => intro a0 a1 a2 a3 a4 a5 a6 a7; exact h (lo8 N F) ih a0 a1 a2 a3 a4 a5 a6 a7
  exact key N b0 b1 b2 b3 b4 b5 b6 b7
end ROWS
/-- calls -/
theorem PcE_blind (E : Ev) (As : List Value) (σ : St) : FrameBlind (PcE E As σ) := fun a U g mk q => by
  obtain ⟨q0, qP, qK, qs⟩ := q
  exact ⟨q0, qP, va_K.moved (u := U) (U := U.calling g mk a) (Vm.Alike.refl U.vm) qK, Kt.same (u := U) (U := U.calling g mk a) rfl qs⟩
section CALLS
variable {p : Program} {l : Launch} {e : Env} {R : Room} {s : State} {m : MethodId} {args : Array Value} {below : List Frame} {meth : Method} {c : Code} {H : Heap} {locs : List Loc} {cells slots : Nat} {Q : State → Prop}
variable {pc : Nat} {ls : Array Slot} {rest st0 : List Value} {a : Array Value} {A0 : Nat → Prop} {H0 : Heap} {E : Ev} {rv : Option Value} {σ' : St}
theorem sv_call (hr : va_Run p l e R s m args below meth c H locs cells slots 0 0 (F0 m pc ls st0) rest (Qm E rv σ' a) (AL E)) (hS : va_S A0 H0 H locs) (hA : ∀ q, AL E q → A0 q)
    (kk : ∀ (H1 : Heap) (locs1 : List Loc), va_P E.1 vwCl (WS E σ') H1 → H.size ≤ H1.size → (∀ q : Nat, q < H.size → ¬ AL E q → H1[q]? = H[q]?) → va_S A0 H0 H1 locs1 → W p l e R s m args below meth c H1 locs1 cells slots Q (F0 m (pc + 3) ls (rv.toList ++ rest))) : W p l e R s m args below meth c H locs cells slots Q (F0 m pc ls st0) := by
  intro T hT X
  obtain ⟨v, st₀, t, T', L, h0, X', hL, e1, e2, ⟨⟨hv, hb⟩, hz, hk⟩, st⟩ := hr T hT X
  cases hv
  rw [h0] at hz hk
  obtain ⟨t2, a1, b1⟩ := kk T'.heap (locs ++ L) (by rw [e1]; exact hb) (by rw [e1]; exact hz) (fun q h1 h2 => by rw [e1]; exact hk q h1 h2)
    ⟨Nat.le_trans hS.1 (by rw [e1]; exact hz), fun q h1 h2 => by rw [e1, hk q (Nat.lt_of_lt_of_le h1 hS.1) (fun z => h2 (hA q z))]; exact hS.2.1 q h1 h2, fun q hq => by
      rcases List.mem_append.mp hq with h | h
      · exact hS.2.2 q h
      · exact hA _ (hL q h)⟩ T' rfl X'
  exact ⟨t2, st t2 a1, b1⟩
end CALLS
/-- what a call needs to know of the method called -/
def MF (μ : Md) (np : Nat) : Prop := μ.1.cls ≠ "java/lang/invoke/MethodHandle" ∧ μ.1.cls ≠ "java/lang/invoke/VarHandle" ∧ (parseMethodDescriptor μ.1.desc).map (fun d => d.parameters.length) = some np ∧ Cond.code μ.1 μ.2.1 μ.2.2.1 μ.2.2.2.1 ∈ tT ∧ Cond.initialized μ.1.cls ∈ tT ∧ μ.2.2.2.2.cells = 0 ∧ μ.2.2.2.2.slots = 0
def VF (μ : Md) : Prop := Cond.instanceMethod μ.1 ∈ tT ∧ Cond.selects μ.1.cls μ.1 μ.1 ∈ tT
/-- room: the callee's beside the caller's -/
def rOk (R r : Room) (n : Nat) : Bool := (r.frames + 1).ble R.frames && (8 + (n + 11) + r.locals).ble R.locals
theorem rOk_1 {R r : Room} {n : Nat} (h : rOk R r n = true) : r.frames + 1 ≤ R.frames ∧ 8 + (n + 11) + r.locals ≤ R.locals := by
  unfold rOk at h
  rw [Bool.and_eq_true] at h
  exact ⟨Nat.le_of_ble_eq_true h.1, Nat.le_of_ble_eq_true h.2⟩
section CALLR
variable {ρ β : Type} {Q : ρ → State → Prop} {en' : β → Option Value} {fs' : β → St} {Γ : Gm} {Ξ : Gx} {E : Ev} {μ μ' : Md} {σ : St} {pc np idx b ci : Nat} {lv : List (Nat × Value)} {st As rest : List Value} {f : Option β} {K : β → Option ρ} {q : vw_C}
theorem ctr_words (hM : MF μ' np) : GoodIn tT (.code μ'.1 μ'.2.1 μ'.2.2.1 μ'.2.2.2.1 :: tT) := tG (fun w hw => by
  rcases List.mem_cons.mp hw with rfl | h
  · exact hM.2.2.2.1
  · exact h)
theorem s_callV0 (hM : MF μ' np) (hV : VF μ') (hL : Cond.methodLink μ.1.cls idx μ'.1 ∈ tT) (hC : Ctr Γ.2.1 en' fs' E μ' (rV E b :: As) σ f) (hm : b ∈ E.2.2.2.1) (hkd : kd b = ci) (hci : ci < 11) (hc : vwCl[ci]? = some q) (hq : q.1 = μ'.1.cls) (hn : As.length = np) (hst : st = As.reverse ++ rV E b :: rest) (hW : (rest.map fun v => v.category).sum ≤ 8) (hR : rOk μ.2.2.2.2 μ'.2.2.2.2 μ'.2.2.1 = true) (hd : decode μ.2.1 pc = .ok (.invokevirtual idx, 3))
    (kk : ∀ r, Sim Q Γ Ξ E μ (fs' r) (pc + 3) lv ((en' r).toList ++ rest) (K r)) : Sim Q Γ Ξ E μ σ pc lv st (calP f K) := by
  intro Cc r ho ls H locs hl hP hS
  obtain ⟨r1, hf, ho2⟩ := calP_in ho
  obtain ⟨hx, hb, hml, hr', hown', hts, hlocks, hK, ⟨hE, hA, hcc, hcs⟩, hKs⟩ := id Cc
  obtain ⟨q0, hq0, hqq⟩ := ws_get σ hm
  rw [cont_o E σ hkd hci] at hqq
  have hcw : CallW μ.2.2.2.2 Γ.2.2.2.1 Γ.2.2.2.2.2.1 μ.1.cls μ'.1.cls idx μ'.1 μ'.2.1 μ'.2.2.1 μ'.2.2.2.1 (.code μ'.1 μ'.2.1 μ'.2.2.1 μ'.2.2.2.1 :: tT) μ'.2.2.2.2 0 0 np :=
    ⟨callB_of np hts (ctr_words hM) rfl hM.2.2.2.2.2.1 hM.2.2.2.2.2.2 (hts _ hM.2.2.2.2.1) (hts _ hL) ⟨hM.1, hM.2.1, hM.2.2.1⟩ (rOk_1 hR), hts _ hV.1, hts _ hV.2⟩
  have hrec := va_recv hK hP hc hqq
  rw [hq] at hrec
  exact sv_call (va_runV (As := As) (rest := rest) (b := E.2.2.1 b) ⟨hx, hb, hml, hown', hts⟩ (hC hE r1 hf) hcw ⟨PcE_blind E _ σ, hrec, fun U hU hW => ⟨rfl, by rw [hU]; exact hP, va_K.moved hW.alike hK, by rw [hU]; exact ((Kt.kept hS.2.1 hKs).warm hW).narrow hA⟩⟩ rfl hn hl.1 hst (lv_room hW) hd ⟨hcc, hcs⟩) hS hA (fun H1 locs1 hP1 _ _ hS1 => kk r1 Cc r ho2 ls H1 locs1 hl hP1 hS1)
theorem s_callS0 (hM : MF μ' np) (hV : Cond.static μ'.1 ∈ tT) (hL : Cond.methodLink μ.1.cls idx μ'.1 ∈ tT) (hC : Ctr Γ.2.1 en' fs' E μ' As σ f) (hn : As.length = np) (hst : st = As.reverse ++ rest) (hW : (rest.map fun v => v.category).sum ≤ 8) (hR : rOk μ.2.2.2.2 μ'.2.2.2.2 μ'.2.2.1 = true) (hd : decode μ.2.1 pc = .ok (.invokestatic idx, 3))
    (kk : ∀ r, Sim Q Γ Ξ E μ (fs' r) (pc + 3) lv ((en' r).toList ++ rest) (K r)) : Sim Q Γ Ξ E μ σ pc lv st (calP f K) := by
  intro Cc r ho ls H locs hl hP hS
  obtain ⟨r1, hf, ho2⟩ := calP_in ho
  obtain ⟨hx, hb, hml, hr', hown', hts, hlocks, hK, ⟨hE, hA, hcc, hcs⟩, hKs⟩ := id Cc
  have hcw : CallB μ.2.2.2.2 Γ.2.2.2.1 Γ.2.2.2.2.2.1 μ.1.cls idx μ'.1 μ'.2.1 μ'.2.2.1 μ'.2.2.2.1 (.code μ'.1 μ'.2.1 μ'.2.2.1 μ'.2.2.2.1 :: tT) μ'.2.2.2.2 0 0 np :=
    callB_of np hts (ctr_words hM) rfl hM.2.2.2.2.2.1 hM.2.2.2.2.2.2 (hts _ hM.2.2.2.2.1) (hts _ hL) ⟨hM.1, hM.2.1, hM.2.2.1⟩ (rOk_1 hR)
  exact sv_call (va_runS (As := As) (rest := rest) ⟨hx, hb, hml, hown', hts⟩ (hC hE r1 hf) ⟨hcw, hts _ hV⟩ ⟨PcE_blind E _ σ, fun U hU hW => ⟨rfl, by rw [hU]; exact hP, va_K.moved hW.alike hK, by rw [hU]; exact ((Kt.kept hS.2.1 hKs).warm hW).narrow hA⟩⟩ rfl hn hl.1 hst (lv_room hW) hd ⟨hcc, hcs⟩) hS hA (fun H1 locs1 hP1 _ _ hS1 => kk r1 Cc r ho2 ls H1 locs1 hl hP1 hS1)
theorem s_callN0 {host : String} (hM : MF μ' np) (hV : Cond.static μ'.1 ∈ tT) (hL : Cond.methodLinkNest μ.1.cls idx μ'.1 host ∈ nestW) (hC : Ctr Γ.2.1 en' fs' E μ' As σ f) (hn : As.length = np) (hst : st = As.reverse ++ rest) (hW : (rest.map fun v => v.category).sum ≤ 8) (hR : rOk μ.2.2.2.2 μ'.2.2.2.2 μ'.2.2.1 = true) (hd : decode μ.2.1 pc = .ok (.invokestatic idx, 3))
    (kk : ∀ r, Sim Q Γ Ξ E μ (fs' r) (pc + 3) lv ((en' r).toList ++ rest) (K r)) : Sim Q Γ Ξ E μ σ pc lv st (calP f K) := by
  intro Cc r ho ls H locs hl hP hS
  obtain ⟨r1, hf, ho2⟩ := calP_in ho
  obtain ⟨hx, hb, hml, hr', hown', hts, hlocks, hK, ⟨hE, hA, hcc, hcs⟩, hKs⟩ := id Cc
  have hcw : va_CN μ.2.2.2.2 Γ.2.2.2.1 Γ.2.2.2.2.2.1 μ.1.cls idx μ'.1 host μ'.2.1 μ'.2.2.1 μ'.2.2.2.1 (.code μ'.1 μ'.2.1 μ'.2.2.1 μ'.2.2.2.1 :: tT) μ'.2.2.2.2 0 0 np :=
    va_cnB np hts (ctr_words hM) rfl hM.2.2.2.2.2.1 hM.2.2.2.2.2.2 (hKs.1 _ hL) (hts _ hM.2.2.2.2.1) ⟨hM.1, hM.2.1, hM.2.2.1⟩ (rOk_1 hR)
  exact sv_call (va_runSN (As := As) (rest := rest) ⟨hx, hb, hml, hown', hts⟩ (hC hE r1 hf) ⟨hcw, hts _ hV, trivial⟩ ⟨PcE_blind E _ σ, fun U hU hW => ⟨rfl, by rw [hU]; exact hP, va_K.moved hW.alike hK, by rw [hU]; exact ((Kt.kept hS.2.1 hKs).warm hW).narrow hA⟩⟩ rfl hn hl.1 hst (lv_room hW) hd ⟨hcc, hcs⟩) hS hA (fun H1 locs1 hP1 _ _ hS1 => kk r1 Cc r ho2 ls H1 locs1 hl hP1 hS1)
end CALLR
theorem maxS : Cond.static Lib.Math.max.name ∈ tT := tM 579 (by decide +kernel) rfl
theorem maxI : Cond.initialized "java/lang/Math" ∈ tT := tM 99 (by decide +kernel) rfl
theorem maxC : Cond.code Lib.Math.max.name Lib.Math.max.code 2 (some .int) ∈ tT := tM 580 (by decide +kernel) rfl
theorem minS : Cond.static Lib.Math.min.name ∈ tT := tM 439 (by decide +kernel) rfl
theorem minC : Cond.code Lib.Math.min.name Lib.Math.min.code 2 (some .int) ∈ tT := tM 440 (by decide +kernel) rfl
-- the same, by what comes back: p nothing is written, w the state comes too; I int, L long, V nothing, M, C an object by its number
section CALLK
variable {ρ : Type} {Q : ρ → State → Prop} {Γ : Gm} {Ξ : Gx} {E : Ev} {μ μ' : Md} {σ : St} {pc np idx b ci : Nat} {lv : List (Nat × Value)} {st As rest : List Value} {q : vw_C}
theorem s_callVpI {f : Option Int32} {K : Int32 → Option ρ} (hM : MF μ' np) (hV : VF μ') (hL : Cond.methodLink μ.1.cls idx μ'.1 ∈ tT) (hC : Ctr Γ.2.1 (enI) (fun _ => σ) E μ' (rV E b :: As) σ f) (hm : b ∈ E.2.2.2.1) (hkd : kd b = ci) (hci : ci < 11) (hc : vwCl[ci]? = some q) (hq : q.1 = μ'.1.cls) (hn : As.length = np) (hst : st = As.reverse ++ rV E b :: rest) (hW : (rest.map fun v => v.category).sum ≤ 8) (hR : rOk μ.2.2.2.2 μ'.2.2.2.2 μ'.2.2.1 = true) (hd : decode μ.2.1 pc = .ok (.invokevirtual idx, 3)) (kk : ∀ r, Sim Q Γ Ξ E μ σ (pc + 3) lv (.int r :: rest) (K r)) : Sim Q Γ Ξ E μ σ pc lv st (calP f K) := s_callV0 hM hV hL hC hm hkd hci hc hq hn hst hW hR hd kk
theorem s_callVwI {f : Option (Int32 × St)} {K : Int32 → St → Option ρ} (hM : MF μ' np) (hV : VF μ') (hL : Cond.methodLink μ.1.cls idx μ'.1 ∈ tT) (hC : Ctr Γ.2.1 (en2 (enI)) (fun q => q.2) E μ' (rV E b :: As) σ f) (hm : b ∈ E.2.2.2.1) (hkd : kd b = ci) (hci : ci < 11) (hc : vwCl[ci]? = some q) (hq : q.1 = μ'.1.cls) (hn : As.length = np) (hst : st = As.reverse ++ rV E b :: rest) (hW : (rest.map fun v => v.category).sum ≤ 8) (hR : rOk μ.2.2.2.2 μ'.2.2.2.2 μ'.2.2.1 = true) (hd : decode μ.2.1 pc = .ok (.invokevirtual idx, 3)) (kk : ∀ r σ1, Sim Q Γ Ξ E μ σ1 (pc + 3) lv (.int r :: rest) (K r σ1)) : Sim Q Γ Ξ E μ σ pc lv st (cal f K) := s_callV0 hM hV hL hC hm hkd hci hc hq hn hst hW hR hd (fun r => kk r.1 r.2)
theorem s_callVpL {f : Option Int64} {K : Int64 → Option ρ} (hM : MF μ' np) (hV : VF μ') (hL : Cond.methodLink μ.1.cls idx μ'.1 ∈ tT) (hC : Ctr Γ.2.1 (enL) (fun _ => σ) E μ' (rV E b :: As) σ f) (hm : b ∈ E.2.2.2.1) (hkd : kd b = ci) (hci : ci < 11) (hc : vwCl[ci]? = some q) (hq : q.1 = μ'.1.cls) (hn : As.length = np) (hst : st = As.reverse ++ rV E b :: rest) (hW : (rest.map fun v => v.category).sum ≤ 8) (hR : rOk μ.2.2.2.2 μ'.2.2.2.2 μ'.2.2.1 = true) (hd : decode μ.2.1 pc = .ok (.invokevirtual idx, 3)) (kk : ∀ r, Sim Q Γ Ξ E μ σ (pc + 3) lv (.long r :: rest) (K r)) : Sim Q Γ Ξ E μ σ pc lv st (calP f K) := s_callV0 hM hV hL hC hm hkd hci hc hq hn hst hW hR hd kk
theorem s_callVwL {f : Option (Int64 × St)} {K : Int64 → St → Option ρ} (hM : MF μ' np) (hV : VF μ') (hL : Cond.methodLink μ.1.cls idx μ'.1 ∈ tT) (hC : Ctr Γ.2.1 (en2 (enL)) (fun q => q.2) E μ' (rV E b :: As) σ f) (hm : b ∈ E.2.2.2.1) (hkd : kd b = ci) (hci : ci < 11) (hc : vwCl[ci]? = some q) (hq : q.1 = μ'.1.cls) (hn : As.length = np) (hst : st = As.reverse ++ rV E b :: rest) (hW : (rest.map fun v => v.category).sum ≤ 8) (hR : rOk μ.2.2.2.2 μ'.2.2.2.2 μ'.2.2.1 = true) (hd : decode μ.2.1 pc = .ok (.invokevirtual idx, 3)) (kk : ∀ r σ1, Sim Q Γ Ξ E μ σ1 (pc + 3) lv (.long r :: rest) (K r σ1)) : Sim Q Γ Ξ E μ σ pc lv st (cal f K) := s_callV0 hM hV hL hC hm hkd hci hc hq hn hst hW hR hd (fun r => kk r.1 r.2)
theorem s_callVpV {f : Option Unit} {K : Unit → Option ρ} (hM : MF μ' np) (hV : VF μ') (hL : Cond.methodLink μ.1.cls idx μ'.1 ∈ tT) (hC : Ctr Γ.2.1 (enV) (fun _ => σ) E μ' (rV E b :: As) σ f) (hm : b ∈ E.2.2.2.1) (hkd : kd b = ci) (hci : ci < 11) (hc : vwCl[ci]? = some q) (hq : q.1 = μ'.1.cls) (hn : As.length = np) (hst : st = As.reverse ++ rV E b :: rest) (hW : (rest.map fun v => v.category).sum ≤ 8) (hR : rOk μ.2.2.2.2 μ'.2.2.2.2 μ'.2.2.1 = true) (hd : decode μ.2.1 pc = .ok (.invokevirtual idx, 3)) (kk : ∀ r, Sim Q Γ Ξ E μ σ (pc + 3) lv (rest) (K r)) : Sim Q Γ Ξ E μ σ pc lv st (calP f K) := s_callV0 hM hV hL hC hm hkd hci hc hq hn hst hW hR hd kk
theorem s_callVwV {f : Option (Unit × St)} {K : Unit → St → Option ρ} (hM : MF μ' np) (hV : VF μ') (hL : Cond.methodLink μ.1.cls idx μ'.1 ∈ tT) (hC : Ctr Γ.2.1 (en2 (enV)) (fun q => q.2) E μ' (rV E b :: As) σ f) (hm : b ∈ E.2.2.2.1) (hkd : kd b = ci) (hci : ci < 11) (hc : vwCl[ci]? = some q) (hq : q.1 = μ'.1.cls) (hn : As.length = np) (hst : st = As.reverse ++ rV E b :: rest) (hW : (rest.map fun v => v.category).sum ≤ 8) (hR : rOk μ.2.2.2.2 μ'.2.2.2.2 μ'.2.2.1 = true) (hd : decode μ.2.1 pc = .ok (.invokevirtual idx, 3)) (kk : ∀ r σ1, Sim Q Γ Ξ E μ σ1 (pc + 3) lv (rest) (K r σ1)) : Sim Q Γ Ξ E μ σ pc lv st (cal f K) := s_callV0 hM hV hL hC hm hkd hci hc hq hn hst hW hR hd (fun r => kk r.1 r.2)
theorem s_callVpM {f : Option Nat} {K : Nat → Option ρ} (hM : MF μ' np) (hV : VF μ') (hL : Cond.methodLink μ.1.cls idx μ'.1 ∈ tT) (hC : Ctr Γ.2.1 (enS E) (fun _ => σ) E μ' (rV E b :: As) σ f) (hm : b ∈ E.2.2.2.1) (hkd : kd b = ci) (hci : ci < 11) (hc : vwCl[ci]? = some q) (hq : q.1 = μ'.1.cls) (hn : As.length = np) (hst : st = As.reverse ++ rV E b :: rest) (hW : (rest.map fun v => v.category).sum ≤ 8) (hR : rOk μ.2.2.2.2 μ'.2.2.2.2 μ'.2.2.1 = true) (hd : decode μ.2.1 pc = .ok (.invokevirtual idx, 3)) (kk : ∀ r, Sim Q Γ Ξ E μ σ (pc + 3) lv (rV E (32 + 2 * r) :: rest) (K r)) : Sim Q Γ Ξ E μ σ pc lv st (calP f K) := s_callV0 hM hV hL hC hm hkd hci hc hq hn hst hW hR hd kk
theorem s_callVwM {f : Option (Nat × St)} {K : Nat → St → Option ρ} (hM : MF μ' np) (hV : VF μ') (hL : Cond.methodLink μ.1.cls idx μ'.1 ∈ tT) (hC : Ctr Γ.2.1 (en2 (enS E)) (fun q => q.2) E μ' (rV E b :: As) σ f) (hm : b ∈ E.2.2.2.1) (hkd : kd b = ci) (hci : ci < 11) (hc : vwCl[ci]? = some q) (hq : q.1 = μ'.1.cls) (hn : As.length = np) (hst : st = As.reverse ++ rV E b :: rest) (hW : (rest.map fun v => v.category).sum ≤ 8) (hR : rOk μ.2.2.2.2 μ'.2.2.2.2 μ'.2.2.1 = true) (hd : decode μ.2.1 pc = .ok (.invokevirtual idx, 3)) (kk : ∀ r σ1, Sim Q Γ Ξ E μ σ1 (pc + 3) lv (rV E (32 + 2 * r) :: rest) (K r σ1)) : Sim Q Γ Ξ E μ σ pc lv st (cal f K) := s_callV0 hM hV hL hC hm hkd hci hc hq hn hst hW hR hd (fun r => kk r.1 r.2)
theorem s_callVpC {f : Option Nat} {K : Nat → Option ρ} (hM : MF μ' np) (hV : VF μ') (hL : Cond.methodLink μ.1.cls idx μ'.1 ∈ tT) (hC : Ctr Γ.2.1 (enC E) (fun _ => σ) E μ' (rV E b :: As) σ f) (hm : b ∈ E.2.2.2.1) (hkd : kd b = ci) (hci : ci < 11) (hc : vwCl[ci]? = some q) (hq : q.1 = μ'.1.cls) (hn : As.length = np) (hst : st = As.reverse ++ rV E b :: rest) (hW : (rest.map fun v => v.category).sum ≤ 8) (hR : rOk μ.2.2.2.2 μ'.2.2.2.2 μ'.2.2.1 = true) (hd : decode μ.2.1 pc = .ok (.invokevirtual idx, 3)) (kk : ∀ r, Sim Q Γ Ξ E μ σ (pc + 3) lv (rV E (40 + 5 * r) :: rest) (K r)) : Sim Q Γ Ξ E μ σ pc lv st (calP f K) := s_callV0 hM hV hL hC hm hkd hci hc hq hn hst hW hR hd kk
theorem s_callVwC {f : Option (Nat × St)} {K : Nat → St → Option ρ} (hM : MF μ' np) (hV : VF μ') (hL : Cond.methodLink μ.1.cls idx μ'.1 ∈ tT) (hC : Ctr Γ.2.1 (en2 (enC E)) (fun q => q.2) E μ' (rV E b :: As) σ f) (hm : b ∈ E.2.2.2.1) (hkd : kd b = ci) (hci : ci < 11) (hc : vwCl[ci]? = some q) (hq : q.1 = μ'.1.cls) (hn : As.length = np) (hst : st = As.reverse ++ rV E b :: rest) (hW : (rest.map fun v => v.category).sum ≤ 8) (hR : rOk μ.2.2.2.2 μ'.2.2.2.2 μ'.2.2.1 = true) (hd : decode μ.2.1 pc = .ok (.invokevirtual idx, 3)) (kk : ∀ r σ1, Sim Q Γ Ξ E μ σ1 (pc + 3) lv (rV E (40 + 5 * r) :: rest) (K r σ1)) : Sim Q Γ Ξ E μ σ pc lv st (cal f K) := s_callV0 hM hV hL hC hm hkd hci hc hq hn hst hW hR hd (fun r => kk r.1 r.2)
theorem s_callSpI {f : Option Int32} {K : Int32 → Option ρ} (hM : MF μ' np) (hV : Cond.static μ'.1 ∈ tT) (hL : Cond.methodLink μ.1.cls idx μ'.1 ∈ tT) (hC : Ctr Γ.2.1 (enI) (fun _ => σ) E μ' As σ f) (hn : As.length = np) (hst : st = As.reverse ++ rest) (hW : (rest.map fun v => v.category).sum ≤ 8) (hR : rOk μ.2.2.2.2 μ'.2.2.2.2 μ'.2.2.1 = true) (hd : decode μ.2.1 pc = .ok (.invokestatic idx, 3)) (kk : ∀ r, Sim Q Γ Ξ E μ σ (pc + 3) lv (.int r :: rest) (K r)) : Sim Q Γ Ξ E μ σ pc lv st (calP f K) := s_callS0 hM hV hL hC hn hst hW hR hd kk
theorem s_callSwI {f : Option (Int32 × St)} {K : Int32 → St → Option ρ} (hM : MF μ' np) (hV : Cond.static μ'.1 ∈ tT) (hL : Cond.methodLink μ.1.cls idx μ'.1 ∈ tT) (hC : Ctr Γ.2.1 (en2 (enI)) (fun q => q.2) E μ' As σ f) (hn : As.length = np) (hst : st = As.reverse ++ rest) (hW : (rest.map fun v => v.category).sum ≤ 8) (hR : rOk μ.2.2.2.2 μ'.2.2.2.2 μ'.2.2.1 = true) (hd : decode μ.2.1 pc = .ok (.invokestatic idx, 3)) (kk : ∀ r σ1, Sim Q Γ Ξ E μ σ1 (pc + 3) lv (.int r :: rest) (K r σ1)) : Sim Q Γ Ξ E μ σ pc lv st (cal f K) := s_callS0 hM hV hL hC hn hst hW hR hd (fun r => kk r.1 r.2)
theorem s_callSpL {f : Option Int64} {K : Int64 → Option ρ} (hM : MF μ' np) (hV : Cond.static μ'.1 ∈ tT) (hL : Cond.methodLink μ.1.cls idx μ'.1 ∈ tT) (hC : Ctr Γ.2.1 (enL) (fun _ => σ) E μ' As σ f) (hn : As.length = np) (hst : st = As.reverse ++ rest) (hW : (rest.map fun v => v.category).sum ≤ 8) (hR : rOk μ.2.2.2.2 μ'.2.2.2.2 μ'.2.2.1 = true) (hd : decode μ.2.1 pc = .ok (.invokestatic idx, 3)) (kk : ∀ r, Sim Q Γ Ξ E μ σ (pc + 3) lv (.long r :: rest) (K r)) : Sim Q Γ Ξ E μ σ pc lv st (calP f K) := s_callS0 hM hV hL hC hn hst hW hR hd kk
theorem s_callSwL {f : Option (Int64 × St)} {K : Int64 → St → Option ρ} (hM : MF μ' np) (hV : Cond.static μ'.1 ∈ tT) (hL : Cond.methodLink μ.1.cls idx μ'.1 ∈ tT) (hC : Ctr Γ.2.1 (en2 (enL)) (fun q => q.2) E μ' As σ f) (hn : As.length = np) (hst : st = As.reverse ++ rest) (hW : (rest.map fun v => v.category).sum ≤ 8) (hR : rOk μ.2.2.2.2 μ'.2.2.2.2 μ'.2.2.1 = true) (hd : decode μ.2.1 pc = .ok (.invokestatic idx, 3)) (kk : ∀ r σ1, Sim Q Γ Ξ E μ σ1 (pc + 3) lv (.long r :: rest) (K r σ1)) : Sim Q Γ Ξ E μ σ pc lv st (cal f K) := s_callS0 hM hV hL hC hn hst hW hR hd (fun r => kk r.1 r.2)
theorem s_callSpV {f : Option Unit} {K : Unit → Option ρ} (hM : MF μ' np) (hV : Cond.static μ'.1 ∈ tT) (hL : Cond.methodLink μ.1.cls idx μ'.1 ∈ tT) (hC : Ctr Γ.2.1 (enV) (fun _ => σ) E μ' As σ f) (hn : As.length = np) (hst : st = As.reverse ++ rest) (hW : (rest.map fun v => v.category).sum ≤ 8) (hR : rOk μ.2.2.2.2 μ'.2.2.2.2 μ'.2.2.1 = true) (hd : decode μ.2.1 pc = .ok (.invokestatic idx, 3)) (kk : ∀ r, Sim Q Γ Ξ E μ σ (pc + 3) lv (rest) (K r)) : Sim Q Γ Ξ E μ σ pc lv st (calP f K) := s_callS0 hM hV hL hC hn hst hW hR hd kk
theorem s_callSwV {f : Option (Unit × St)} {K : Unit → St → Option ρ} (hM : MF μ' np) (hV : Cond.static μ'.1 ∈ tT) (hL : Cond.methodLink μ.1.cls idx μ'.1 ∈ tT) (hC : Ctr Γ.2.1 (en2 (enV)) (fun q => q.2) E μ' As σ f) (hn : As.length = np) (hst : st = As.reverse ++ rest) (hW : (rest.map fun v => v.category).sum ≤ 8) (hR : rOk μ.2.2.2.2 μ'.2.2.2.2 μ'.2.2.1 = true) (hd : decode μ.2.1 pc = .ok (.invokestatic idx, 3)) (kk : ∀ r σ1, Sim Q Γ Ξ E μ σ1 (pc + 3) lv (rest) (K r σ1)) : Sim Q Γ Ξ E μ σ pc lv st (cal f K) := s_callS0 hM hV hL hC hn hst hW hR hd (fun r => kk r.1 r.2)
theorem s_callNpI {f : Option Int32} {K : Int32 → Option ρ} (hM : MF μ' np) {host : String} (hV : Cond.static μ'.1 ∈ tT) (hL : Cond.methodLinkNest μ.1.cls idx μ'.1 host ∈ nestW) (hC : Ctr Γ.2.1 (enI) (fun _ => σ) E μ' As σ f) (hn : As.length = np) (hst : st = As.reverse ++ rest) (hW : (rest.map fun v => v.category).sum ≤ 8) (hR : rOk μ.2.2.2.2 μ'.2.2.2.2 μ'.2.2.1 = true) (hd : decode μ.2.1 pc = .ok (.invokestatic idx, 3)) (kk : ∀ r, Sim Q Γ Ξ E μ σ (pc + 3) lv (.int r :: rest) (K r)) : Sim Q Γ Ξ E μ σ pc lv st (calP f K) := s_callN0 hM hV hL hC hn hst hW hR hd kk
theorem s_callNwI {f : Option (Int32 × St)} {K : Int32 → St → Option ρ} (hM : MF μ' np) {host : String} (hV : Cond.static μ'.1 ∈ tT) (hL : Cond.methodLinkNest μ.1.cls idx μ'.1 host ∈ nestW) (hC : Ctr Γ.2.1 (en2 (enI)) (fun q => q.2) E μ' As σ f) (hn : As.length = np) (hst : st = As.reverse ++ rest) (hW : (rest.map fun v => v.category).sum ≤ 8) (hR : rOk μ.2.2.2.2 μ'.2.2.2.2 μ'.2.2.1 = true) (hd : decode μ.2.1 pc = .ok (.invokestatic idx, 3)) (kk : ∀ r σ1, Sim Q Γ Ξ E μ σ1 (pc + 3) lv (.int r :: rest) (K r σ1)) : Sim Q Γ Ξ E μ σ pc lv st (cal f K) := s_callN0 hM hV hL hC hn hst hW hR hd (fun r => kk r.1 r.2)
theorem s_callNpL {f : Option Int64} {K : Int64 → Option ρ} (hM : MF μ' np) {host : String} (hV : Cond.static μ'.1 ∈ tT) (hL : Cond.methodLinkNest μ.1.cls idx μ'.1 host ∈ nestW) (hC : Ctr Γ.2.1 (enL) (fun _ => σ) E μ' As σ f) (hn : As.length = np) (hst : st = As.reverse ++ rest) (hW : (rest.map fun v => v.category).sum ≤ 8) (hR : rOk μ.2.2.2.2 μ'.2.2.2.2 μ'.2.2.1 = true) (hd : decode μ.2.1 pc = .ok (.invokestatic idx, 3)) (kk : ∀ r, Sim Q Γ Ξ E μ σ (pc + 3) lv (.long r :: rest) (K r)) : Sim Q Γ Ξ E μ σ pc lv st (calP f K) := s_callN0 hM hV hL hC hn hst hW hR hd kk
theorem s_callNwL {f : Option (Int64 × St)} {K : Int64 → St → Option ρ} (hM : MF μ' np) {host : String} (hV : Cond.static μ'.1 ∈ tT) (hL : Cond.methodLinkNest μ.1.cls idx μ'.1 host ∈ nestW) (hC : Ctr Γ.2.1 (en2 (enL)) (fun q => q.2) E μ' As σ f) (hn : As.length = np) (hst : st = As.reverse ++ rest) (hW : (rest.map fun v => v.category).sum ≤ 8) (hR : rOk μ.2.2.2.2 μ'.2.2.2.2 μ'.2.2.1 = true) (hd : decode μ.2.1 pc = .ok (.invokestatic idx, 3)) (kk : ∀ r σ1, Sim Q Γ Ξ E μ σ1 (pc + 3) lv (.long r :: rest) (K r σ1)) : Sim Q Γ Ξ E μ σ pc lv st (cal f K) := s_callN0 hM hV hL hC hn hst hW hR hd (fun r => kk r.1 r.2)
theorem s_callNpV {f : Option Unit} {K : Unit → Option ρ} (hM : MF μ' np) {host : String} (hV : Cond.static μ'.1 ∈ tT) (hL : Cond.methodLinkNest μ.1.cls idx μ'.1 host ∈ nestW) (hC : Ctr Γ.2.1 (enV) (fun _ => σ) E μ' As σ f) (hn : As.length = np) (hst : st = As.reverse ++ rest) (hW : (rest.map fun v => v.category).sum ≤ 8) (hR : rOk μ.2.2.2.2 μ'.2.2.2.2 μ'.2.2.1 = true) (hd : decode μ.2.1 pc = .ok (.invokestatic idx, 3)) (kk : ∀ r, Sim Q Γ Ξ E μ σ (pc + 3) lv (rest) (K r)) : Sim Q Γ Ξ E μ σ pc lv st (calP f K) := s_callN0 hM hV hL hC hn hst hW hR hd kk
theorem s_callNwV {f : Option (Unit × St)} {K : Unit → St → Option ρ} (hM : MF μ' np) {host : String} (hV : Cond.static μ'.1 ∈ tT) (hL : Cond.methodLinkNest μ.1.cls idx μ'.1 host ∈ nestW) (hC : Ctr Γ.2.1 (en2 (enV)) (fun q => q.2) E μ' As σ f) (hn : As.length = np) (hst : st = As.reverse ++ rest) (hW : (rest.map fun v => v.category).sum ≤ 8) (hR : rOk μ.2.2.2.2 μ'.2.2.2.2 μ'.2.2.1 = true) (hd : decode μ.2.1 pc = .ok (.invokestatic idx, 3)) (kk : ∀ r σ1, Sim Q Γ Ξ E μ σ1 (pc + 3) lv (rest) (K r σ1)) : Sim Q Γ Ξ E μ σ pc lv st (cal f K) := s_callN0 hM hV hL hC hn hst hW hR hd (fun r => kk r.1 r.2)
/-- Math.max, Math.min -/
theorem s_mmax {x y : Int32} (hL : Cond.methodLink μ.1.cls idx Lib.Math.max.name ∈ tT) (hR : ((1).ble μ.2.2.2.2.frames && ((st.map fun v => v.category).sum + 13).ble μ.2.2.2.2.locals) = true) (hd : decode μ.2.1 pc = .ok (.invokestatic idx, 3)) {o : Option ρ} (kk : Sim Q Γ Ξ E μ σ (pc + 3) lv (.int (if x < y then y else x) :: st) o) : Sim Q Γ Ξ E μ σ pc lv (.int y :: .int x :: st) o := by
  intro Cc r ho ls H locs hl hP hS
  obtain ⟨hx, hb, hml, hr', hown', hts, hlocks, hK, ⟨hE, hA, hcc, hcs⟩, hKs⟩ := id Cc
  rw [Bool.and_eq_true] at hR
  exact va_mmax hx hb (hml.trans hl.1.symm) hown' (hts _ hL) (hts _ maxS) (hts _ maxI) (hts _ maxC) (Nat.le_of_ble_eq_true hR.1) (Nat.le_of_ble_eq_true hR.2) hcc hcs hd (kk Cc r ho ls H locs hl hP hS)
theorem s_mmin {x y : Int32} (hL : Cond.methodLink μ.1.cls idx Lib.Math.min.name ∈ tT) (hR : ((1).ble μ.2.2.2.2.frames && ((st.map fun v => v.category).sum + 13).ble μ.2.2.2.2.locals) = true) (hd : decode μ.2.1 pc = .ok (.invokestatic idx, 3)) {o : Option ρ} (kk : Sim Q Γ Ξ E μ σ (pc + 3) lv (.int (if y < x then y else x) :: st) o) : Sim Q Γ Ξ E μ σ pc lv (.int y :: .int x :: st) o := by
  intro Cc r ho ls H locs hl hP hS
  obtain ⟨hx, hb, hml, hr', hown', hts, hlocks, hK, ⟨hE, hA, hcc, hcs⟩, hKs⟩ := id Cc
  rw [Bool.and_eq_true] at hR
  exact va_mmin hx hb (hml.trans hl.1.symm) hown' (hts _ hL) (hts _ minS) (hts _ maxI) (hts _ minC) (Nat.le_of_ble_eq_true hR.1) (Nat.le_of_ble_eq_true hR.2) hcc hcs hd (kk Cc r ho ls H locs hl hP hS)
/-- the table LACKS, at 133 -/
theorem s_getK {own : String} {o : Option ρ} (hown : μ.1.cls = own) (hL : Cond.fieldLink own idx "RunnerNet$Guards" "LACKS" "[J" ∈ tT) (hd : decode μ.2.1 pc = .ok (.getstatic idx, 3)) (kk : Sim Q Γ Ξ E μ σ (pc + 3) lv (rV E 133 :: st) o) : Sim Q Γ Ξ E μ σ pc lv st o := by
  intro Cc r ho ls H locs hl hP hS
  obtain ⟨hx, hb, hml, hr', hown', hts, hlocks, hK, ⟨hE, hA, hcc, hcs⟩, hKs⟩ := id Cc
  rw [hown] at hown'
  exact va_gets hx hb hKs.2.1.1 hS hown' (hts _ hL) (fun _ h => h) hd (kk Cc r ho ls H locs hl hP hS)
theorem s_lenK {o : Option ρ} (hd : decode μ.2.1 pc = .ok (.arraylength, 1)) (kk : Sim Q Γ Ξ E μ σ (pc + 1) lv (.int 6 :: st) o) : Sim Q Γ Ξ E μ σ pc lv (rV E 133 :: st) o := by
  intro Cc r ho ls H locs hl hP hS
  obtain ⟨hx, hb, hml, hr', hown', hts, hlocks, hK, ⟨hE, hA, hcc, hcs⟩, hKs⟩ := id Cc
  exact va_tlen hx hb hKs.2.1.2 hS rfl hd (kk Cc r ho ls H locs hl hP hS)
theorem s_ldK {i : Int32} {o : Option ρ} (hd : decode μ.2.1 pc = .ok (.laload, 1)) (kk : Sim Q Γ Ξ E μ σ (pc + 1) lv (.long (lackV i.toNatClampNeg) :: st) o) : Sim Q Γ Ξ E μ σ pc lv (.int i :: rV E 133 :: st) (ck i 6 o) := by
  intro Cc r ho ls H locs hl hP hS
  obtain ⟨hi, ho2⟩ := ck_in ho
  obtain ⟨hx, hb, hml, hr', hown', hts, hlocks, hK, ⟨hE, hA, hcc, hcs⟩, hKs⟩ := id Cc
  exact va_tl hx hb hKs.2.1.2 hS hi rfl hd (kk Cc r ho2 ls H locs hl hP hS)
end CALLK
