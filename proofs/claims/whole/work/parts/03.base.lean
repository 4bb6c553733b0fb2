def KD : List Nat := [9, 3, 11, 11, 11, 11, 7, 11, 11, 11, 11, 16, 14, 5, 8, 11, 11, 11, 4, 11, 11, 4, 11, 11, 1, 15, 2, 12, 12, 2, 12, 12, 6, 11, 6, 11, 6, 11, 99, 99, 0, 11, 11, 11, 11, 0, 11, 11, 11, 11, 0, 11, 11, 11, 11, 0, 11, 11, 11, 11, 0, 11, 11, 11, 11, 0, 11, 11, 11, 11, 0, 11, 11, 11, 11, 0, 11, 11, 11, 11, 0, 11, 11, 11, 11, 99, 99, 99, 99, 99, 99, 99, 99, 99, 99, 99, 99, 99, 99, 99, 10, 11, 11, 11, 13, 11, 11, 11, 11, 11, 11, 11, 13, 11, 11, 11, 11, 11, 11, 13, 13, 13, 13]
def LN : List Nat := [0, 0, 8, 8, 256, 256, 0, 160, 16, 16, 16, 3, 9, 0, 0, 2816, 2816, 512, 0, 256, 8, 0, 256, 8, 0, 2, 0, 1024, 4, 0, 1024, 4, 0, 8, 0, 64, 0, 512, 0, 0, 0, 64, 8, 8, 8, 0, 64, 8, 8, 8, 0, 64, 8, 8, 8, 0, 512, 64, 64, 64, 0, 512, 64, 64, 64, 0, 512, 64, 64, 64, 0, 4096, 512, 512, 512, 0, 4096, 512, 512, 512, 0, 4096, 512, 512, 512, 0, 0, 0, 0, 0, 0, 0, 0, 0, 0, 0, 0, 0, 0, 0, 0, 8, 160, 48, 9, 36864, 4096, 512, 3, 3, 16384, 16384, 3, 3, 3, 8, 256, 2048, 8, 65536, 512, 256, 256]
def RFs : List (List Nat) := [[1, 6, 11, 12, 13, 14, 18, 21, 24, 25], [0, 0, 2, 3, 4, 5], [], [], [], [], [7, 0, 0, 0, 0, 0, 8, 9, 10], [], [], [], [], [32, 34, 36], [40, 45, 50, 55, 60, 65, 70, 75, 80], [], [1, 15, 16, 17], [], [], [], [1, 0, 19, 20], [], [], [1, 0, 22, 23], [], [], [1], [26, 29], [1, 0, 27, 28], [], [], [1, 0, 30, 31], [], [], [1, 0, 0, 33], [], [1, 0, 0, 35], [], [1, 0, 0, 37], [], [], [], [1, 32, 0, 41, 42, 43, 44], [], [], [], [], [1, 32, 0, 46, 47, 48, 49], [], [], [], [], [1, 32, 0, 51, 52, 53, 54], [], [], [], [], [1, 34, 0, 56, 57, 58, 59], [], [], [], [], [1, 34, 0, 61, 62, 63, 64], [], [], [], [], [1, 34, 0, 66, 67, 68, 69], [], [], [], [], [1, 36, 0, 71, 72, 73, 74], [], [], [], [], [1, 36, 0, 76, 77, 78, 79], [], [], [], [], [1, 36, 0, 81, 82, 83, 84], [], [], [], [], [], [], [], [], [], [], [], [], [], [], [], [], [], [], [], [0, 101, 0, 102, 0, 0, 0, 0, 0, 0, 0, 0, 103, 104, 105, 106, 107, 108, 109, 0, 0, 0, 0, 0, 0, 110, 111, 0, 112, 113, 114, 115, 116, 117, 118, 0, 0, 119, 120, 121, 122], [], [], [], [], [], [], [], [], [], [], [], [], [], [], [], [], [], [], [], [], [], []]
def FTs : List (List Nat) := [[2, 2, 0, 2, 2, 2, 2, 0], [2], [2, 0, 2, 2, 0], [0, 0, 2, 2, 2, 2], [2, 0, 2, 2, 0], [0, 0, 0, 0, 0, 0], [2, 0, 0, 2], [2, 0, 0, 0, 0, 0, 2, 2, 2], [2, 2, 2, 2, 3, 0, 0, 0, 0, 0], [2, 2, 2, 2, 2, 2, 2, 2, 2, 2], [0, 2, 0, 2, 0, 0, 1, 0, 0, 0, 0, 0, 2, 2, 2, 2, 2, 2, 2, 0, 0, 0, 0, 0, 0, 2, 2, 0, 2, 2, 2, 2, 2, 2, 2, 0, 0, 2, 2, 2, 2]]
def kd (a : Nat) : Nat := KD.getD a 99
def ln (a : Nat) : Nat := LN.getD a 0
def rf (a k : Nat) : Nat := (RFs.getD a []).getD k 0
def ft (a k : Nat) : Option Nat := (FTs.getD (kd a) [])[k]?
/-- the pure state: what int (boolean) and long slots hold, by cell and slot -/
abbrev St : Type := (Nat → Nat → Int32) × (Nat → Nat → Int64)
def setI (σ : St) (a k : Nat) (v : Int32) : St := (va_up σ.1 a (upd (σ.1 a) k v), σ.2)
def setL (σ : St) (a k : Nat) (v : Int64) : St := (σ.1, va_up σ.2 a (vp_updL (σ.2 a) k v))
def setR (σ : St) (a : Nat) (f : Nat → Int32) : St := (va_up σ.1 a f, σ.2)
/-- the machine's fixed part; the world's fixed part: classes' numbers, addresses, cells; a method: name, bytes, locals, type of its answer, room -/
abbrev Gm : Type := Program × Launch × Env × State × MethodId × Array Value × List Frame × Method × Code
abbrev Ev : Type := va_G × (Nat → ClassId) × (Nat → Nat) × List Nat × (Nat → Nat → Bool)
/-- what a walk may write, the cells and slots made so far -/
abbrev Gx : Type := (Nat → Prop) × Nat × Nat
abbrev Md : Type := MethodName × ByteArray × Nat × Option FieldType × Room
abbrev rV (E : Ev) (a : Nat) : Value := .ref (E.2.2.1 a)
def fv (E : Ev) (σ : St) (a t k : Nat) : Value := if t = 0 then .int (σ.1 a k) else if t = 1 then .long (σ.2 a k) else if E.2.2.2.2 a k = false then .null else if t = 2 then rV E (rf a k) else rV E (32 + 2 * ((σ.1 a k).toNatClampNeg % 3))
def flds (E : Ev) (σ : St) (a : Nat) : List Value := (FTs.getD (kd a) []).mapIdx (fun k t => fv E σ a t k)
def cont (E : Ev) (σ : St) (a : Nat) : va_E := if kd a < 11 then .inr (kd a, flds E σ a) else if kd a = 12 then .inl (E.2.1 12, ln a, .inr (.inl (σ.2 a))) else if kd a < 14 then .inl (E.2.1 (kd a), ln a, .inl (σ.1 a)) else .inl (E.2.1 (kd a), ln a, .inr (.inr (.inr (.inr (fun j => if E.2.2.2.2 a j = true then some (E.2.2.1 (rf a j)) else none)))))
def WS (E : Ev) (σ : St) : va_W := E.2.2.2.1.map (fun a => (E.2.2.1 a, cont E σ a))
def tys (E : Ev) : List (ClassId × FieldType) := [(E.2.1 11, .int), (E.2.1 12, .long), (E.2.1 13, .boolean), (E.2.1 14, .object "RunnerNet$Chase"), (E.2.1 15, .object "RunnerNet$Guards"), (E.2.1 16, .object "RunnerNet$Settings")]
def Eok (E : Ev) : Prop := E.2.2.2.1.Nodup ∧ ∀ a b, a ∈ E.2.2.2.1 → b ∈ E.2.2.2.1 → E.2.2.1 a = E.2.2.1 b → a = b
def AL (E : Ev) : Nat → Prop := fun q => ∃ a, a ∈ E.2.2.2.1 ∧ q = E.2.2.1 a
/-- all cells of the plan are there -/
def Full (E : Ev) : Prop := (∀ a, kd a < 99 → a ∈ E.2.2.2.1) ∧ ∀ a k, E.2.2.2.2 a k = true
theorem nd_inj : ∀ (l : List Nat), l.Nodup → ∀ (i j a : Nat), l[i]? = some a → l[j]? = some a → i = j
  | [], _, i, j, a, h, _ => by simp at h
  | b :: l, hn, i, j, a, h1, h2 => by
    have hn := List.nodup_cons.mp hn
    cases i with
    | zero =>
      cases j with
      | zero => rfl
      | succ j =>
        rw [List.getElem?_cons_zero] at h1
        rw [List.getElem?_cons_succ] at h2
        cases h1
        exact absurd (List.mem_of_getElem? h2) hn.1
    | succ i =>
      rw [List.getElem?_cons_succ] at h1
      cases j with
      | zero =>
        rw [List.getElem?_cons_zero] at h2
        cases h2
        exact absurd (List.mem_of_getElem? h1) hn.1
      | succ j =>
        rw [List.getElem?_cons_succ] at h2
        rw [nd_inj l hn.2 i j a h1 h2]
theorem ws_get {E : Ev} (σ : St) {a : Nat} (h : a ∈ E.2.2.2.1) : ∃ k : Nat, E.2.2.2.1[k]? = some a ∧ (WS E σ)[k]? = some (E.2.2.1 a, cont E σ a) := by
  obtain ⟨k, hk⟩ := List.getElem?_of_mem h
  exact ⟨k, hk, by simp [WS, hk]⟩
theorem ws_set {E : Ev} {σ σ' : St} {a k : Nat} (hE : Eok E) (hk : E.2.2.2.1[k]? = some a) (hc : ∀ b, b ≠ a → cont E σ' b = cont E σ b) : (WS E σ).set k (E.2.2.1 a, cont E σ' a) = WS E σ' := by
  apply List.ext_getElem?
  intro j
  by_cases hj : j = k
  · subst hj
    have hl : j < E.2.2.2.1.length := (List.getElem?_eq_some_iff.mp hk).1
    rw [List.getElem?_set_self (by simpa [WS] using hl)]
    simp [WS, hk]
  · rw [List.getElem?_set_ne (Ne.symm hj)]
    simp only [WS, List.getElem?_map]
    cases hb : E.2.2.2.1[j]? with
    | none => rfl
    | some b =>
      have hba : b ≠ a := by
        intro e
        subst e
        exact hj (nd_inj _ hE.1 _ _ _ hb hk)
      simp [hc b hba]
theorem ws_D {E : Ev} {A : Nat → Prop} (hE : Eok E) (hA : ∀ q, AL E q → A q) (σ : St) : va_D A (WS E σ) := by
  have key : ∀ (k : Nat) (q : Nat × va_E), (WS E σ)[k]? = some q → ∃ a, E.2.2.2.1[k]? = some a ∧ q = (E.2.2.1 a, cont E σ a) := by
    intro k q hk
    simp only [WS, List.getElem?_map] at hk
    cases hb : E.2.2.2.1[k]? with
    | none => rw [hb] at hk; cases hk
    | some b => rw [hb] at hk; cases hk; exact ⟨b, rfl, rfl⟩
  refine ⟨fun i j p q hi hj hpq => ?_, fun k q hk => ?_⟩
  · obtain ⟨a, ha, rfl⟩ := key i p hi
    obtain ⟨b, hb, rfl⟩ := key j q hj
    have hab : a = b := hE.2 a b (List.mem_of_getElem? ha) (List.mem_of_getElem? hb) hpq
    subst hab
    exact nd_inj _ hE.1 _ _ _ ha hb
  · obtain ⟨a, ha, rfl⟩ := key k q hk
    exact hA _ ⟨a, List.mem_of_getElem? ha, rfl⟩
theorem cont_o (E : Ev) (σ : St) {a ci : Nat} (h : kd a = ci) (hc : ci < 11) : cont E σ a = .inr (ci, flds E σ a) := by simp [cont, h, hc]
theorem cont_i (E : Ev) (σ : St) {a : Nat} (h : kd a = 11) : cont E σ a = .inl (E.2.1 11, ln a, .inl (σ.1 a)) := by simp [cont, h]
theorem cont_l (E : Ev) (σ : St) {a : Nat} (h : kd a = 12) : cont E σ a = .inl (E.2.1 12, ln a, .inr (.inl (σ.2 a))) := by simp [cont, h]
theorem cont_z (E : Ev) (σ : St) {a : Nat} (h : kd a = 13) : cont E σ a = .inl (E.2.1 13, ln a, .inl (σ.1 a)) := by simp [cont, h]
theorem cont_q (E : Ev) (σ : St) {a c : Nat} (h : kd a = c) (hc : 14 ≤ c) : cont E σ a = .inl (E.2.1 c, ln a, .inr (.inr (.inr (.inr (fun j => if E.2.2.2.2 a j = true then some (E.2.2.1 (rf a j)) else none))))) := by
  have h1 : ¬ c < 11 := by omega
  have h2 : ¬ c = 12 := by omega
  have h3 : ¬ c < 14 := by omega
  simp [cont, h, h1, h2, h3]
theorem flds_get (E : Ev) (σ : St) {a k t : Nat} (h : ft a k = some t) : (flds E σ a)[k]? = some (fv E σ a t k) := by
  unfold ft at h
  rw [flds, List.getElem?_mapIdx, h]
  rfl
theorem flds_len (E : Ev) (σ : St) {a k t : Nat} (h : ft a k = some t) : k < (flds E σ a).length := (List.getElem?_eq_some_iff.mp (flds_get E σ h)).1
theorem up_s {α : Type} (f : Nat → α) (a : Nat) (v : α) : va_up f a v a = v := by simp [va_up]
theorem up_n {α : Type} (f : Nat → α) {a b : Nat} (v : α) (h : b ≠ a) : va_up f a v b = f b := by simp [va_up, h]
theorem setI_s (σ : St) (a k : Nat) (v : Int32) : (setI σ a k v).1 a = upd (σ.1 a) k v := up_s _ _ _
theorem setI_n (σ : St) {a b : Nat} (k : Nat) (v : Int32) (h : b ≠ a) : (setI σ a k v).1 b = σ.1 b := up_n _ _ h
theorem setI_2 (σ : St) (a k : Nat) (v : Int32) : (setI σ a k v).2 = σ.2 := rfl
theorem setL_s (σ : St) (a k : Nat) (v : Int64) : (setL σ a k v).2 a = vp_updL (σ.2 a) k v := up_s _ _ _
theorem setL_n (σ : St) {a b : Nat} (k : Nat) (v : Int64) (h : b ≠ a) : (setL σ a k v).2 b = σ.2 b := up_n _ _ h
theorem setL_1 (σ : St) (a k : Nat) (v : Int64) : (setL σ a k v).1 = σ.1 := rfl
theorem setR_s (σ : St) (a : Nat) (f : Nat → Int32) : (setR σ a f).1 a = f := up_s _ _ _
theorem setR_n (σ : St) {a b : Nat} (f : Nat → Int32) (h : b ≠ a) : (setR σ a f).1 b = σ.1 b := up_n _ _ h
theorem setR_2 (σ : St) (a : Nat) (f : Nat → Int32) : (setR σ a f).2 = σ.2 := rfl
/-- a cell's contents rest on its own slots alone -/
theorem cont_cg (E : Ev) {σ σ' : St} {b : Nat} (h1 : σ'.1 b = σ.1 b) (h2 : σ'.2 b = σ.2 b) : cont E σ' b = cont E σ b := by simp [cont, flds, fv, h1, h2]
theorem flds_set (E : Ev) {σ σ' : St} {a k t : Nat} {v : Value} (h : ft a k = some t) (hv : fv E σ' a t k = v) (hn : ∀ j, j ≠ k → σ'.1 a j = σ.1 a j ∧ σ'.2 a j = σ.2 a j) : flds E σ' a = (flds E σ a).set k v := by
  apply List.ext_getElem?
  intro j
  by_cases hj : j = k
  · subst hj
    rw [List.getElem?_set_self (flds_len E σ h), flds_get E σ' h, hv]
  · rw [List.getElem?_set_ne (Ne.symm hj)]
    simp only [flds, List.getElem?_mapIdx, fv, (hn j hj).1, (hn j hj).2]
/-- what no method writes: private statics' links between nest mates, the table LACKS, the three texts, one static of String -/
def nestW : List Cond := [.methodLinkNest "RunnerNet" 20 ⟨"RunnerNet$Text", "<init>", "()V"⟩ "RunnerNet", .methodLinkNest "RunnerNet" 45 ⟨"RunnerNet$Play", "<init>", "()V"⟩ "RunnerNet", .methodLinkNest "RunnerNet$Net" 50 yX9_has "RunnerNet", .methodLinkNest "RunnerNet$Chase" 103 yX9_has "RunnerNet", .methodLinkNest "RunnerNet$Settings" 33 yX9_has "RunnerNet", .methodLinkNest "RunnerNet$Unseen" 97 yX9_has "RunnerNet", .methodLinkNest "RunnerNet$Orders" 55 yX9_has "RunnerNet", .methodLinkNest "RunnerNet$Covers" 33 yX9_has "RunnerNet", .methodLinkNest "RunnerNet$Guards" 95 yX9_has "RunnerNet"]
def lackV (j : Nat) : Int64 := [6148914691236517205, 3689348814741910323, 1085102592571150095, 71777214294589695, 281470681808895, 4294967295].getD j 0
def jsByt : List (List Int32) := [[114, 111, 97, 100], [119, 97, 121], [110, 101, 116]]
def jsLen : List Nat := [4, 3, 3]
/-- the three texts stand at 130, 131, 132, their bytes at 140, 141, 142, the table LACKS at 133: no cells of the world -/
def Kt (ad : Nat → Nat) (A : Nat → Prop) (U : State) (H : Heap) : Prop := (∀ w ∈ nestW, va_Nw w U) ∧ (va_Z "RunnerNet$Guards" "LACKS" "[J" (.ref (ad 133)) A U H ∧ va_T .long (ad 133) 6 (fun j => .long (lackV j)) A U H) ∧ (vk_S 3 jsLen jsByt (fun j => ad (130 + j)) (fun j => ad (140 + j)) A U H ∧ vk_R "RunnerNet$Text" 82 "road" (ad 130) U ∧ vk_R "RunnerNet$Text" 88 "way" (ad 131) U ∧ vk_R "RunnerNet$Text" 90 "net" (ad 132) U) ∧ va_Z "java/lang/String" "COMPACT_STRINGS" "Z" (.int 1) A U H ∧ va_Zq "jdk/internal/util/Preconditions" "SIOOBE_FORMATTER" "Ljava/util/function/BiFunction;" A U H ∧ va_AO "RunnerNet$Settings" U ∧ va_AO "RunnerNet$Chase" U ∧ va_AO "RunnerNet$Guards" U
def Ks (E : Ev) (A : Nat → Prop) (U : State) (H : Heap) : Prop := Kt E.2.2.1 A U H
theorem nestW_w {s U : State} (hW : s.WarmedH U.vm) : ∀ w ∈ nestW, va_Nw w s → va_Nw w U := by
  intro w hw h
  simp only [nestW, List.mem_cons, List.not_mem_nil, or_false] at hw
  rcases hw with rfl | rfl | rfl | rfl | rfl | rfl | rfl | rfl | rfl <;> exact va_Nw.warmM hW h
theorem Kt.warm {ad : Nat → Nat} {A : Nat → Prop} {s U : State} {H : Heap} (hW : s.WarmedH U.vm) (h : Kt ad A s H) : Kt ad A U H := by
  obtain ⟨h1, ⟨h2, h3⟩, ⟨h4, h5, h6, h7⟩, h8, h9, g1, g2, g3⟩ := h
  exact ⟨fun w hw => nestW_w hW w hw (h1 w hw), ⟨va_Z.moved hW.alike h2, va_T.moved hW.alike h3⟩, ⟨vk_S.moved hW.alike h4, vk_R.warm hW h5, vk_R.warm hW h6, vk_R.warm hW h7⟩, va_Z.moved hW.alike h8, va_Zq.moved hW.alike h9, va_AO.moved hW.alike g1, va_AO.moved hW.alike g2, va_AO.moved hW.alike g3⟩
theorem Kt.kept {ad : Nat → Nat} {A : Nat → Prop} {U : State} {H H1 : Heap} (hq : ∀ a : Nat, a < H.size → ¬ A a → H1[a]? = H[a]?) (h : Kt ad A U H) : Kt ad A U H1 := by
  obtain ⟨h1, ⟨h2, h3⟩, ⟨h4, h5⟩, h8, h9, g1, g2, g3⟩ := h
  exact ⟨h1, ⟨h2.kept hq, h3.kept hq⟩, ⟨h4.kept hq, h5⟩, h8.kept hq, h9.kept hq, g1, g2, g3⟩
theorem Kt.narrow {ad : Nat → Nat} {A B : Nat → Prop} {U : State} {H : Heap} (hAB : ∀ q, B q → A q) (h : Kt ad A U H) : Kt ad B U H := by
  obtain ⟨h1, ⟨h2, h3⟩, ⟨h4, h5⟩, h8, h9, g1, g2, g3⟩ := h
  exact ⟨h1, ⟨h2.narrow hAB, h3.narrow hAB⟩, ⟨h4.narrow hAB, h5⟩, h8.narrow hAB, h9.narrow hAB, g1, g2, g3⟩
theorem Kt.cg {ad ad' : Nat → Nat} {A : Nat → Prop} {U : State} {H : Heap} (he : ∀ j, ad' (130 + j) = ad (130 + j)) (h : Kt ad A U H) : Kt ad' A U H := by
  have e1 : (fun j => ad' (130 + j)) = (fun j => ad (130 + j)) := funext he
  have e2 : (fun j => ad' (140 + j)) = (fun j => ad (140 + j)) := funext (fun j => by have := he (10 + j); rw [show 130 + (10 + j) = 140 + j by omega] at this; exact this)
  have e3 : ad' 133 = ad 133 := he 3
  have e4 : ad' 130 = ad 130 := he 0
  have e5 : ad' 131 = ad 131 := he 1
  have e6 : ad' 132 = ad 132 := he 2
  unfold Kt
  rw [e1, e2, e3, e4, e5, e6]
  exact h
theorem Kt.same {ad : Nat → Nat} {A : Nat → Prop} {u U : State} {H : Heap} (hv : u.vm = U.vm) (h : Kt ad A u H) : Kt ad A U H := by
  obtain ⟨h1, ⟨h2, h3⟩, ⟨h4, h5, h6, h7⟩, h8, h9, g1, g2, g3⟩ := h
  have ha : u.vm.Alike U.vm := hv ▸ Vm.Alike.refl u.vm
  have hn : ∀ w ∈ nestW, w.onTables = true := by
    intro w hw
    simp only [nestW, List.mem_cons, List.not_mem_nil, or_false] at hw
    rcases hw with rfl | rfl | rfl | rfl | rfl | rfl | rfl | rfl | rfl <;> rfl
  exact ⟨fun w hw => va_Nw.same (hn w hw) hv (h1 w hw), ⟨va_Z.moved ha h2, va_T.moved ha h3⟩, ⟨vk_S.moved ha h4, vk_R.same hv.symm h5, vk_R.same hv.symm h6, vk_R.same hv.symm h7⟩, va_Z.moved ha h8, va_Zq.moved ha h9, va_AO.moved ha g1, va_AO.moved ha g2, va_AO.moved ha g3⟩
/-- the facts that stand through a method -/
def Cx (Γ : Gm) (Ξ : Gx) (E : Ev) (μ : Md) : Prop :=
  Γ.1.tables.exec = Jvm.exec ∧ Γ.2.2.2.2.2.2.2.2.code = μ.2.1 ∧ Γ.2.2.2.2.2.2.2.2.maxLocals = μ.2.2.1 ∧ Γ.2.2.2.2.2.2.2.1.sig.returnType = μ.2.2.2.1 ∧ Γ.2.2.2.1.vm.findClass μ.1.cls = some Γ.2.2.2.2.1.cls ∧ (∀ w ∈ tT, w.before Γ.2.2.2.2.2.1 Γ.2.2.2.1 = true) ∧ Γ.2.2.2.2.2.2.2.1.locks = false ∧ va_K E.1 vwCl (tys E) Γ.2.2.2.1 ∧ (Eok E ∧ (∀ q, AL E q → Ξ.1 q) ∧ Ξ.2.1 ≤ μ.2.2.2.2.cells ∧ Ξ.2.2 ≤ μ.2.2.2.2.slots) ∧ Ks E Ξ.1 Γ.2.2.2.1 Γ.2.2.2.1.heap
def Qm (E : Ev) (rv : Option Value) (σ : St) : Array Value → State → Outcome → State → Prop := fun _ st oc t => (oc = .returned rv ∧ va_P E.1 vwCl (WS E σ) t.heap) ∧ va_F (AL E) st t
/-- the machine at a place follows the pure text; Q r is what is due behind its answer r -/
def Sim {ρ : Type} (Q : ρ → State → Prop) (Γ : Gm) (Ξ : Gx) (E : Ev) (μ : Md) (σ : St) (pc : Nat) (lv : List (Nat × Value)) (st : List Value) (o : Option ρ) : Prop :=
  Cx Γ Ξ E μ → ∀ r : ρ, o = some r → ∀ (ls : Array Slot) (H : Heap) (locs : List Loc), lv_has ls μ.2.2.1 lv → va_P E.1 vwCl (WS E σ) H → va_S Ξ.1 Γ.2.2.2.1.heap H locs →
    W Γ.1 Γ.2.1 Γ.2.2.1 μ.2.2.2.2 Γ.2.2.2.1 Γ.2.2.2.2.1 Γ.2.2.2.2.2.1 Γ.2.2.2.2.2.2.1 Γ.2.2.2.2.2.2.2.1 Γ.2.2.2.2.2.2.2.2 H locs Ξ.2.1 Ξ.2.2 (Q r) (F0 Γ.2.2.2.2.1 pc ls st)
/-- an ordinary method's end: its answer r is told by en, the state then by fs -/
def qM {ρ : Type} (en : ρ → Option Value) (fs : ρ → St) (Γ : Gm) (E : Ev) : ρ → State → Prop := fun r => MQ Γ.2.2.2.2.2.2.1 (Qm E (en r) (fs r)) Γ.2.2.2.2.2.1 Γ.2.2.2.1 0 0 (AL E)
abbrev x0 (E : Ev) : Gx := (AL E, 0, 0)
def PcE (E : Ev) (As : List Value) (σ : St) : Array Value → State → Prop := va_Pc As (fun U => va_P E.1 vwCl (WS E σ) U.heap ∧ va_K E.1 vwCl (tys E) U ∧ Ks E (AL E) U U.heap)
/-- a method's contract: what it answers and what the world is then, if the pure text says so -/
def Ctr {ρ : Type} (l : Launch) (en : ρ → Option Value) (fs : ρ → St) (E : Ev) (μ : Md) (As : List Value) (σ : St) (o : Option ρ) : Prop :=
  Eok E → ∀ r : ρ, o = some r → Met l μ.1 (.code μ.1 μ.2.1 μ.2.2.1 μ.2.2.2.1 :: tT) μ.2.2.2.2 (PcE E As σ) (Qm E (en r) (fs r)) 0 0 (AL E)
def enI (x : Int32) : Option Value := some (.int x)
def enL (x : Int64) : Option Value := some (.long x)
def enV (_ : Unit) : Option Value := none
/-- a cell of a row of objects: Settings 32, 34, ..; Chases 40, 45, .. -/
def enS (E : Ev) (k : Nat) : Option Value := some (rV E (32 + 2 * k))
def enC (E : Ev) (i : Nat) : Option Value := some (rV E (40 + 5 * i))
def en2 {α : Type} (en : α → Option Value) : α × St → Option Value := fun q => en q.1
theorem ctr_of {ρ : Type} {l : Launch} {en : ρ → Option Value} {fs : ρ → St} {E : Ev} {μ : Md} {As : List Value} {σ : St} {o : Option ρ} (hy : plainName μ.1.cls = true) (hn : (lg_sl As).length ≤ μ.2.2.1)
    (h : ∀ Γ : Gm, Sim (qM en fs Γ E) Γ (x0 E) E μ σ 0 (lv_args 0 As) [] o) : Ctr l en fs E μ As σ o := by
  intro hE r ho
  refine Met.ofW (cc := μ.2.1) (maxL := μ.2.2.1) (ret := μ.2.2.2.1) hy rfl ?_
  intro p e s m args below meth c s₁ B hml hv
  obtain ⟨rfl, hP, hK, hKs⟩ := hv
  have hts : ∀ w ∈ tT, w.before As.toArray s = true := fun w hw => atoms_spec (ws := .code μ.1 μ.2.1 μ.2.2.1 μ.2.2.2.1 :: tT) B.pre w (List.mem_cons_of_mem _ hw)
  have hl := lv_entry As hn
  rw [lg_entry_eq]
  exact h (p, l, e, s, m, As.toArray, below, meth, c) ⟨B.exec, B.bytes, hml, B.returns, findClass_of_methodNamed B.named, hts, B.notSynchronized, hK, ⟨hE, fun _ h => h, Nat.zero_le _, Nat.zero_le _⟩, hKs⟩ r ho _ s.heap [] hl hP va_S.rf
