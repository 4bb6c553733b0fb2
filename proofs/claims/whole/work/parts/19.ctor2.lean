/-- final fields, set in their class's constructor -/
def FLc (own : String) (idx ci k : Nat) (ty : FieldType) : Prop := ∃ (C : String) (T : u_T) (N : Nat) (ty0 : Nat → FieldType), vwCl[ci]? = some (C, T, N) ∧ (∀ w ∈ u_ws C T N, w ∈ tT) ∧ (∀ j, j < N → parseFieldDescriptor (T j).2.2.1 = some (ty0 j)) ∧ (∀ a, a < N → ∀ b, b < N → a ≠ b → (T a).2.1 ≠ (T b).2.1) ∧ k < N ∧ Cond.fieldLink own idx (T k).1 (T k).2.1 (T k).2.2.1 ∈ tT ∧ (T k).2.2.2 = true ∧ ty0 k = ty ∧ ci < 11 ∧ (T k).1 = own
def mkr (E : Ev) (a k : Nat) : Ev := (E.1, E.2.1, E.2.2.1, E.2.2.2.1, fun b j => E.2.2.2.2 b j || decide ((b, j) ∈ [(a, k)]))
theorem mkr_n (E : Ev) {a k b j : Nat} (h : ¬ (b = a ∧ j = k)) : (mkr E a k).2.2.2.2 b j = E.2.2.2.2 b j := by
  show (E.2.2.2.2 b j || decide ((b, j) ∈ [(a, k)])) = _
  have : decide ((b, j) ∈ [(a, k)]) = false := by simpa using h
  rw [this, Bool.or_false]
theorem mkr_s (E : Ev) (a k : Nat) : (mkr E a k).2.2.2.2 a k = true := by
  show (E.2.2.2.2 a k || decide ((a, k) ∈ [(a, k)])) = true
  simp
theorem mkr_ext {E : Ev} (hE : Eok E) (hR : Rok E) {a k : Nat} (ha : a ∈ E.2.2.2.1) (hr : rf a k ∈ E.2.2.2.1) (h3 : ft a k = some 3 → 32 ∈ E.2.2.2.1 ∧ 34 ∈ E.2.2.2.1 ∧ 36 ∈ E.2.2.2.1) : Ext E (mkr E a k) [] [(a, k)] := by
  refine ⟨rfl, rfl, fun _ _ => rfl, (List.append_nil _).symm, fun b j => rfl, hE, fun b j h => ?_⟩
  by_cases hq : b = a ∧ j = k
  · obtain ⟨rfl, rfl⟩ := hq
    exact ⟨ha, hr, h3⟩
  · rw [mkr_n E hq] at h
    exact hR b j h
theorem mkr_cont (E : Ev) (σ : St) {a k b : Nat} (h : b ≠ a) : cont (mkr E a k) σ b = cont E σ b := by
  have hq : ∀ j, (mkr E a k).2.2.2.2 b j = E.2.2.2.2 b j := fun j => mkr_n E (fun q => h q.1)
  unfold cont flds fv
  simp only [hq]
  rfl
theorem mkr_flds (E : Ev) {σ σ' : St} {a k t : Nat} {v : Value} (h : ft a k = some t) (hv : fv (mkr E a k) σ' a t k = v) (hn : ∀ j, j ≠ k → σ'.1 a j = σ.1 a j ∧ σ'.2 a j = σ.2 a j) : flds (mkr E a k) σ' a = (flds E σ a).set k v := by
  apply List.ext_getElem?
  intro j
  by_cases hj : j = k
  · subst hj
    rw [List.getElem?_set_self (flds_len E σ h), flds_get _ σ' h, hv]
  · rw [List.getElem?_set_ne (Ne.symm hj)]
    simp only [flds, List.getElem?_mapIdx, fv, (hn j hj).1, (hn j hj).2, mkr_n E (fun q : a = a ∧ j = k => hj q.2)]
    rfl
theorem ws_mkr {E : Ev} {σ σ' : St} {a k p : Nat} (hE : Eok E) (hk : E.2.2.2.1[p]? = some a) (hc : ∀ b, b ≠ a → σ'.1 b = σ.1 b ∧ σ'.2 b = σ.2 b) : (WS E σ).set p (E.2.2.1 a, cont (mkr E a k) σ' a) = WS (mkr E a k) σ' := by
  apply List.ext_getElem?
  intro j
  by_cases hj : j = p
  · subst hj
    have hl : j < E.2.2.2.1.length := (List.getElem?_eq_some_iff.mp hk).1
    rw [List.getElem?_set_self (by simpa [WS] using hl)]
    have : (mkr E a k).2.2.2.1 = E.2.2.2.1 := rfl
    simp only [WS, this, List.getElem?_map, hk]
    rfl
  · rw [List.getElem?_set_ne (Ne.symm hj)]
    have : (mkr E a k).2.2.2.1 = E.2.2.2.1 := rfl
    simp only [WS, this, List.getElem?_map]
    cases hb : E.2.2.2.1[j]? with
    | none => rfl
    | some b =>
      have hba : b ≠ a := by
        intro e
        subst e
        exact hj (nd_inj _ hE.1 _ _ _ hb hk)
      simp only [Option.map_some, mkr_cont E σ' hba, cont_cg E (hc b hba).1 (hc b hba).2]
      rfl
section CROWS2
variable {ρ : Type} {Q : ρ → State → Prop} {Γ : Gm} {Ξ : Gx} {E : Ev} {μ : Md} {σ : St} {pc : Nat} {lv : List (Nat × Value)} {st : List Value} {o : Option ρ}
/-- a final reference field -/
theorem k_putr {own : String} {idx ci k a b : Nat} {ty : FieldType} (lvc : Ev → List (Nat × Value)) (stc : Ev → List Value) (hlv : lv = lvc E) (hst : st = stc E) (hF : FLc own idx ci k ty) (hin : Γ.2.2.2.2.2.2.2.1.name = "<init>") (hown : μ.1.cls = own) (hR : Rok E) (hm : a ∈ E.2.2.2.1) (hrf : rf a k = b) (hmr : b ∈ E.2.2.2.1) (hkd : kd a = ci) (hft : ft a k = some 2) (hn : narrow ty (rV E b) = rV E b) (hfit : fits ty (rV E b) = true) (hd : decode μ.2.1 pc = .ok (.putfield idx, 3))
    (hcg : ∀ E2, Ext E E2 [] [(a, k)] → lvc E2 = lvc E ∧ stc E2 = stc E) (kk : ∀ E2, Ext E E2 [] [(a, k)] → Sim Q Γ Ξ E2 μ σ (pc + 3) (lvc E2) (stc E2) o) : Sim Q Γ Ξ E μ σ pc lv (rV E b :: rV E a :: st) o := by
  subst hlv
  subst hst
  subst hrf
  intro Cc r ho ls H locs hl hP hS
  obtain ⟨hx, hb, hml, hr, hown', hts, hlocks, hK, ⟨hE, hA, hcc, hcs⟩, hKs⟩ := id Cc
  rw [hown] at hown'
  obtain ⟨C, T, N, ty0, h1, h2, h3, h4, h5, h6, h7, h8, h9, h10⟩ := hF
  obtain ⟨q0, hq0, hq⟩ := ws_get σ hm
  rw [cont_o E σ hkd h9] at hq
  refine va_putF (C := C) (T := T) (N := N) (ci := ci) (ty := ty) hx hb hts h2 ty0 h3 h4 hown' hK hP (ws_D hE hA σ) hS q0 hq h1 k h5 (hts _ h6) (fun _ h => h) h7 hin h10 (by rw [h3 k h5, h8]) hn hfit (flds_len E σ hft) hd (fun H1 locs1 hP1 _ hS1 => ?_)
  have hx2 := mkr_ext (k := k) hE hR hm hmr (fun h => by rw [hft] at h; cases h)
  obtain ⟨g1, g2⟩ := hcg _ hx2
  have hv : fv (mkr E a k) σ a 2 k = rV E (rf a k) := by simp only [fv, mkr_s]; rfl
  have hgo := kk _ hx2 (cx_ext (c := Ξ.2.1) (s := Ξ.2.2) Cc hx2 (fun _ _ h => by cases h) hA hcc hcs) r ho ls H1 locs1 (by rw [g1]; exact hl)
  rw [g2] at hgo
  refine hgo ?_ hS1
  rw [← mkr_flds E hft hv (fun _ _ => ⟨rfl, rfl⟩), ← cont_o (mkr E a k) σ hkd h9, ws_mkr hE hq0 (fun _ _ => ⟨rfl, rfl⟩)] at hP1
  exact hP1
/-- the field that holds a Settings by its number, in the constructor -/
theorem k_putS {own C : String} {idx ci k a j : Nat} {K : St → Option ρ} (lvc : Ev → List (Nat × Value)) (stc : Ev → List Value) (hlv : lv = lvc E) (hst : st = stc E) (hF : FL own idx ci k false (.object C)) (hown : μ.1.cls = own) (hR : Rok E) (hm : a ∈ E.2.2.2.1) (hmr : rf a k ∈ E.2.2.2.1) (h333 : 32 ∈ E.2.2.2.1 ∧ 34 ∈ E.2.2.2.1 ∧ 36 ∈ E.2.2.2.1) (hkd : kd a = ci) (hft : ft a k = some 3) (hj : j < 3) (hd : decode μ.2.1 pc = .ok (.putfield idx, 3))
    (hcg : ∀ E2, Ext E E2 [] [(a, k)] → lvc E2 = lvc E ∧ stc E2 = stc E) (kk : ∀ E2 σ1, Ext E E2 [] [(a, k)] → Sim Q Γ Ξ E2 μ σ1 (pc + 3) (lvc E2) (stc E2) (K σ1)) : Sim Q Γ Ξ E μ σ pc lv (rV E (32 + 2 * j) :: rV E a :: st) (bd (setI σ a k (nI j)) K) := by
  subst hlv
  subst hst
  intro Cc r ho ls H locs hl hP hS
  obtain ⟨hx, hb, hml, hr, hown', hts, hlocks, hK, ⟨hE, hA, hcc, hcs⟩, hKs⟩ := id Cc
  rw [hown] at hown'
  obtain ⟨C, T, N, ty0, h1, h2, h3, h4, h5, h6, h7, h8, h9⟩ := hF
  obtain ⟨q0, hq0, hq⟩ := ws_get σ hm
  rw [cont_o E σ hkd h9] at hq
  refine va_put (C := C) (T := T) (N := N) (ci := ci) hx hb hts h2 ty0 h3 h4 hown' hK hP (ws_D hE hA σ) hS q0 hq h1 k h5 (hts _ h6) (fun _ h => h) h7 (by rw [h3 k h5, h8]) rfl rfl (flds_len E σ hft) hd (fun H1 locs1 hP1 _ hS1 => ?_)
  have hx2 := mkr_ext (k := k) hE hR hm hmr (fun _ => h333)
  obtain ⟨g1, g2⟩ := hcg _ hx2
  have hv : fv (mkr E a k) (setI σ a k (nI j)) a 3 k = rV E (32 + 2 * j) := by
    simp only [fv, mkr_s]
    rw [setI_s]
    simp only [upd, if_true]
    rw [nI_clamp (by omega), Nat.mod_eq_of_lt hj]
    rfl
  have hgo := kk _ _ hx2 (cx_ext (c := Ξ.2.1) (s := Ξ.2.2) Cc hx2 (fun _ _ h => by cases h) hA hcc hcs) r ho ls H1 locs1 (by rw [g1]; exact hl)
  rw [g2] at hgo
  refine hgo ?_ hS1
  rw [← mkr_flds (σ := σ) E hft hv (fun i hi => ⟨by rw [setI_s]; simp [upd, hi], rfl⟩), ← cont_o (mkr E a k) (setI σ a k (nI j)) hkd h9, ws_mkr (σ' := setI σ a k (nI j)) hE hq0 (fun b hb => ⟨setI_n σ k _ hb, rfl⟩)] at hP1
  exact hP1
/-- a final int (boolean) field -/
theorem k_putFi {own : String} {idx ci k a : Nat} {ty : FieldType} {x : Int32} {K : St → Option ρ} (hF : FLc own idx ci k ty) (hin : Γ.2.2.2.2.2.2.2.1.name = "<init>") (hown : μ.1.cls = own) (hm : a ∈ E.2.2.2.1) (hkd : kd a = ci) (hft : ft a k = some 0) (hn : narrow ty (.int x) = .int x) (hfit : fits ty (.int x) = true) (hd : decode μ.2.1 pc = .ok (.putfield idx, 3)) (kk : ∀ σ1, Sim Q Γ Ξ E μ σ1 (pc + 3) lv st (K σ1)) : Sim Q Γ Ξ E μ σ pc lv (.int x :: rV E a :: st) (bd (setI σ a k x) K) := by
  intro Cc r ho ls H locs hl hP hS
  obtain ⟨hx, hb, hml, hr, hown', hts, hlocks, hK, ⟨hE, hA, hcc, hcs⟩, hKs⟩ := id Cc
  rw [hown] at hown'
  obtain ⟨C, T, N, ty0, h1, h2, h3, h4, h5, h6, h7, h8, h9, h10⟩ := hF
  obtain ⟨q0, hq0, hq⟩ := ws_get σ hm
  rw [cont_o E σ hkd h9] at hq
  refine va_putF (C := C) (T := T) (N := N) (ci := ci) (ty := ty) hx hb hts h2 ty0 h3 h4 hown' hK hP (ws_D hE hA σ) hS q0 hq h1 k h5 (hts _ h6) (fun _ h => h) h7 hin h10 (by rw [h3 k h5, h8]) hn hfit (flds_len E σ hft) hd (fun H1 locs1 hP1 _ hS1 => ?_)
  refine kk _ Cc r ho ls H1 locs1 hl ?_ hS1
  have hv : fv E (setI σ a k x) a 0 k = .int x := by show Value.int ((setI σ a k x).1 a k) = _; rw [setI_s]; simp [upd]
  rw [← flds_set (σ := σ) E hft hv (fun j hj => ⟨by rw [setI_s]; simp [upd, hj], rfl⟩), ← cont_o E (setI σ a k x) hkd h9, ws_set (σ := σ) (σ' := setI σ a k x) hE hq0 (fun b hb => cont_cg E (setI_n σ k x hb) rfl)] at hP1
  exact hP1
/-- an object into a row of objects -/
theorem k_ast {a b c j n ci t0 : Nat} {i : Int32} {q : vw_C} (lvc : Ev → List (Nat × Value)) (stc : Ev → List Value) (hlv : lv = lvc E) (hst : st = stc E) (hR : Rok E) (hm : a ∈ E.2.2.2.1) (hmb : b ∈ E.2.2.2.1) (hkd : kd a = c) (hc14 : 14 ≤ c) (ht0 : (tys E)[t0]? = some (E.2.1 c, .object q.1)) (hkb : kd b = ci) (hq : vwCl[ci]? = some q) (hn : ln a = n) (hi : i = nI j) (hj : j < n) (hn31 : n < 2 ^ 31) (hrf : rf a j = b) (hft : ft a j = none) (hd : decode μ.2.1 pc = .ok (.aastore, 1))
    (hcg : ∀ E2, Ext E E2 [] [(a, j)] → lvc E2 = lvc E ∧ stc E2 = stc E) (kk : ∀ E2, Ext E E2 [] [(a, j)] → Sim Q Γ Ξ E2 μ σ (pc + 1) (lvc E2) (stc E2) o) : Sim Q Γ Ξ E μ σ pc lv (rV E b :: .int i :: rV E a :: st) o := by
  subst hlv
  subst hst
  subst hn
  subst hi
  subst hrf
  intro Cc r ho ls H locs hl hP hS
  obtain ⟨hx, hb, hml, hr, hown', hts, hlocks, hK, ⟨hE, hA, hcc, hcs⟩, hKs⟩ := id Cc
  obtain ⟨q0, hq0, hqa⟩ := ws_get σ hm
  rw [cont_q E σ hkd hc14] at hqa
  obtain ⟨q1, hq1, hqb⟩ := ws_get σ hmb
  rw [cont_o E σ hkb (vwc_no hq)] at hqb
  refine va_astq hx hb hK hP (ws_D hE hA σ) hS q0 t0 q1 ci hqa ht0 hqb hq (vp_in_nI hj hn31) hd (fun H1 locs1 hP1 _ hS1 => ?_)
  rw [nI_clamp (by omega)] at hP1
  have hx2 := mkr_ext (k := j) hE hR hm hmb (fun h => by rw [hft] at h; cases h)
  obtain ⟨g1, g2⟩ := hcg _ hx2
  have hgo := kk _ hx2 (cx_ext (c := Ξ.2.1) (s := Ξ.2.2) Cc hx2 (fun _ _ h => by cases h) hA hcc hcs) r ho ls H1 locs1 (by rw [g1]; exact hl)
  rw [g2] at hgo
  refine hgo ?_ hS1
  have hco : cont (mkr E a j) σ a = .inl (E.2.1 c, ln a, .inr (.inr (.inr (.inr (va_up (fun j => if E.2.2.2.2 a j = true then some (E.2.2.1 (rf a j)) else none) j (some (E.2.2.1 (rf a j)))))))) := by
    rw [cont_q _ _ hkd hc14]
    congr 7
    funext i
    by_cases e : i = j
    · subst e
      rw [up_s, mkr_s, if_pos rfl]
      rfl
    · rw [up_n _ _ e, mkr_n E (fun q => e q.2)]
      rfl
  rw [← hco, ws_mkr hE hq0 (fun _ _ => ⟨rfl, rfl⟩)] at hP1
  exact hP1
end CROWS2
/-- a constructor's contract -/
def QC (E : Ev) (news : List Nat) (rrs : List (Nat × Nat)) (σ' : St) (sz : Nat) : Array Value → State → Outcome → State → Prop := fun _ st oc t => (oc = .returned none ∧ ∃ E', Ext E E' news rrs ∧ (∀ q, AL E' q → AX E sz q) ∧ va_P E'.1 vwCl (WS E' σ') t.heap) ∧ va_F (AX E sz) st t
def PcX (E : Ev) (As : List Value) (σ : St) (sz : Nat) : Array Value → State → Prop := va_Pc As (fun U => U.heap.size = sz ∧ va_P E.1 vwCl (WS E σ) U.heap ∧ va_K E.1 vwCl (tys E) U ∧ Ks E (AX E sz) U U.heap)
def CtrC (l : Launch) (E : Ev) (μ : Md) (As : List Value) (σ : St) (o : Option St) (news : List Nat) (rrs : List (Nat × Nat)) : Prop :=
  Eok E → Rok E → ∀ r, o = some r → ∀ sz, Met l μ.1 (.code μ.1 μ.2.1 μ.2.2.1 μ.2.2.2.1 :: tT) μ.2.2.2.2 (PcX E As σ sz) (QC E news rrs r sz) μ.2.2.2.2.cells μ.2.2.2.2.slots (AX E sz)
def qC (Γ : Gm) (E : Ev) (news : List Nat) (rrs : List (Nat × Nat)) (sz mc ms : Nat) : St → State → Prop := fun r => MQ Γ.2.2.2.2.2.2.1 (QC E news rrs r sz) Γ.2.2.2.2.2.1 Γ.2.2.2.1 mc ms (AX E sz)
theorem ctrC_of {l : Launch} {E : Ev} {μ : Md} {As : List Value} {σ : St} {o : Option St} {news : List Nat} {rrs : List (Nat × Nat)} (hy : plainName μ.1.cls = true) (hin : μ.1.name = "<init>") (hn : (lg_sl As).length ≤ μ.2.2.1)
    (h : ∀ (Γ : Gm) (sz : Nat), Γ.2.2.2.2.2.2.2.1.name = "<init>" → Eok E → Rok E → (∀ q, Γ.2.2.2.1.heap.size ≤ q → AX E sz q) → Sim (qC Γ E news rrs sz μ.2.2.2.2.cells μ.2.2.2.2.slots) Γ (AX E sz, 0, 0) E μ σ 0 (lv_args 0 As) [] o) : CtrC l E μ As σ o news rrs := by
  intro hE hR r ho sz
  refine Met.ofW (cc := μ.2.1) (maxL := μ.2.2.1) (ret := μ.2.2.2.1) hy rfl ?_
  intro p e s m args below meth c s₁ B hml hv
  obtain ⟨rfl, hsz, hP, hK, hKs⟩ := hv
  have hts : ∀ w ∈ tT, w.before As.toArray s = true := fun w hw => atoms_spec (ws := .code μ.1 μ.2.1 μ.2.2.1 μ.2.2.2.1 :: tT) B.pre w (List.mem_cons_of_mem _ hw)
  have hl := lv_entry As hn
  have hnm : meth.name = "<init>" := by rw [(name_of_methodNamed B.named B.method).1]; exact hin
  rw [lg_entry_eq]
  exact h (p, l, e, s, m, As.toArray, below, meth, c) sz hnm hE hR (fun q hq => Or.inr (by rw [← hsz]; exact hq)) ⟨B.exec, B.bytes, hml, B.returns, findClass_of_methodNamed B.named, hts, B.notSynchronized, hK, ⟨hE, fun _ h => Or.inl h, Nat.zero_le _, Nat.zero_le _⟩, hKs⟩ r ho _ s.heap [] hl hP va_S.rf
theorem k_ret {Γ : Gm} {Ξ : Gx} {E E1 : Ev} {μ : Md} {σ : St} {pc sz mc ms : Nat} {lv : List (Nat × Value)} {news : List Nat} {rrs : List (Nat × Nat)} (hr : μ.2.2.2.1 = none) (hX : Ξ.1 = AX E sz) (hc : Ξ.2.1 = mc) (hs : Ξ.2.2 = ms) (hE : Ext E E1 news rrs) (hd : decode μ.2.1 pc = .ok (.return_, 1)) : Sim (qC Γ E news rrs sz mc ms) Γ Ξ E1 μ σ pc lv [] (some σ) := by
  subst hc
  subst hs
  intro Cc r ho ls H locs hl hP hS
  cases ho
  obtain ⟨hx, hb, hml, hr', hown', hts, hlocks, hK, ⟨hE1, hA, hcc, hcs⟩, hKs⟩ := id Cc
  rw [hX] at hS hA
  exact W.vret hx hb (hr'.trans hr) (fun t ht hW => ⟨⟨rfl, E1, hE, hA, by rw [ht]; exact hP⟩, hS.F ht⟩) hS.2.2 hd hlocks
theorem PcX_blind (E : Ev) (As : List Value) (σ : St) (sz : Nat) : FrameBlind (PcX E As σ sz) := fun a U g mk q => by
  obtain ⟨q0, qz, qP, qK, qs⟩ := q
  exact ⟨q0, qz, qP, va_K.moved (u := U) (U := U.calling g mk a) (Vm.Alike.refl U.vm) qK, Kt.same (u := U) (U := U.calling g mk a) rfl qs⟩
section CCALL
variable {p : Program} {l : Launch} {e : Env} {R : Room} {s : State} {m : MethodId} {args : Array Value} {below : List Frame} {meth : Method} {c : Code} {H : Heap} {locs : List Loc} {cells slots mc ms : Nat} {Q : State → Prop}
variable {pc : Nat} {ls : Array Slot} {rest st0 : List Value} {a : Array Value} {A0 : Nat → Prop} {H0 : Heap} {E : Ev} {σ' : St} {news : List Nat} {rrs : List (Nat × Nat)}
theorem sv_callC (hr : va_Run p l e R s m args below meth c H locs cells slots mc ms (F0 m pc ls st0) rest (QC E news rrs σ' H.size a) (AX E H.size)) (hS : va_S A0 H0 H locs) (hA : ∀ q, AX E H.size q → A0 q)
    (kk : ∀ (E1 : Ev) (H1 : Heap) (locs1 : List Loc), Ext E E1 news rrs → (∀ q, AL E1 q → A0 q) → va_P E1.1 vwCl (WS E1 σ') H1 → va_S A0 H0 H1 locs1 → W p l e R s m args below meth c H1 locs1 (cells + mc) (slots + ms) Q (F0 m (pc + 3) ls rest)) : W p l e R s m args below meth c H locs cells slots Q (F0 m pc ls st0) := by
  intro T hT X
  obtain ⟨v, st₀, t, T', L, h0, X', hL, e1, e2, ⟨⟨hv, E1, hE1, hA1, hb⟩, hz, hk⟩, st⟩ := hr T hT X
  cases hv
  rw [h0] at hz hk
  obtain ⟨t2, a1, b1⟩ := kk E1 T'.heap (locs ++ L) hE1 (fun q hq => hA q (hA1 q hq)) (by rw [e1]; exact hb)
    ⟨Nat.le_trans hS.1 (by rw [e1]; exact hz), fun q h1 h2 => by rw [e1, hk q (Nat.lt_of_lt_of_le h1 hS.1) (fun z => h2 (hA q z))]; exact hS.2.1 q h1 h2, fun q hq => by
      rcases List.mem_append.mp hq with h | h
      · exact hS.2.2 q h
      · exact hA _ (hL q h)⟩ T' rfl X'
  exact ⟨t2, st t2 a1, b1⟩
end CCALL
/-- what a call of a constructor needs to know of it -/
def IF (μ : Md) (np : Nat) : Prop := μ.1.cls ≠ "java/lang/invoke/MethodHandle" ∧ μ.1.cls ≠ "java/lang/invoke/VarHandle" ∧ (parseMethodDescriptor μ.1.desc).map (fun d => d.parameters.length) = some np ∧ Cond.code μ.1 μ.2.1 μ.2.2.1 μ.2.2.2.1 ∈ tT ∧ Cond.initialized μ.1.cls ∈ tT ∧ μ.1.name = "<init>" ∧ Cond.instanceMethod μ.1 ∈ tT ∧ μ.2.2.2.1 = none
section CCALL2
variable {ρ : Type} {Q : ρ → State → Prop} {Γ : Gm} {Ξ : Gx} {E : Ev} {μ μ' : Md} {σ : St} {pc np idx b : Nat} {lv : List (Nat × Value)} {st As rest : List Value} {f : Option St} {K : St → Option ρ} {news : List Nat} {rrs : List (Nat × Nat)}
theorem words_I (hM : IF μ' np) : GoodIn tT (.code μ'.1 μ'.2.1 μ'.2.2.1 μ'.2.2.2.1 :: tT) := tG (fun w hw => by
  rcases List.mem_cons.mp hw with rfl | h
  · exact hM.2.2.2.1
  · exact h)
theorem k_call0 {A : Nat → Prop} {c0 s0 : Nat} (lvc : Ev → List (Nat × Value)) (stc : Ev → List Value) (hlv : lv = lvc E) (hrest : rest = stc E) (hn130 : ∀ b, 130 ≤ b → b ∉ news) (hM : IF μ' np) (hq : ∀ q, Γ.2.2.2.1.heap.size ≤ q → A q) (hRo : Rok E)
    (hlink : Cx Γ (A, c0, s0) E μ → (CallB μ.2.2.2.2 Γ.2.2.2.1 Γ.2.2.2.2.2.1 μ.1.cls idx μ'.1 μ'.2.1 μ'.2.2.1 none (.code μ'.1 μ'.2.1 μ'.2.2.1 μ'.2.2.2.1 :: tT) μ'.2.2.2.2 μ'.2.2.2.2.cells μ'.2.2.2.2.slots np) ∨ ∃ host, va_CN μ.2.2.2.2 Γ.2.2.2.1 Γ.2.2.2.2.2.1 μ.1.cls idx μ'.1 host μ'.2.1 μ'.2.2.1 none (.code μ'.1 μ'.2.1 μ'.2.2.1 μ'.2.2.2.1 :: tT) μ'.2.2.2.2 μ'.2.2.2.2.cells μ'.2.2.2.2.slots np)
    (hC : CtrC Γ.2.1 E μ' (rV E b :: As) σ f news rrs) (hn : As.length = np) (hst : st = As.reverse ++ rV E b :: rest) (hW : (rest.map fun v => v.category).sum ≤ 8) (c1 s1 : Nat) (hc1 : c0 + μ'.2.2.2.2.cells = c1) (hs1 : s0 + μ'.2.2.2.2.slots = s1) (hcell : c1 ≤ μ.2.2.2.2.cells) (hslot : s1 ≤ μ.2.2.2.2.slots) (hd : decode μ.2.1 pc = .ok (.invokespecial idx, 3))
    (hcg : ∀ E2, Ext E E2 news rrs → lvc E2 = lvc E ∧ stc E2 = stc E) (kk : ∀ E2 σ1, Ext E E2 news rrs → Sim Q Γ (A, c1, s1) E2 μ σ1 (pc + 3) (lvc E2) (stc E2) (K σ1)) : Sim Q Γ (A, c0, s0) E μ σ pc lv st (f.bind K) := by
  subst hlv
  subst hrest
  subst hc1
  subst hs1
  intro Cc r ho ls H locs hl hP hS
  obtain ⟨σ1, hf, ho2⟩ := Option.bind_eq_some_iff.mp ho
  obtain ⟨hx, hb, hml, hr', hown', hts, hlocks, hK, ⟨hE, hA, hcc, hcs⟩, hKs⟩ := id Cc
  have hAX : ∀ q, AX E H.size q → A q := fun q h => h.elim (hA q) (fun h => hq q (Nat.le_trans hS.1 h))
  have hpre : PreS Γ.2.2.2.1 H (PcX E (rV E b :: As) σ H.size) (.ref (E.2.2.1 b) :: As) := ⟨PcX_blind E _ σ _, fun U hU hW => ⟨rfl, by rw [hU], by rw [hU]; exact hP, va_K.moved hW.alike hK, by rw [hU]; exact ((Kt.kept hS.2.1 hKs).warm hW).narrow hAX⟩⟩
  have hrun : va_Run Γ.1 Γ.2.1 Γ.2.2.1 μ.2.2.2.2 Γ.2.2.2.1 Γ.2.2.2.2.1 Γ.2.2.2.2.2.1 Γ.2.2.2.2.2.2.1 Γ.2.2.2.2.2.2.2.1 Γ.2.2.2.2.2.2.2.2 H locs c0 s0 μ'.2.2.2.2.cells μ'.2.2.2.2.slots (F0 Γ.2.2.2.2.1 pc ls st) (stc E) (QC E news rrs σ1 H.size (Value.ref (E.2.2.1 b) :: As).toArray) (AX E H.size) := by
    rcases hlink Cc with h | ⟨host, h⟩
    · exact va_runI (As := As) (rest := stc E) (b := E.2.2.1 b) ⟨hx, hb, hml, hown', hts⟩ (hC hE hRo σ1 hf H.size) ⟨h, hM.2.2.2.2.2.1, hts _ hM.2.2.2.2.2.2.1⟩ hpre rfl hn hl.1 hst (lv_room hW) hd ⟨hcell, hslot⟩
    · exact va_runIN (As := As) (rest := stc E) (b := E.2.2.1 b) ⟨hx, hb, hml, hown', hts⟩ (hC hE hRo σ1 hf H.size) ⟨h, hM.2.2.2.2.2.1, hts _ hM.2.2.2.2.2.2.1⟩ hpre rfl hn hl.1 hst (lv_room hW) hd ⟨hcell, hslot⟩
  refine sv_callC hrun hS hAX (fun E1 H1 locs1 hx2 hA1 hP1 hS1 => ?_)
  obtain ⟨g1, g2⟩ := hcg _ hx2
  have hgo := kk E1 σ1 hx2 (cx_ext Cc hx2 hn130 hA1 hcell hslot) r ho2 ls H1 locs1 (by rw [g1]; exact hl) hP1 hS1
  rw [g2] at hgo
  exact hgo
theorem k_call {A : Nat → Prop} {c0 s0 : Nat} (lvc : Ev → List (Nat × Value)) (stc : Ev → List Value) (hlv : lv = lvc E) (hrest : rest = stc E) (hn130 : ∀ b, 130 ≤ b → b ∉ news) (hM : IF μ' np) (hq : ∀ q, Γ.2.2.2.1.heap.size ≤ q → A q) (hRo : Rok E) (hL : Cond.methodLink μ.1.cls idx μ'.1 ∈ tT) (hR : rOk μ.2.2.2.2 μ'.2.2.2.2 μ'.2.2.1 = true)
    (hC : CtrC Γ.2.1 E μ' (rV E b :: As) σ f news rrs) (hn : As.length = np) (hst : st = As.reverse ++ rV E b :: rest) (hW : (rest.map fun v => v.category).sum ≤ 8) (c1 s1 : Nat) (hc1 : c0 + μ'.2.2.2.2.cells = c1) (hs1 : s0 + μ'.2.2.2.2.slots = s1) (hcell : c1 ≤ μ.2.2.2.2.cells) (hslot : s1 ≤ μ.2.2.2.2.slots) (hd : decode μ.2.1 pc = .ok (.invokespecial idx, 3))
    (hcg : ∀ E2, Ext E E2 news rrs → lvc E2 = lvc E ∧ stc E2 = stc E) (kk : ∀ E2 σ1, Ext E E2 news rrs → Sim Q Γ (A, c1, s1) E2 μ σ1 (pc + 3) (lvc E2) (stc E2) (K σ1)) : Sim Q Γ (A, c0, s0) E μ σ pc lv st (f.bind K) :=
  k_call0 lvc stc hlv hrest hn130 hM hq hRo (fun Cc => Or.inl (by
    obtain ⟨hx, hb, hml, hr', hown', hts, hlocks, hK, ⟨hE, hA, hcc, hcs⟩, hKs⟩ := id Cc
    exact callB_of np hts (words_I hM) (by rw [hM.2.2.2.2.2.2.2]) rfl rfl (hts _ hM.2.2.2.2.1) (hts _ hL) ⟨hM.1, hM.2.1, hM.2.2.1⟩ (rOk_1 hR))) hC hn hst hW c1 s1 hc1 hs1 hcell hslot hd hcg kk
theorem k_callN {host : String} {A : Nat → Prop} {c0 s0 : Nat} (lvc : Ev → List (Nat × Value)) (stc : Ev → List Value) (hlv : lv = lvc E) (hrest : rest = stc E) (hn130 : ∀ b, 130 ≤ b → b ∉ news) (hM : IF μ' np) (hq : ∀ q, Γ.2.2.2.1.heap.size ≤ q → A q) (hRo : Rok E) (hL : Cond.methodLinkNest μ.1.cls idx μ'.1 host ∈ nestW) (hR : rOk μ.2.2.2.2 μ'.2.2.2.2 μ'.2.2.1 = true)
    (hC : CtrC Γ.2.1 E μ' (rV E b :: As) σ f news rrs) (hn : As.length = np) (hst : st = As.reverse ++ rV E b :: rest) (hW : (rest.map fun v => v.category).sum ≤ 8) (c1 s1 : Nat) (hc1 : c0 + μ'.2.2.2.2.cells = c1) (hs1 : s0 + μ'.2.2.2.2.slots = s1) (hcell : c1 ≤ μ.2.2.2.2.cells) (hslot : s1 ≤ μ.2.2.2.2.slots) (hd : decode μ.2.1 pc = .ok (.invokespecial idx, 3))
    (hcg : ∀ E2, Ext E E2 news rrs → lvc E2 = lvc E ∧ stc E2 = stc E) (kk : ∀ E2 σ1, Ext E E2 news rrs → Sim Q Γ (A, c1, s1) E2 μ σ1 (pc + 3) (lvc E2) (stc E2) (K σ1)) : Sim Q Γ (A, c0, s0) E μ σ pc lv st (f.bind K) :=
  k_call0 lvc stc hlv hrest hn130 hM hq hRo (fun Cc => Or.inr ⟨host, by
    obtain ⟨hx, hb, hml, hr', hown', hts, hlocks, hK, ⟨hE, hA, hcc, hcs⟩, hKs⟩ := id Cc
    exact va_cnB np hts (words_I hM) (by rw [hM.2.2.2.2.2.2.2]) rfl rfl (hKs.1 _ hL) (hts _ hM.2.2.2.2.1) ⟨hM.1, hM.2.1, hM.2.2.1⟩ (rOk_1 hR)⟩) hC hn hst hW c1 s1 hc1 hs1 hcell hslot hd hcg kk
end CCALL2
section KNOWN
variable {ρ : Type} {Q : ρ → State → Prop} {Γ : Gm} {Ξ : Gx} {E : Ev} {μ : Md} {σ : St} {pc : Nat} {lv : List (Nat × Value)} {st : List Value} {o : Option ρ}
theorem s_no : Sim Q Γ Ξ E μ σ pc lv st none := fun _ _ h => by cases h
theorem s_icmp_gtT {x y : Int32} {off : Int} (tgt : Nat) (h : y < x) (hd : decode μ.2.1 pc = .ok (.if_icmp .gt off, 3)) (ht : (pc : Int) + off = (tgt : Int)) (k : Sim Q Γ Ξ E μ σ tgt lv st o) : Sim Q Γ Ξ E μ σ pc lv (.int y :: .int x :: st) o :=
  s_eq (o' := if y < x then o else none) (by rw [if_pos h]) (s_icmp_gt tgt hd ht k s_no)
theorem s_icmp_gtF {x y : Int32} {off : Int} (tgt : Nat) (h : ¬ y < x) (hd : decode μ.2.1 pc = .ok (.if_icmp .gt off, 3)) (ht : (pc : Int) + off = (tgt : Int)) (k : Sim Q Γ Ξ E μ σ (pc + 3) lv st o) : Sim Q Γ Ξ E μ σ pc lv (.int y :: .int x :: st) o :=
  s_eq (o' := if y < x then none else o) (by rw [if_neg h]) (s_icmp_gt tgt hd ht s_no k)
end KNOWN
theorem xmN {E E' : Ev} {n : List Nat} {r : List (Nat × Nat)} {b : Nat} (h : Ext E E' n r) (hb : b ∈ n) : b ∈ E'.2.2.2.1 := by rw [h.2.2.2.1]; exact List.mem_append_right _ hb
theorem xmO {E E' : Ev} {n : List Nat} {r : List (Nat × Nat)} {b : Nat} (h : Ext E E' n r) (hb : b ∈ E.2.2.2.1) : b ∈ E'.2.2.2.1 := by rw [h.2.2.2.1]; exact List.mem_append_left _ hb
theorem xfN {E E' : Ev} {n : List Nat} {r : List (Nat × Nat)} {b : Nat} (h : Ext E E' n r) (hb : b ∉ E.2.2.2.1) (hn : b ∉ n) : b ∉ E'.2.2.2.1 := by
  rw [h.2.2.2.1, List.mem_append]
  exact fun q => q.elim hb hn
theorem xrN {E E' : Ev} {n : List Nat} {r : List (Nat × Nat)} {b k : Nat} (h : Ext E E' n r) (hb : (b, k) ∈ r) : E'.2.2.2.2 b k = true := by rw [h.2.2.2.2.1]; simp [hb]
theorem xaN {E E' : Ev} {n : List Nat} {r : List (Nat × Nat)} (h : Ext E E' n r) (b : Nat) (hb : b ∉ n) : E'.2.2.1 b = E.2.2.1 b := h.2.2.1 b hb
theorem xeN {E E' : Ev} {n : List Nat} {r : List (Nat × Nat)} (h : Ext E E' n r) : Eok E' := h.2.2.2.2.2.1
theorem xoN {E E' : Ev} {n : List Nat} {r : List (Nat × Nat)} (h : Ext E E' n r) : Rok E' := h.2.2.2.2.2.2
section WID
variable {ρ : Type} {Q : ρ → State → Prop} {Γ : Gm} {A : Nat → Prop} {c s c' s' : Nat} {E : Ev} {μ : Md} {σ : St} {pc : Nat} {lv : List (Nat × Value)} {st : List Value} {o : Option ρ}
theorem k_wid (c' s' : Nat) (h1 : c ≤ c') (h2 : s ≤ s') (h3 : c' ≤ μ.2.2.2.2.cells) (h4 : s' ≤ μ.2.2.2.2.slots) (k : Sim Q Γ (A, c', s') E μ σ pc lv st o) : Sim Q Γ (A, c, s) E μ σ pc lv st o := by
  intro Cc r ho ls H locs hl hP hS
  obtain ⟨hx, hb, hml, hr, hown', hts, hlocks, hK, ⟨hE, hA, hcc, hcs⟩, hKs⟩ := id Cc
  exact W.widen h1 h2 (k ⟨hx, hb, hml, hr, hown', hts, hlocks, hK, ⟨hE, hA, h3, h4⟩, hKs⟩ r ho ls H locs hl hP hS)
/-- one object out of a row of objects, by its number -/
theorem k_aald {Ξ : Gx} {a n j t0 c : Nat} {i : Int32} {C : String} (hm : a ∈ E.2.2.2.1) (hkd : kd a = c) (hc : 14 ≤ c) (ht : (tys E)[t0]? = some (E.2.1 c, .object C)) (hn : ln a = n) (hi : i = nI j) (hj : j < n) (hn31 : n < 2 ^ 31) (hrr : E.2.2.2.2 a j = true) (b : Nat) (hrf : rf a j = b) (hd : decode μ.2.1 pc = .ok (.aaload, 1)) (kk : Sim Q Γ Ξ E μ σ (pc + 1) lv (rV E b :: st) o) : Sim Q Γ Ξ E μ σ pc lv (.int i :: rV E a :: st) o := by
  subst hn
  subst hi
  subst hrf
  intro Cc r ho ls H locs hl hP hS
  obtain ⟨hx, hb, hml, hr, hown', hts, hlocks, hK, ⟨hE, hA, hcc, hcs⟩, hKs⟩ := id Cc
  obtain ⟨q0, hq0, hq⟩ := ws_get σ hm
  rw [cont_q E σ hkd hc] at hq
  refine va_aldq hx hb hK hP q0 t0 hq ht (vp_in_nI hj hn31) hd ?_
  rw [nI_clamp (by omega), hrr]
  exact kk Cc r ho ls H locs hl hP hS
end WID
/-- the net's cells, and its references -/
def NetF (E : Ev) : Prop := 1 ∈ E.2.2.2.1 ∧ 2 ∈ E.2.2.2.1 ∧ 3 ∈ E.2.2.2.1 ∧ 4 ∈ E.2.2.2.1 ∧ 5 ∈ E.2.2.2.1 ∧ E.2.2.2.2 1 2 = true ∧ E.2.2.2.2 1 3 = true ∧ E.2.2.2.2 1 4 = true ∧ E.2.2.2.2 1 5 = true
