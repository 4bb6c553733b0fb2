/-- worlds that grow: references lead to cells that are there -/
def Rok (E : Ev) : Prop := ∀ b k, E.2.2.2.2 b k = true → b ∈ E.2.2.2.1 ∧ rf b k ∈ E.2.2.2.1 ∧ (ft b k = some 3 → 32 ∈ E.2.2.2.1 ∧ 34 ∈ E.2.2.2.1 ∧ 36 ∈ E.2.2.2.1)
def Ext (E E' : Ev) (news : List Nat) (rrs : List (Nat × Nat)) : Prop := E'.1 = E.1 ∧ E'.2.1 = E.2.1 ∧ (∀ b, b ∉ news → E'.2.2.1 b = E.2.2.1 b) ∧ E'.2.2.2.1 = E.2.2.2.1 ++ news ∧ (∀ b k, E'.2.2.2.2 b k = (E.2.2.2.2 b k || decide ((b, k) ∈ rrs))) ∧ Eok E' ∧ Rok E'
theorem Ext.rf {E : Ev} (h : Eok E) (h2 : Rok E) : Ext E E [] [] := ⟨rfl, rfl, fun _ _ => rfl, by simp, fun b k => by simp, h, h2⟩
theorem Ext.trans {E E1 E2 : Ev} {n1 n2 : List Nat} {r1 r2 : List (Nat × Nat)} (h1 : Ext E E1 n1 r1) (h2 : Ext E1 E2 n2 r2) : Ext E E2 (n1 ++ n2) (r1 ++ r2) := by
  obtain ⟨a1, a2, a3, a4, a5, a6, a7⟩ := h1
  obtain ⟨b1, b2, b3, b4, b5, b6, b7⟩ := h2
  refine ⟨b1.trans a1, b2.trans a2, fun b hb => ?_, ?_, fun b k => ?_, b6, b7⟩
  · rw [List.mem_append] at hb
    rw [b3 b (fun z => hb (Or.inr z)), a3 b (fun z => hb (Or.inl z))]
  · rw [b4, a4, List.append_assoc]
  · rw [b5, a5, Bool.or_assoc]
    congr 1
    simp only [List.mem_append, Bool.decide_or]
theorem ne_mem {l : List Nat} {a b : Nat} (ha : a ∉ l) (hb : b ∈ l) : b ≠ a := fun e => ha (e ▸ hb)
theorem dlast {A : Nat → Prop} {ws : va_W} {q : Nat} {c : va_E} (h : va_D A (ws ++ [(q, c)])) : A q := h.2 ws.length (q, c) (by simp)
def zr (σ : St) (a : Nat) : St := (va_up σ.1 a (fun _ => 0), va_up σ.2 a (fun _ => 0))
def AX (E : Ev) (sz : Nat) : Nat → Prop := fun q => AL E q ∨ sz ≤ q
theorem cont_ext {E : Ev} (hR : Rok E) (σ : St) {a b q : Nat} (ha : a ∉ E.2.2.2.1) (hb : b ∈ E.2.2.2.1) : cont (E.1, E.2.1, va_up E.2.2.1 a q, E.2.2.2.1 ++ [a], E.2.2.2.2) (zr σ a) b = cont E σ b := by
  have hba : b ≠ a := fun e => ha (e ▸ hb)
  have e1 : (zr σ a).1 b = σ.1 b := up_n _ _ hba
  have e2 : (zr σ a).2 b = σ.2 b := up_n _ _ hba
  have hn : ∀ {c : Nat}, c ∈ E.2.2.2.1 → va_up E.2.2.1 a q c = E.2.2.1 c := fun {c} hc => up_n _ _ (ne_mem ha hc)
  have hf : flds (E.1, E.2.1, va_up E.2.2.1 a q, E.2.2.2.1 ++ [a], E.2.2.2.2) (zr σ a) b = flds E σ b := by
    apply List.ext_getElem?
    intro k
    simp only [flds, List.getElem?_mapIdx]
    cases ht : (FTs.getD (kd b) [])[k]? with
    | none => rfl
    | some t =>
      have hft : ft b k = some t := ht
      simp only [Option.map_some, fv, rV, e1, e2]
      by_cases hr : E.2.2.2.2 b k = true
      · obtain ⟨-, h2, h3⟩ := hR b k hr
        rw [hn h2]
        by_cases h0 : t = 0
        · simp [h0]
        by_cases h1 : t = 1
        · simp [h1]
        by_cases h22 : t = 2
        · simp [h22]
        simp only [h0, h1, h22, hr, if_false]
        have hall : ∀ u, t = u → ft b k = some u := fun u e => e ▸ hft
        by_cases h33 : t = 3
        · obtain ⟨p1, p2, p3⟩ := h3 (hall 3 h33)
          have hm : (σ.1 b k).toNatClampNeg % 3 < 3 := Nat.mod_lt _ (by decide)
          have : va_up E.2.2.1 a q (32 + 2 * ((σ.1 b k).toNatClampNeg % 3)) = E.2.2.1 (32 + 2 * ((σ.1 b k).toNatClampNeg % 3)) := by
            rcases (show (σ.1 b k).toNatClampNeg % 3 = 0 ∨ (σ.1 b k).toNatClampNeg % 3 = 1 ∨ (σ.1 b k).toNatClampNeg % 3 = 2 by omega) with e | e | e <;> rw [e]
            · exact hn p1
            · exact hn p2
            · exact hn p3
          rw [this]
        · exfalso
          have : ∀ l ∈ FTs, ∀ t ∈ l, t < 4 := by decide
          have hmem : (FTs.getD (kd b) []) ∈ FTs ∨ (FTs.getD (kd b) []) = [] := by
            rw [List.getD_eq_getElem?_getD]
            cases hq : FTs[kd b]? with
            | none => right; rfl
            | some l => left; exact List.mem_of_getElem? hq
          rcases hmem with hm | hm
          · have := this _ hm t (List.mem_of_getElem? ht); omega
          · rw [hm] at ht; simp at ht
      · have hr' : E.2.2.2.2 b k = false := by simpa using hr
        simp [hr']
  have hq : (fun j => if E.2.2.2.2 b j = true then some (va_up E.2.2.1 a q (rf b j)) else none) = (fun j => if E.2.2.2.2 b j = true then some (E.2.2.1 (rf b j)) else none) := by
    funext j
    by_cases hr : E.2.2.2.2 b j = true
    · rw [if_pos hr, if_pos hr, hn (hR b j hr).2.1]
    · rw [if_neg hr, if_neg hr]
  unfold cont
  rw [hf, e1, e2]
  simp only [hq]
theorem ws_ext {E : Ev} (hR : Rok E) (σ : St) {a q : Nat} (ha : a ∉ E.2.2.2.1) : WS (E.1, E.2.1, va_up E.2.2.1 a q, E.2.2.2.1 ++ [a], E.2.2.2.2) (zr σ a) = WS E σ ++ [(q, cont (E.1, E.2.1, va_up E.2.2.1 a q, E.2.2.2.1 ++ [a], E.2.2.2.2) (zr σ a) a)] := by
  simp only [WS, List.map_append, List.map_cons, List.map_nil, up_s]
  congr 1
  apply List.map_congr_left
  intro b hb
  rw [cont_ext hR σ ha hb, up_n _ _ (ne_mem ha hb)]
theorem ext_new {E : Ev} (hE : Eok E) (hR : Rok E) {A : Nat → Prop} {σ : St} {a q : Nat} {c : va_E} (ha : a ∉ E.2.2.2.1) (hD : va_D A (WS E σ ++ [(q, c)])) : Ext E (E.1, E.2.1, va_up E.2.2.1 a q, E.2.2.2.1 ++ [a], E.2.2.2.2) [a] [] := by
  have hq : ∀ b, b ∈ E.2.2.2.1 → E.2.2.1 b ≠ q := by
    intro b hb e
    obtain ⟨k, hk, hw⟩ := ws_get σ hb
    have hl : k < (WS E σ).length := (List.getElem?_eq_some_iff.mp hw).1
    have h1 : (WS E σ ++ [(q, c)])[k]? = some (E.2.2.1 b, cont E σ b) := by rw [List.getElem?_append_left hl]; exact hw
    have h2 : (WS E σ ++ [(q, c)])[(WS E σ).length]? = some (q, c) := by simp
    have := hD.1 k _ _ _ h1 h2 e
    omega
  refine ⟨rfl, rfl, fun b hb => up_n _ _ (by simpa using hb), rfl, fun b k => by simp, ⟨?_, ?_⟩, ?_⟩
  · show (E.2.2.2.1 ++ [a]).Nodup
    rw [List.nodup_append]
    exact ⟨hE.1, by simp, fun x hx y hy e => ha (by simp at hy; rw [← hy, ← e]; exact hx)⟩
  · intro x y hx hy hxy
    replace hx : x ∈ E.2.2.2.1 ++ [a] := hx
    replace hy : y ∈ E.2.2.2.1 ++ [a] := hy
    replace hxy : va_up E.2.2.1 a q x = va_up E.2.2.1 a q y := hxy
    rw [List.mem_append, List.mem_singleton] at hx hy
    rcases hx with hx | rfl <;> rcases hy with hy | rfl
    · rw [up_n _ _ (ne_mem ha hx), up_n _ _ (ne_mem ha hy)] at hxy
      exact hE.2 x y hx hy hxy
    · rw [up_n _ _ (ne_mem ha hx), up_s] at hxy
      exact absurd hxy (hq x hx)
    · rw [up_n _ _ (ne_mem ha hy), up_s] at hxy
      exact absurd hxy.symm (hq y hy)
    · rfl
  · intro b k hr
    obtain ⟨h1, h2, h3⟩ := hR b k hr
    exact ⟨List.mem_append_left _ h1, List.mem_append_left _ h2, fun h => ⟨List.mem_append_left _ (h3 h).1, List.mem_append_left _ (h3 h).2.1, List.mem_append_left _ (h3 h).2.2⟩⟩
theorem tys_eq {E E' : Ev} (h : E'.2.1 = E.2.1) : tys E' = tys E := by simp [tys, h]
theorem vwc_no {ci : Nat} {q : vw_C} (h : vwCl[ci]? = some q) : ci < 11 := by
  have := (List.getElem?_eq_some_iff.mp h).1
  simpa using this
section CROWS
variable {ρ : Type} {Q : ρ → State → Prop} {Γ : Gm} {Ξ : Gx} {E : Ev} {μ : Md} {σ : St} {pc : Nat} {lv : List (Nat × Value)} {st : List Value} {o : Option ρ}
theorem s_objInit {own : String} {idx a : Nat} (hown : μ.1.cls = own) (hw1 : Cond.methodLink own idx objectInit ∈ tT) (hw2 : Cond.instanceMethod objectInit ∈ tT) (hw3 : Cond.code objectInit ⟨#[0xb1]⟩ 1 none ∈ tT) (hR : ((1).ble μ.2.2.2.2.frames && ((st.map fun v => v.category).sum + 12).ble μ.2.2.2.2.locals) = true) (hd : decode μ.2.1 pc = .ok (.invokespecial idx, 3)) (k : Sim Q Γ Ξ E μ σ (pc + 3) lv st o) : Sim Q Γ Ξ E μ σ pc lv (rV E a :: st) o := by
  intro Cc r ho ls H locs hl hP hS
  obtain ⟨hx, hb, hml, hr, hown', hts, hlocks, hK, ⟨hE, hA, hcc, hcs⟩, hKs⟩ := id Cc
  rw [hown] at hown'
  rw [Bool.and_eq_true] at hR
  refine W.objInit hx hb hown' (hts _ hw1) (hts _ hw2) (hts _ hw3) rfl (by rw [hml]; exact hl.1) rfl hd (Nat.le_of_ble_eq_true hR.1) ?_ (k Cc r ho ls H locs hl hP hS)
  show 2 * 0 + _ + 12 ≤ _
  have := Nat.le_of_ble_eq_true hR.2
  omega
/-- what a step to a grown world needs: the world behind it, and the lists told in it -/
theorem cx_ext {E2 : Ev} {news : List Nat} {rrs : List (Nat × Nat)} {c s : Nat} (C : Cx Γ Ξ E μ) (h : Ext E E2 news rrs) (hn : ∀ b, 130 ≤ b → b ∉ news) (hA2 : ∀ q, AL E2 q → Ξ.1 q) (hc : c ≤ μ.2.2.2.2.cells) (hs : s ≤ μ.2.2.2.2.slots) : Cx Γ (Ξ.1, c, s) E2 μ := by
  obtain ⟨hx, hb, hml, hr, hown', hts, hlocks, hK, ⟨hE, hA, hcc, hcs⟩, hKs⟩ := C
  obtain ⟨e1, e2, e3, e4, e5, e6, e7⟩ := h
  refine ⟨hx, hb, hml, hr, hown', hts, hlocks, ?_, ⟨e6, hA2, hc, hs⟩, ?_⟩
  · rw [e1, tys_eq e2]; exact hK
  · exact Kt.cg (fun j => e3 (130 + j) (hn _ (by omega))) hKs
theorem k_new {A : Nat → Prop} {c0 s0 : Nat} {own C : String} {T : u_T} {N ci idx a : Nat} {ty0 : Nat → FieldType} {K : St → Option ρ} (lvc : Ev → List (Nat × Value)) (stc : Ev → List Value) (hlv : lv = lvc E) (hst : st = stc E)
    (hq : ∀ q, Γ.2.2.2.1.heap.size ≤ q → A q) (hR : Rok E) (ha : a ∉ E.2.2.2.1) (ha2 : a < 130) (hkd : kd a = ci) (hc : vwCl[ci]? = some (C, T, N)) (hin : ∀ w ∈ u_ws C T N, w ∈ tT) (hty : ∀ j, j < N → parseFieldDescriptor (T j).2.2.1 = some (ty0 j)) (hfs : ∀ (F : Ev) (τ : St), F.2.2.2.2 a = (fun _ => false) → τ.1 a = (fun _ => 0) → τ.2 a = (fun _ => 0) → ∀ j, j < N → defaultValue (ty0 j) = vp_V (flds F τ a) j) (hown : μ.1.cls = own) (hw1 : Cond.classLink own idx C ∈ tT) (hw2 : Cond.instantiable C N ∈ tT) (hw3 : Cond.initialized C ∈ tT) (c1 s1 : Nat) (hc1 : c0 + 1 = c1) (hs1 : s0 + N = s1) (hcell : c1 ≤ μ.2.2.2.2.cells) (hslot : s1 ≤ μ.2.2.2.2.slots) (hd : decode μ.2.1 pc = .ok (.new idx, 3))
    (hcg : ∀ E2, Ext E E2 [a] [] → lvc E2 = lvc E ∧ stc E2 = stc E) (kk : ∀ E2 σ1, Ext E E2 [a] [] → Sim Q Γ (A, c1, s1) E2 μ σ1 (pc + 3) (lvc E2) (rV E2 a :: stc E2) (K σ1)) : Sim Q Γ (A, c0, s0) E μ σ pc lv st (bd (zr σ a) K) := by
  subst hlv
  subst hst
  subst hc1
  subst hs1
  intro Cc r ho ls H locs hl hP hS
  obtain ⟨hx, hb, hml, hr, hown', hts, hlocks, hK, ⟨hE, hA, hcc, hcs⟩, hKs⟩ := id Cc
  rw [hown] at hown'
  have hci := vwc_no hc
  have hrr : E.2.2.2.2 a = fun _ => false := by
    funext k
    cases h : E.2.2.2.2 a k with
    | false => rfl
    | true => exact absurd (hR a k h).1 ha
  refine va_new (C := C) (T := T) (N := N) (ci := ci) (fs := flds (E.1, E.2.1, E.2.2.1, E.2.2.2.1, E.2.2.2.2) (zr σ a) a) hx hb hts hin ty0 hty hown' (hts _ hw1) (hts _ hw2) (hts _ hw3) hK hP (ws_D hE hA σ) hS hq hc (hfs _ _ hrr (up_s _ _ _) (up_s _ _ _)) hcell hslot hd (fun q H1 hP1 hD1 hS1 => ?_)
  have hx2 := ext_new hE hR ha hD1
  have hfl : flds (E.1, E.2.1, va_up E.2.2.1 a q, E.2.2.2.1 ++ [a], E.2.2.2.2) (zr σ a) a = flds (E.1, E.2.1, E.2.2.1, E.2.2.2.1, E.2.2.2.2) (zr σ a) a := by
    simp only [flds, fv, hrr]
    rfl
  have hco : cont (E.1, E.2.1, va_up E.2.2.1 a q, E.2.2.2.1 ++ [a], E.2.2.2.2) (zr σ a) a = .inr (ci, flds (E.1, E.2.1, E.2.2.1, E.2.2.2.1, E.2.2.2.2) (zr σ a) a) := by rw [cont_o _ _ hkd hci, hfl]
  rw [← hco, ← ws_ext hR σ ha] at hP1
  obtain ⟨g1, g2⟩ := hcg _ hx2
  have hAq : A q := dlast hD1
  have hA2 : ∀ z, AL (E.1, E.2.1, va_up E.2.2.1 a q, E.2.2.2.1 ++ [a], E.2.2.2.2) z → A z := by
    rintro z ⟨b, hb1, rfl⟩
    have hb1 : b ∈ E.2.2.2.1 ++ [a] := hb1
    rw [List.mem_append, List.mem_singleton] at hb1
    rcases hb1 with h | rfl
    · show A (va_up E.2.2.1 a q b)
      rw [up_n _ _ (ne_mem ha h)]; exact hA _ ⟨b, h, rfl⟩
    · show A (va_up E.2.2.1 b q b)
      rw [up_s]; exact hAq
  have hgo := kk _ _ hx2 (cx_ext Cc hx2 (fun b hb => by simp; omega) hA2 hcell hslot) r ho ls H1 locs (by rw [g1]; exact hl) hP1 hS1
  have e0 : (rV (E.1, E.2.1, va_up E.2.2.1 a q, E.2.2.2.1 ++ [a], E.2.2.2.2) a : Value) = .ref q := by show Value.ref (va_up E.2.2.1 a q a) = _; rw [up_s]
  rw [e0, g2] at hgo
  exact hgo
/-- a new array: its kind by c, its first contents by the plan -/
theorem k_newa {A : Nat → Prop} {c0 s0 : Nat} {a c : Nat} {n : Int32} {K : St → Option ρ} {atype : ArrayType} {ty : FieldType} (lvc : Ev → List (Nat × Value)) (stc : Ev → List Value) (hlv : lv = lvc E) (hst : st = stc E)
    (hq : ∀ q, Γ.2.2.2.1.heap.size ≤ q → A q) (hR : Rok E) (ha : a ∉ E.2.2.2.1) (ha2 : a < 130) (hkd : kd a = c) (hcase : (c = 11 ∧ ty = .int) ∨ (c = 12 ∧ ty = .long) ∨ (c = 13 ∧ ty = .boolean)) (hty : newarray.typeOf atype = ty) (hw : Cond.arrayClass (newarray.typeOf atype) ∈ tT) (hn : ¬ n < 0) (hN : n.toNatClampNeg = ln a) (hby : ln a * 8 ≤ 536870912) (c1 s1 : Nat) (hc1 : c0 + 1 = c1) (hs1 : s0 + ln a = s1) (hcell : c1 ≤ μ.2.2.2.2.cells) (hslot : s1 ≤ μ.2.2.2.2.slots) (hd : decode μ.2.1 pc = .ok (.newarray atype, 2))
    (hcg : ∀ E2, Ext E E2 [a] [] → lvc E2 = lvc E ∧ stc E2 = stc E) (kk : ∀ E2 σ1, Ext E E2 [a] [] → Sim Q Γ (A, c1, s1) E2 μ σ1 (pc + 2) (lvc E2) (rV E2 a :: stc E2) (K σ1)) : Sim Q Γ (A, c0, s0) E μ σ pc lv (.int n :: st) (bd (zr σ a) K) := by
  subst hlv
  subst hst
  subst hc1
  subst hs1
  intro Cc r ho ls H locs hl hP hS
  obtain ⟨hx, hb, hml, hr, hown', hts, hlocks, hK, ⟨hE, hA, hcc, hcs⟩, hKs⟩ := id Cc
  have z1 : (zr σ a).1 a = fun _ => 0 := up_s _ _ _
  have z2 : (zr σ a).2 a = fun _ => 0 := up_s _ _ _
  -- the first contents
  obtain ⟨a0, cA0, t0, h0, h1, h2, h3⟩ : ∃ (a0 : vp_A) (cA0 : ClassId) (t0 : Nat), (∀ cA : ClassId, vp_cell cA a0 = arrV cA (ln a) (fun _ => defaultValue ty)) ∧ (∀ q, cont (E.1, E.2.1, va_up E.2.2.1 a q, E.2.2.2.1 ++ [a], E.2.2.2.2) (zr σ a) a = .inl (cA0, a0)) ∧ (tys E)[t0]? = some (cA0, ty) ∧ ln a * componentBytes ty ≤ 536870912 := by
    rcases hcase with ⟨rfl, rfl⟩ | ⟨rfl, rfl⟩ | ⟨rfl, rfl⟩
    · refine ⟨(ln a, .inl (fun _ => 0)), E.2.1 11, 0, fun cA => rfl, fun q => ?_, rfl, ?_⟩
      · rw [cont_i _ _ hkd, z1]
      · show ln a * 4 ≤ _; omega
    · refine ⟨(ln a, .inr (.inl (fun _ => 0))), E.2.1 12, 1, fun cA => rfl, fun q => ?_, rfl, ?_⟩
      · rw [cont_l _ _ hkd, z2]
      · show ln a * 8 ≤ _; omega
    · refine ⟨(ln a, .inl (fun _ => 0)), E.2.1 13, 2, fun cA => rfl, fun q => ?_, rfl, ?_⟩
      · rw [cont_z _ _ hkd, z1]
      · show ln a * 1 ≤ _; omega
  refine va_newa hx hb (hts _ hw) hty hK hP (ws_D hE hA σ) hS hq h0 hn hN h3 hcell hslot hd (fun q cA H1 hK1 hP1 hD1 hS1 => ?_)
  have hcA : cA = cA0 := by
    have k1 := (hK1.2 (tys E).length (cA, ty) (by simp)).2
    have k2 := (hK.2 t0 (cA0, ty) h2).2
    rcases hcase with ⟨-, rfl⟩ | ⟨-, rfl⟩ | ⟨-, rfl⟩ <;> exact Option.some.inj (k1.symm.trans k2)
  subst hcA
  have hx2 := ext_new hE hR ha hD1
  rw [← h1 q, ← ws_ext hR σ ha] at hP1
  obtain ⟨g1, g2⟩ := hcg _ hx2
  have hAq : A q := dlast hD1
  have hA2 : ∀ z, AL (E.1, E.2.1, va_up E.2.2.1 a q, E.2.2.2.1 ++ [a], E.2.2.2.2) z → A z := by
    rintro z ⟨b, hb1, rfl⟩
    have hb1 : b ∈ E.2.2.2.1 ++ [a] := hb1
    rw [List.mem_append, List.mem_singleton] at hb1
    rcases hb1 with h | rfl
    · show A (va_up E.2.2.1 a q b)
      rw [up_n _ _ (ne_mem ha h)]; exact hA _ ⟨b, h, rfl⟩
    · show A (va_up E.2.2.1 b q b)
      rw [up_s]; exact hAq
  have hgo := kk _ _ hx2 (cx_ext Cc hx2 (fun b hb => by simp; omega) hA2 hcell hslot) r ho ls H1 locs (by rw [g1]; exact hl) hP1 hS1
  have e0 : (rV (E.1, E.2.1, va_up E.2.2.1 a q, E.2.2.2.1 ++ [a], E.2.2.2.2) a : Value) = .ref q := by show Value.ref (va_up E.2.2.1 a q a) = _; rw [up_s]
  rw [e0, g2] at hgo
  exact hgo
theorem k_newq {A : Nat → Prop} {c0 s0 : Nat} {own C : String} {a c idx t0 : Nat} {n : Int32} {K : St → Option ρ} (lvc : Ev → List (Nat × Value)) (stc : Ev → List Value) (hlv : lv = lvc E) (hst : st = stc E)
    (hq : ∀ q, Γ.2.2.2.1.heap.size ≤ q → A q) (hR : Rok E) (ha : a ∉ E.2.2.2.1) (ha2 : a < 130) (hkd : kd a = c) (hc14 : 14 ≤ c) (ht0 : (tys E)[t0]? = some (E.2.1 c, .object C)) (hover : Cx Γ (A, c0, s0) E μ → va_AO C Γ.2.2.2.1) (hown : μ.1.cls = own) (hw : Cond.classLink own idx C ∈ tT) (hn : ¬ n < 0) (hN : n.toNatClampNeg = ln a) (hby : ln a * 4 ≤ 536870912) (c1 s1 : Nat) (hc1 : c0 + 1 = c1) (hs1 : s0 + ln a = s1) (hcell : c1 ≤ μ.2.2.2.2.cells) (hslot : s1 ≤ μ.2.2.2.2.slots) (hd : decode μ.2.1 pc = .ok (.anewarray idx, 3))
    (hcg : ∀ E2, Ext E E2 [a] [] → lvc E2 = lvc E ∧ stc E2 = stc E) (kk : ∀ E2 σ1, Ext E E2 [a] [] → Sim Q Γ (A, c1, s1) E2 μ σ1 (pc + 3) (lvc E2) (rV E2 a :: stc E2) (K σ1)) : Sim Q Γ (A, c0, s0) E μ σ pc lv (.int n :: st) (bd (zr σ a) K) := by
  subst hlv
  subst hst
  subst hc1
  subst hs1
  intro Cc r ho ls H locs hl hP hS
  obtain ⟨hx, hb, hml, hr, hown', hts, hlocks, hK, ⟨hE, hA, hcc, hcs⟩, hKs⟩ := id Cc
  rw [hown] at hown'
  have hrr : E.2.2.2.2 a = fun _ => false := by
    funext k
    cases h : E.2.2.2.2 a k with
    | false => rfl
    | true => exact absurd (hR a k h).1 ha
  refine va_newq hx hb hown' (hts _ hw) (hover Cc) hK hP (ws_D hE hA σ) hS hq hn hN hby hcell hslot hd (fun q cA H1 hK1 hP1 hD1 hS1 => ?_)
  have hcA : cA = E.2.1 c := by
    obtain ⟨_, _, _, _, _, k1⟩ := (hK1.2 (tys E).length (cA, .object C) (by simp)).2
    obtain ⟨_, _, _, _, _, k2⟩ := (hK.2 t0 (E.2.1 c, .object C) ht0).2
    exact Option.some.inj (k1.symm.trans k2)
  subst hcA
  have hx2 := ext_new hE hR ha hD1
  have h1 : cont (E.1, E.2.1, va_up E.2.2.1 a q, E.2.2.2.1 ++ [a], E.2.2.2.2) (zr σ a) a = .inl (E.2.1 c, ln a, .inr (.inr (.inr (.inr (fun _ => none))))) := by
    rw [cont_q _ _ hkd hc14]
    simp only [hrr]
    simp
  rw [← h1, ← ws_ext hR σ ha] at hP1
  obtain ⟨g1, g2⟩ := hcg _ hx2
  have hAq : A q := dlast hD1
  have hA2 : ∀ z, AL (E.1, E.2.1, va_up E.2.2.1 a q, E.2.2.2.1 ++ [a], E.2.2.2.2) z → A z := by
    rintro z ⟨b, hb1, rfl⟩
    have hb1 : b ∈ E.2.2.2.1 ++ [a] := hb1
    rw [List.mem_append, List.mem_singleton] at hb1
    rcases hb1 with h | rfl
    · show A (va_up E.2.2.1 a q b)
      rw [up_n _ _ (ne_mem ha h)]; exact hA _ ⟨b, h, rfl⟩
    · show A (va_up E.2.2.1 b q b)
      rw [up_s]; exact hAq
  have hgo := kk _ _ hx2 (cx_ext Cc hx2 (fun b hb => by simp; omega) hA2 hcell hslot) r ho ls H1 locs (by rw [g1]; exact hl) hP1 hS1
  have e0 : (rV (E.1, E.2.1, va_up E.2.2.1 a q, E.2.2.2.1 ++ [a], E.2.2.2.2) a : Value) = .ref q := by show Value.ref (va_up E.2.2.1 a q a) = _; rw [up_s]
  rw [e0, g2] at hgo
  exact hgo
end CROWS
