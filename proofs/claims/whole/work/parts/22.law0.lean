/-! THE CLAIM OUT OF ONE WALK OF THE LAW'S BODY. Your part is whole_start (and what it stands on); all else here is the same for every law, but numbers. -/
def R_law : String := "RunnerNetLaw"
def lw_P (b : Addr) (xs : List Int32) (args : Array Value) (s : State) : Prop := args = #[.ref b] ∧ s.IntsAt b xs ∧ xs.length ≤ 2560 ∧ (Jvm.Cond.and given_1 narrow_1).before args s = true
def lw_Q (_ : Array Value) (s : State) (o : Outcome) (t : State) : Prop := o = .returned (some (.int 1)) ∧ Framed s o t [] 600000 7302250
def lw_Z (below : List Frame) (a : Array Value) (s : State) : State → Prop := fun t => ∃ o, t.status = .running ∧ Ended t below o ∧ lw_Q a s o t
/-- the law's own end, with 1 on the stack, nothing written that was there before, its room as the claim has it -/
theorem lw_ret {p : Program} {l : Launch} {e : Env} {s : State} {m : MethodId} {below : List Frame} {meth : Method} {c : Code} {b : Nat} (hx : p.tables.exec = Jvm.exec) (hb : c.code = code) (hr : meth.sig.returnType = ret) (hlocks : meth.locks = false) {pc : Nat} {H : Heap} {ls : Array Slot} (hdg : decode code pc = .ok (.ireturn, 1)) : W p l e room_1 s m #[Value.ref b] below meth c H [] 600000 7302250 (lw_Z below #[Value.ref b] s) (F0 m pc ls [.int 1]) := by
  intro T hT X
  obtain ⟨fs, hret, hrun, hended, hW, hframe⟩ := X.leave (v := some (.int 1)) (hlocks := hlocks) (fun h => by rw [hr] at h; cases h)
  have hmeth' : T.vm.method? m = some meth := X.method'
  refine ⟨T.setFrames fs, ?_, .returned (some (.int 1)), hrun, hended, rfl, ⟨_, rfl⟩, hW, hframe⟩
  jvm_step X.here [X.here.top, hx, hb, hdg, hmeth', hr, ret, narrow_b1]
  (try refine ⟨rfl, ?_⟩); (try refine ⟨rfl, ?_⟩)
  first | (intro acts; rw [hret _ acts rfl rfl rfl]) | rw [hret _ _ rfl rfl rfl]
  exact Steps.refl _
/-- what holds at the law's entry: the machine, the code, the tables' words (any of lw_tbl by 'hts w (by decide +kernel)'), the script of L ints xs at the cell b, what the Statement gives of the start (any of its parts by flat_of_before) -/
def lw_At (p : Program) (s : State) (m : MethodId) (meth : Method) (c : Code) (b L : Nat) (xs : Nat → Int32) : Prop :=
  p.tables.exec = Jvm.exec ∧ c.code = code ∧ meth.sig.returnType = ret ∧ c.maxLocals = 4 ∧ s.vm.findClass R_law = some m.cls ∧ (∀ w ∈ lw_tbl, w.before #[Value.ref b] s = true) ∧ va_X b L xs s s.heap ∧ b < s.heap.size ∧ meth.locks = false ∧ (Jvm.Cond.and given_1 narrow_1).before #[Value.ref b] s = true
def fullE (E : Ev) : Ev := (E.1, E.2.1, E.2.2.1, E.2.2.2.1, fun _ _ => true)
theorem fullE_P {E : Ev} {σ : St} {H : Heap} (hc : ∀ a, a ∈ E.2.2.2.1 → (∀ k t, ft a k = some t → 2 ≤ t → E.2.2.2.2 a k = true) ∧ (14 ≤ kd a → ∀ j, j < ln a → E.2.2.2.2 a j = true)) (hP : va_P E.1 vwCl (WS E σ) H) : va_P (fullE E).1 vwCl (WS (fullE E) σ) H := by
  intro k q hk
  have hL : (fullE E).2.2.2.1 = E.2.2.2.1 := rfl
  simp only [WS, hL, List.getElem?_map] at hk
  cases hb : E.2.2.2.1[k]? with
  | none => rw [hb] at hk; cases hk
  | some a =>
    rw [hb] at hk
    cases hk
    have h0 := hP k (E.2.2.1 a, cont E σ a) (by simp [WS, hb])
    obtain ⟨h1, h2⟩ := hc a (List.mem_of_getElem? hb)
    by_cases hq : 14 ≤ kd a
    · rw [cont_q E σ rfl hq] at h0
      show va_at _ _ (E.2.2.1 a, cont (fullE E) σ a) H
      rw [cont_q (fullE E) σ rfl hq]
      refine Eq.trans h0 ?_
      show some (vp_cell (E.2.1 (kd a)) (ln a, .inr (.inr (.inr (.inr _))))) = some (vp_cell (E.2.1 (kd a)) (ln a, .inr (.inr (.inr (.inr _)))))
      rw [vp_cell_q, vp_cell_q]
      congr 1
      simp only [arrV]
      congr 1
      apply Array.ext_getElem?
      intro j
      simp only [Array.getElem?_ofFn]
      by_cases hj : j < ln a
      · simp only [hj, dif_pos]
        rw [h2 hq j hj]
        rfl
      · simp only [hj, dif_neg, not_false_iff]
    · have he : cont (fullE E) σ a = cont E σ a := by
        have hf : flds (fullE E) σ a = flds E σ a := by
          apply List.ext_getElem?
          intro i
          simp only [flds, List.getElem?_mapIdx]
          cases ht : (FTs.getD (kd a) [])[i]? with
          | none => rfl
          | some t =>
            simp only [Option.map_some, fv]
            by_cases h0 : t = 0
            · simp [h0]
            by_cases h1' : t = 1
            · simp [h1']
            rw [h1 i t ht (by omega)]
            rfl
        unfold cont
        rw [hf]
        by_cases c1 : kd a < 11
        · simp only [c1, if_true]
        by_cases c2 : kd a = 12
        · simp only [c2]; rfl
        have c3 : kd a < 14 := by omega
        simp only [c1, c2, c3, if_false, if_true]
        rfl
      show va_at _ _ (E.2.2.1 a, cont (fullE E) σ a) H
      rw [he]
      exact h0
section LROWS
variable {ρ : Type} {Q : ρ → State → Prop} {Γ : Gm} {Ξ : Gx} {E : Ev} {μ : Md} {σ : St} {pc : Nat} {lv : List (Nat × Value)} {st : List Value} {o : Option ρ}
theorem k_full (hc : ∀ a, a ∈ E.2.2.2.1 → (∀ k t, ft a k = some t → 2 ≤ t → E.2.2.2.2 a k = true) ∧ (14 ≤ kd a → ∀ j, j < ln a → E.2.2.2.2 a j = true)) (k : Sim Q Γ Ξ (fullE E) μ σ pc lv st o) : Sim Q Γ Ξ E μ σ pc lv st o := by
  intro Cc r ho ls H locs hl hP hS
  exact k Cc r ho ls H locs hl (fullE_P hc hP) hS
theorem l_sld {b L : Nat} {xs : Nat → Int32} {i : Int32} (hX : va_X b L xs Γ.2.2.2.1 Γ.2.2.2.1.heap) (hbl : b < Γ.2.2.2.1.heap.size) (hbA : ¬ Ξ.1 b) (hd : decode μ.2.1 pc = .ok (.iaload, 1)) (kk : Sim Q Γ Ξ E μ σ (pc + 1) lv (.int (xs i.toNatClampNeg) :: st) o) : Sim Q Γ Ξ E μ σ pc lv (.int i :: .ref b :: st) (ck i L o) := by
  intro Cc r ho ls H locs hl hP hS
  obtain ⟨hi, ho2⟩ := ck_in ho
  obtain ⟨hx, hb, hml, hr, hown', hts, hlocks, hK, ⟨hE, hA, hcc, hcs⟩, hKs⟩ := id Cc
  exact va_sld hx hb hX hbl hbA hS hi hd (kk Cc r ho2 ls H locs hl hP hS)
theorem l_slen {b L : Nat} {xs : Nat → Int32} (hX : va_X b L xs Γ.2.2.2.1 Γ.2.2.2.1.heap) (hbl : b < Γ.2.2.2.1.heap.size) (hbA : ¬ Ξ.1 b) (hd : decode μ.2.1 pc = .ok (.arraylength, 1)) (kk : Sim Q Γ Ξ E μ σ (pc + 1) lv (.int (nI L) :: st) o) : Sim Q Γ Ξ E μ σ pc lv (.ref b :: st) o := by
  intro Cc r ho ls H locs hl hP hS
  obtain ⟨hx, hb, hml, hr, hown', hts, hlocks, hK, ⟨hE, hA, hcc, hcs⟩, hKs⟩ := id Cc
  exact va_slen hx hb hX hbl hbA hS hd (kk Cc r ho ls H locs hl hP hS)
end LROWS
def md_law : Md := (x, code, 4, ret, room_1)
theorem l_ret {Γ : Gm} {c0 s0 b : Nat} {E : Ev} {σ : St} {pc : Nat} {lv : List (Nat × Value)} (hargs : Γ.2.2.2.2.2.1 = #[Value.ref b]) (hc : c0 ≤ 600000) (hs : s0 ≤ 7302250) (hd : decode code pc = .ok (.ireturn, 1)) : Sim (fun (_ : Unit) => lw_Z Γ.2.2.2.2.2.2.1 #[Value.ref b] Γ.2.2.2.1) Γ (fun q => Γ.2.2.2.1.heap.size ≤ q, c0, s0) E md_law σ pc lv [.int 1] (some ()) := by
  intro Cc r ho ls H locs hl hP hS
  obtain ⟨hx, hb, hml, hr, hown', hts, hlocks, hK, ⟨hE, hA, hcc, hcs⟩, hKs⟩ := id Cc
  rw [hargs]
  exact va_forget hS.2.2 (W.widen hc hs (lw_ret hx hb hr hlocks hd))
