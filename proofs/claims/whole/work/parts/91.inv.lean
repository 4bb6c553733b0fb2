/-! what holds between calls -/
def Stl (v : Int32) (c : Nat) : Prop := v = M1 ∨ ∃ c', c' ≤ c ∧ v = nI c'
def ChI (s : St) (n : Nat) (O : Nat → Nat) (c i : Nat) : Prop := s.1 (40 + 5 * i) 2 = nI (i % 3 + 1) ∧ Stl (s.1 (40 + 5 * i) 7) c ∧ (s.1 (40 + 5 * i) 7 = nI c → CT s n O i (i % 3 + 1))
def OrI (s : St) (n : Nat) (O : Nat → Nat) (c : Nat) (b : Bool) : Prop := s.1 (18 + 3 * b.toNat) 1 = nI b.toNat ∧ Stl (s.1 (18 + 3 * b.toNat) 4) c ∧ (s.1 (18 + 3 * b.toNat) 4 = nI c → OT s n O b.toNat b)
def UnI (s : St) (n : Nat) (O : Nat → Nat) (c : Nat) : Prop := Stl (s.1 14 8) c ∧ UV s n O c
def GuI (s : St) (n : Nat) (O : Nat → Nat) (c g : Nat) : Prop := s.1 (26 + 3 * g) 1 = nI g ∧ Stl (s.1 (26 + 3 * g) 4) c ∧ (s.1 (26 + 3 * g) 4 = nI c → GT s g n O)
/-- a play: whether there is one, hunters (less one), speed, setting, place, rounds gone -/
abbrev Pl : Type := Bool × Nat × Nat × Nat × Nat × Nat
def PlC (s : St) (p : Pl) : Prop := s.1 13 0 = nI p.1.toNat ∧ s.1 13 5 = nI p.2.2.2.2.2 ∧ (p.1 = true → s.1 13 1 = nI (p.2.1 + 1) ∧ s.1 13 2 = nI p.2.2.1 ∧ s.1 13 3 = nI p.2.2.2.1 ∧ s.1 13 4 = nI p.2.2.2.2.1)
def PlM (s : St) (p : Pl) : Prop := s.1 100 24 = nI p.1.toNat ∧ s.1 100 23 = nI p.2.2.2.2.2 ∧ (p.1 = true → s.1 100 19 = nI (p.2.1 + 1) ∧ s.1 100 20 = nI p.2.2.1 ∧ s.1 100 21 = nI p.2.2.2.1 ∧ s.1 100 22 = nI p.2.2.2.2.1)
def PlV (n : Nat) (p : Pl) : Prop := p.1 = true → p.2.1 < 3 ∧ 1 ≤ p.2.2.1 ∧ p.2.2.1 ≤ 3 ∧ Sg n (p.2.1 + 1) p.2.2.2.1 ∧ p.2.2.2.2.1 < n
def IC (s : St) (n : Nat) (O : Nat → Nat) (c : Nat) (tx : Nat → Nat) (l : Nat) (p : Pl) : Prop := (NC s n O c) ∧ (ST s) ∧ (TC s tx l) ∧ (∀ i, i < 9 → ChI s n O c i) ∧ (∀ b, OrI s n O c b) ∧ (UnI s n O c) ∧ (∀ g, g < 2 → GuI s n O c g) ∧ (PlC s p)
theorem IC.nc {s : St} {n : Nat} {O : Nat → Nat} {c : Nat} {tx : Nat → Nat} {l : Nat} {p : Pl} (h : IC s n O c tx l p) : NC s n O c := h.1
theorem IC.st {s : St} {n : Nat} {O : Nat → Nat} {c : Nat} {tx : Nat → Nat} {l : Nat} {p : Pl} (h : IC s n O c tx l p) : ST s := h.2.1
theorem IC.tc {s : St} {n : Nat} {O : Nat → Nat} {c : Nat} {tx : Nat → Nat} {l : Nat} {p : Pl} (h : IC s n O c tx l p) : TC s tx l := h.2.2.1
theorem IC.ch {s : St} {n : Nat} {O : Nat → Nat} {c : Nat} {tx : Nat → Nat} {l : Nat} {p : Pl} (h : IC s n O c tx l p) : ∀ i, i < 9 → ChI s n O c i := h.2.2.2.1
theorem IC.or {s : St} {n : Nat} {O : Nat → Nat} {c : Nat} {tx : Nat → Nat} {l : Nat} {p : Pl} (h : IC s n O c tx l p) : ∀ b, OrI s n O c b := h.2.2.2.2.1
theorem IC.un {s : St} {n : Nat} {O : Nat → Nat} {c : Nat} {tx : Nat → Nat} {l : Nat} {p : Pl} (h : IC s n O c tx l p) : UnI s n O c := h.2.2.2.2.2.1
theorem IC.gu {s : St} {n : Nat} {O : Nat → Nat} {c : Nat} {tx : Nat → Nat} {l : Nat} {p : Pl} (h : IC s n O c tx l p) : ∀ g, g < 2 → GuI s n O c g := h.2.2.2.2.2.2.1
theorem IC.pl {s : St} {n : Nat} {O : Nat → Nat} {c : Nat} {tx : Nat → Nat} {l : Nat} {p : Pl} (h : IC s n O c tx l p) : PlC s p := h.2.2.2.2.2.2.2
def RkI (s : St) (n : Nat) (O : Nat → Nat) : Prop := ∀ k sp, k < 3 → 1 ≤ sp → sp ≤ 3 → (s.1 104 (3 * k + sp - 1) = nI 0 ∨ s.1 104 (3 * k + sp - 1) = nI 1) ∧ (s.1 104 (3 * k + sp - 1) = nI 1 → MT s n O k sp)
def FrI (s : St) (n : Nat) (O : Nat → Nat) : Prop := ∀ k, k < 2 → s.1 112 (k + 1) = nI 0 ∨ (s.1 112 (k + 1) = nI 1 ∧ FW n O k (s.1 113 (k + 1)) (s.1 114 (k + 1)))
def GdI (s : St) (n : Nat) (O : Nat → Nat) : Prop := s.1 100 36 = nI 0 ∨ (s.1 100 36 = nI 1 ∧ GZ s n O)
def IM (s : St) (n : Nat) (O : Nat → Nat) (tx : Nat → Nat) (l : Nat) (p : Pl) : Prop := (NM s n O) ∧ (TM s tx l) ∧ (RkI s n O) ∧ (FrI s n O) ∧ (GdI s n O) ∧ (PlM s p)
theorem IM.nm {s : St} {n : Nat} {O : Nat → Nat} {tx : Nat → Nat} {l : Nat} {p : Pl} (h : IM s n O tx l p) : NM s n O := h.1
theorem IM.tm {s : St} {n : Nat} {O : Nat → Nat} {tx : Nat → Nat} {l : Nat} {p : Pl} (h : IM s n O tx l p) : TM s tx l := h.2.1
theorem IM.rk {s : St} {n : Nat} {O : Nat → Nat} {tx : Nat → Nat} {l : Nat} {p : Pl} (h : IM s n O tx l p) : RkI s n O := h.2.2.1
theorem IM.fr {s : St} {n : Nat} {O : Nat → Nat} {tx : Nat → Nat} {l : Nat} {p : Pl} (h : IM s n O tx l p) : FrI s n O := h.2.2.2.1
theorem IM.gd {s : St} {n : Nat} {O : Nat → Nat} {tx : Nat → Nat} {l : Nat} {p : Pl} (h : IM s n O tx l p) : GdI s n O := h.2.2.2.2.1
theorem IM.pl {s : St} {n : Nat} {O : Nat → Nat} {tx : Nat → Nat} {l : Nat} {p : Pl} (h : IM s n O tx l p) : PlM s p := h.2.2.2.2.2
section INV
variable {σ s : St} {n c l : Nat} {O tx : Nat → Nat} {p : Pl}
theorem ch_eq {i : Nat} (h : ChI σ n O c i) (e : ∀ x, 40 + 5 * i ≤ x → x ≤ 44 + 5 * i → s.1 x = σ.1 x) : ChI s n O c i := by
  have e0 := e (40 + 5 * i) (by omega) (by omega)
  have e1 := e (41 + 5 * i) (by omega) (by omega)
  have e2 := e (42 + 5 * i) (by omega) (by omega)
  refine ⟨by rw [e0]; exact h.1, by rw [e0]; exact h.2.1, fun w => ?_⟩
  rw [e0] at w
  have hc := h.2.2 w
  refine ⟨fun r hr => by rw [e2]; exact hc.su r hr, fun r q hr hq => by rw [e1]; exact hc.lv r q hr hq⟩
theorem or_eq {b : Bool} (h : OrI σ n O c b) (e : ∀ x, 18 + 3 * b.toNat ≤ x → x ≤ 20 + 3 * b.toNat → s.1 x = σ.1 x) : OrI s n O c b := by
  have e0 := e (18 + 3 * b.toNat) (by omega) (by omega)
  have e1 := e (19 + 3 * b.toNat) (by omega) (by omega)
  have e2 := e (20 + 3 * b.toNat) (by omega) (by omega)
  refine ⟨by rw [e0]; exact h.1, by rw [e0]; exact h.2.1, fun w => ?_⟩
  rw [e0] at w
  have hc := h.2.2 w
  exact ⟨by rw [e1]; exact hc.1, fun i hi => by rw [e2]; exact hc.2 i hi⟩
theorem un_eq (h : UnI σ n O c) (e : ∀ x, 14 ≤ x → x ≤ 17 → s.1 x = σ.1 x) : UnI s n O c := by
  have e0 := e 14 (by omega) (by omega)
  refine ⟨by rw [e0]; exact h.1, ?_⟩
  obtain ⟨k', h1, h2, h3⟩ := h.2
  refine ⟨k', h1, by rw [e0]; exact h2, fun w => ?_⟩
  rw [e0] at w ⊢
  obtain ⟨a, b⟩ := h3 w
  exact ⟨cr_eq a (by rw [e0]) (by rw [e0]) (e 15 (by omega) (by omega)) (e 16 (by omega) (by omega)) (e 17 (by omega) (by omega)), by rw [e0]; exact b⟩
theorem gu_eq {g : Nat} (h : GuI σ n O c g) (e : ∀ x, 26 + 3 * g ≤ x → x ≤ 28 + 3 * g → s.1 x = σ.1 x ∧ s.2 x = σ.2 x) : GuI s n O c g := by
  have e0 := (e (26 + 3 * g) (by omega) (by omega)).1
  have e1 := (e (27 + 3 * g) (by omega) (by omega)).2
  have e2 := (e (28 + 3 * g) (by omega) (by omega)).2
  refine ⟨by rw [e0]; exact h.1, by rw [e0]; exact h.2.1, fun w => ?_⟩
  rw [e0] at w
  obtain ⟨a, b⟩ := h.2.2 w
  exact ⟨fun T hT => by rw [e2]; exact a T hT, fun S h0 h1 T hT => by rw [e1]; exact b S h0 h1 T hT⟩
theorem pc_eq (h : PlC σ p) (e : s.1 13 = σ.1 13) : PlC s p := by unfold PlC; rw [e]; exact h
theorem tcx_eq (h : TC σ tx l) (e6 : s.1 6 1 = σ.1 6 1) (e7 : s.1 7 = σ.1 7) : TC s tx l := ⟨by rw [e6]; exact h.l, h.h, fun i hi => by rw [e7]; exact h.b i hi, h.u⟩
theorem ic_mk {P : Nat → Prop} (f : Fr P σ s) (h : IC σ n O c tx l p) {tx' : Nat → Nat} {l' : Nat} {p' : Pl} (hN : ∀ x, x ≤ 5 → ¬ P x) (hS : ∀ x, 32 ≤ x → x ≤ 37 → ¬ P x) (hT : TC s tx' l') (hC : ∀ i, i < 9 → (∀ x, 40 + 5 * i ≤ x → x ≤ 44 + 5 * i → ¬ P x) ∨ ChI s n O c i) (hO : ∀ b : Bool, (∀ x, 18 + 3 * b.toNat ≤ x → x ≤ 20 + 3 * b.toNat → ¬ P x) ∨ OrI s n O c b) (hU : (∀ x, 14 ≤ x → x ≤ 17 → ¬ P x) ∨ UnI s n O c) (hG : ∀ g, g < 2 → (∀ x, 26 + 3 * g ≤ x → x ≤ 28 + 3 * g → ¬ P x) ∨ GuI s n O c g) (hL : PlC s p') : IC s n O c tx' l' p' := by
  refine ⟨nc_fr h.nc f hN, st_fr h.st f hS, hT, fun i hi => ?_, fun b => ?_, ?_, fun g hg => ?_, hL⟩
  · rcases hC i hi with w | w
    · exact ch_eq (h.ch i hi) (fun x h1 h2 => f.1 x (w x h1 h2))
    · exact w
  · rcases hO b with w | w
    · exact or_eq (h.or b) (fun x h1 h2 => f.1 x (w x h1 h2))
    · exact w
  · rcases hU with w | w
    · exact un_eq h.un (fun x h1 h2 => f.1 x (w x h1 h2))
    · exact w
  · rcases hG g hg with w | w
    · exact gu_eq (h.gu g hg) (fun x h1 h2 => ⟨f.1 x (w x h1 h2), f.2 x (w x h1 h2)⟩)
    · exact w
/-- nothing of the first side's is written -/
theorem ic_out {P : Nat → Prop} (h : IC σ n O c tx l p) (f : Fr P σ s) (hP : ∀ x, x < 100 → ¬ P x) : IC s n O c tx l p :=
  ic_mk f h (fun x hx => hP x (by omega)) (fun x h1 h2 => hP x (by omega)) (tcx_eq h.tc (by rw [f.1 6 (hP 6 (by omega))]) (f.1 7 (hP 7 (by omega)))) (fun i hi => Or.inl (fun x h1 h2 => hP x (by omega))) (fun b => Or.inl (fun x h1 h2 => hP x (by cases b <;> simp at h2 <;> omega))) (Or.inl (fun x h1 h2 => hP x (by omega))) (fun g hg => Or.inl (fun x h1 h2 => hP x (by omega))) (pc_eq h.pl (f.1 13 (hP 13 (by omega))))
theorem stl_up {v : Int32} (h : Stl v c) : Stl v (c + 1) ∧ (c < 100000 → ¬ v = nI (c + 1)) := by
  rcases h with rfl | ⟨c', h1, rfl⟩
  · exact ⟨Or.inl rfl, fun hc e => nI_mm (by omega) e.symm⟩
  · exact ⟨Or.inr ⟨c', by omega, rfl⟩, fun hc e => by
      have := (nI_eq (a := c') (b := c + 1) (by omega) (by omega)).mp e
      omega⟩
/-- another net: all that was worked out is stale -/
theorem ic_new {P : Nat → Prop} (f : Fr P σ s) (h : IC σ n O c tx l p) (hc : c < 100000) {n' : Nat} {O' : Nat → Nat} {tx' : Nat → Nat} {l' : Nat} {p' : Pl} (hN : NC s n' O' (c + 1)) (hP : ∀ x, 14 ≤ x → ¬ P x) (hT : TC s tx' l') (hL : PlC s p') : IC s n' O' (c + 1) tx' l' p' := by
  refine ⟨hN, st_fr h.st f (fun x h1 h2 => hP x (by omega)), hT, fun i hi => ?_, fun b => ?_, ?_, fun g hg => ?_, hL⟩
  · have hh := h.ch i hi
    have e0 := f.1 (40 + 5 * i) (hP _ (by omega))
    have u := stl_up hh.2.1
    exact ⟨by rw [e0]; exact hh.1, by rw [e0]; exact u.1, fun w => by rw [e0] at w; exact absurd w (u.2 hc)⟩
  · have hh := h.or b
    have e0 := f.1 (18 + 3 * b.toNat) (hP _ (by omega))
    have u := stl_up hh.2.1
    exact ⟨by rw [e0]; exact hh.1, by rw [e0]; exact u.1, fun w => by rw [e0] at w; exact absurd w (u.2 hc)⟩
  · have e0 := f.1 14 (hP _ (by omega))
    have u := stl_up h.un.1
    obtain ⟨k', h1, h2, h3⟩ := h.un.2
    exact ⟨by rw [e0]; exact u.1, k', h1, by rw [e0]; exact h2, fun w => by rw [e0] at w; exact absurd w (u.2 hc)⟩
  · have hh := h.gu g hg
    have e0 := f.1 (26 + 3 * g) (hP _ (by omega))
    have u := stl_up hh.2.1
    exact ⟨by rw [e0]; exact hh.1, by rw [e0]; exact u.1, fun w => by rw [e0] at w; exact absurd w (u.2 hc)⟩
theorem rk_eq (h : RkI σ n O) (e4 : s.1 104 = σ.1 104) (e5 : s.1 105 = σ.1 105) : RkI s n O := fun k sp a b d => by
  obtain ⟨h1, h2⟩ := h k sp a b d
  rw [e4]
  exact ⟨h1, fun w => mt_fr (h2 w) e5⟩
theorem fi_eq (h : FrI σ n O) (e2 : s.1 112 = σ.1 112) (e3 : s.1 113 = σ.1 113) (e4 : s.1 114 = σ.1 114) : FrI s n O := fun k hk => by rw [e2, e3, e4]; exact h k hk
theorem gd_eq (h : GdI σ n O) (e0 : s.1 100 36 = σ.1 100 36) (e1 : s.1 119 = σ.1 119) (e2 : s.1 120 = σ.1 120) : GdI s n O := by
  unfold GdI
  rw [e0]
  rcases h with h | ⟨h1, h2, h3⟩
  · exact Or.inl h
  · exact Or.inr ⟨h1, fun S a b T d => by rw [e1]; exact h2 S a b T d, fun m hm T hT => by rw [e2]; exact h3 m hm T hT⟩
theorem pm_eq (h : PlM σ p) (e : ∀ k, 19 ≤ k → k ≤ 24 → s.1 100 k = σ.1 100 k) : PlM s p := by
  unfold PlM
  rw [e 19 (by decide) (by decide), e 20 (by decide) (by decide), e 21 (by decide) (by decide), e 22 (by decide) (by decide), e 23 (by decide) (by decide), e 24 (by decide) (by decide)]
  exact h
theorem im_mk {P S : Nat → Prop} (f : Fm P S σ s) (h : IM σ n O tx l p) {tx' : Nat → Nat} {l' : Nat} {p' : Pl} (h0 : ¬ S 0) (h1 : ¬ P 101) (hT : TM s tx' l') (hR : (¬ P 104 ∧ ¬ P 105) ∨ RkI s n O) (hF : (¬ P 112 ∧ ¬ P 113 ∧ ¬ P 114) ∨ FrI s n O) (hG : (¬ S 36 ∧ ¬ P 119 ∧ ¬ P 120) ∨ GdI s n O) (hL : PlM s p') : IM s n O tx' l' p' := by
  have e : ∀ x, x ≠ 100 → ¬ P x → s.1 x = σ.1 x := fun x hx hp => f.1.1 x (fun w => w.elim hx hp)
  refine ⟨nm_fm h.nm f h0 h1, hT, ?_, ?_, ?_, hL⟩
  · rcases hR with ⟨a, b⟩ | w
    · exact rk_eq h.rk (e 104 (by decide) a) (e 105 (by decide) b)
    · exact w
  · rcases hF with ⟨a, b, d⟩ | w
    · exact fi_eq h.fr (e 112 (by decide) a) (e 113 (by decide) b) (e 114 (by decide) d)
    · exact w
  · rcases hG with ⟨a, b, d⟩ | w
    · exact gd_eq h.gd (f.2.1 36 a) (e 119 (by decide) b) (e 120 (by decide) d)
    · exact w
theorem im_out {P : Nat → Prop} (h : IM σ n O tx l p) (f : Fr P σ s) (hP : ∀ x, 100 ≤ x → ¬ P x) : IM s n O tx l p := by
  have e : ∀ x, 100 ≤ x → s.1 x = σ.1 x := fun x hx => f.1 x (hP x hx)
  refine ⟨nm_fr h.nm f (hP 100 (by decide)) (hP 101 (by decide)), ⟨by rw [e 100 (by decide)]; exact h.tm.l, h.tm.h, fun i hi => by rw [e 102 (by decide)]; exact h.tm.b i hi, h.tm.u⟩, rk_eq h.rk (e 104 (by decide)) (e 105 (by decide)), fi_eq h.fr (e 112 (by decide)) (e 113 (by decide)) (e 114 (by decide)), gd_eq h.gd (by rw [e 100 (by decide)]) (e 119 (by decide)) (e 120 (by decide)), pm_eq h.pl (fun k _ _ => by rw [e 100 (by decide)])⟩
def Inv (s : St) (n : Nat) (O : Nat → Nat) (c : Nat) (tx : Nat → Nat) (l : Nat) (p : Pl) : Prop := IC s n O c tx l p ∧ IM s n O tx l p ∧ PlV n p
/-- one call of both sides -/
theorem both {R : Type} {f : Option (Int32 × St)} {g : St → Option (Int32 × St)} {K : St → Option R} {Q : R → Prop} {A : Int32 → Prop} {n' c' l' : Nat} {O' tx' : Nat → Nat} {p' : Pl} (hI : Inv σ n O c tx l p) (ha : ∀ x y, A x → A y → x = y) (h1 : Ok f (fun q => A q.1 ∧ IC q.2 n' O' c' tx' l' p' ∧ Fr (fun x => x < 100) σ q.2)) (h2 : ∀ t, IM t n O tx l p → Ok (g t) (fun q => A q.1 ∧ IM q.2 n' O' tx' l' p' ∧ Fr (fun x => 100 ≤ x) t q.2)) (hv : PlV n' p') (hK : ∀ t, Inv t n' O' c' tx' l' p' → Ok (K t) Q) : Ok (cal f fun r s1 => cal (g s1) fun r2 s2 => if r = r2 then K s2 else none) Q := by
  refine ok_cal h1 ?_
  rintro r s1 ⟨a1, a2, a3⟩
  refine ok_cal (h2 s1 (im_out hI.2.1 a3 (fun x hx => by omega))) ?_
  rintro r2 s2 ⟨b1, b2, b3⟩
  rw [if_pos (ha _ _ a1 b1)]
  exact hK s2 ⟨ic_out a2 b3 (fun x hx => by omega), b2, hv⟩
theorem fr_lt {P : Nat → Prop} (f : Fr P σ s) (h : ∀ x, P x → x < 100) : Fr (fun x => x < 100) σ s := fr_mono f h
theorem fm_ge {P S : Nat → Prop} (f : Fm P S σ s) (h : ∀ x, P x → 100 ≤ x) : Fr (fun x => 100 ≤ x) σ s := fr_mono f.1 (fun x hx => hx.elim (fun e => by omega) (h x))
end INV
