section TURN3
variable {σ s : St} {n c l : Nat} {O tx : Nat → Nat} {p : Pl} {k sp h q g : Nat}
def MRest (s2 : St) (v1 v2 x3 : Int32) : Option (Int32 × St) :=
            calP (f_X10_in s2 v2 (-1 : Int32) ((s2.1 100 0) - (1 : Int32))) fun r8 =>
                (if r8 = 0 then
                  some ((-2 : Int32), s2)
                   else
                  jn2 (fun jk11 =>
                    (if v1 = (-1 : Int32) then
                      cal (f_X10_huntOf s2 (s2.1 100 19) (s2.1 100 20) (s2.1 100 21) (s2.1 100 22)) fun r26 s27 =>
                        jk11 s27 r26
                       else
                      cal (f_X10_moved s2 (s2.1 100 19) (s2.1 100 21) x3) fun r28 s29 =>
                        jk11 s29 r28))
                    (fun (s9 : St) (x10 : Int32) => 
                    (if x10 = (-1 : Int32) then
                        some ((-4 : Int32), s9)
                         else
                        MTail s9 x10 v2)))
theorem gvq (v1 : Int32) (i : Nat) : (v1 >>> (((4 : Int32) * nI i) &&& 31)) &&& (15 : Int32) = nI (gv v1 i) := by
  rw [q_4, q_15, q_31, pk_mul, z_and]; exact gv_eq v1 i
theorem tlB_f {v1 : Int32} {i : Nat} (h : ¬ gv v1 i < n) : ∀ m, i < m → tlB n v1 m = false := by
  intro m
  induction m with
  | zero => intro h; omega
  | succ m ih =>
    intro hm
    rw [tlB]
    rcases Nat.lt_succ_iff_lt_or_eq.mp hm with e | rfl
    · rw [ih e]; rfl
    · rw [decide_eq_false h, Bool.and_false]
theorem m_pre (hI : IM σ n O tx l (true, k, sp, h, q, g)) (hk : k < 3) (hh : Sg n (k + 1) h) (hq : q < n) (hb : (plc (dgs (k + 1) h)).testBit q = false) (v1 v2 : Int32) {Q : Int32 × St → Prop} (hbad : ¬ v1 = M1 → tlB n v1 (k + 1) = false → ∀ s2, IM s2 n O tx l (true, k, sp, h, q, g) → Fr (fun x => 100 ≤ x) σ s2 → Q (M2, s2)) (hok : v1 = M1 ∨ tlB n v1 (k + 1) = true → ∀ s2 x, IM s2 n O tx l (true, k, sp, h, q, g) → Fr (fun x => 100 ≤ x) σ s2 → (¬ v1 = M1 → x = nI (tlR v1 (k + 1))) → Ok (MRest s2 v1 v2 x) Q) : Ok (f_X10_turn σ v1 v2) Q := by
  have h8 := hI.nm.np.h8
  obtain ⟨a1, a2, a3⟩ := hI.pl
  obtain ⟨b1, b2, b3, b4⟩ := a3 rfl
  have et : f_X10_turn σ v1 v2 = (if (σ.1 100 24) = 0 then some ((-4 : Int32), σ) else cal (f_X10_isCaught σ) fun r1 s2 => (if r1 = 0 then lo2 FU (fun rec5 (x3 : Int32) (x4 : Int32) => jn0 (fun jk7 => (if x4 < (s2.1 100 19) then (if v1 = (-1 : Int32) then jk7 else bd ((v1 >>> (((4 : Int32) * x4) &&& 31)) &&& (15 : Int32)) fun x30 => (if x30 < (s2.1 100 0) then bd (((8 : Int32) * x3) + x30) fun x31 => rec5 x31 (x4 + 1) else some ((-2 : Int32), s2))) else jk7)) (MRest s2 v1 v2 x3)) (0 : Int32) (0 : Int32) else some ((-4 : Int32), s2))) := rfl
  rw [et, show σ.1 100 24 = nI 1 from a1, if_neg (show ¬ nI 1 = 0 by decide)]
  refine ok_cal (m_caught hk b1 b3 b4 hh.1.1 (by show q < 8; omega)) ?_
  rintro r1 s2 ⟨rfl, f2⟩
  rw [show (plc (dgs (k + 1) (true, k, sp, h, q, g).2.2.2.1)).testBit (true, k, sp, h, q, g).2.2.2.2.1 = false from hb, if_pos (show nI false.toNat = 0 from rfl)]
  have i2 : IM s2 n O tx l (true, k, sp, h, q, g) := im_s hI f2 (fun x hx => by omega)
  have fr2 : Fr (fun x => 100 ≤ x) σ s2 := fr_mono f2 (fun x hx => by omega)
  have e19 : s2.1 100 19 = nI (k + 1) := by rw [f2.1 100 (by decide)]; exact b1
  by_cases hv : v1 = M1
  · subst hv
    show Ok (lo2 (999999 + 1) _ _ _) Q
    rw [lo2_S, jn0, e19, if_pos (show (0 : Int32) < nI (k + 1) from nI_lt (a := 0) (by omega) (by omega)), if_pos (show M1 = -1 from rfl)]
    exact hok (Or.inl rfl) s2 _ i2 fr2 (fun w => absurd rfl w)
  · rw [q_0]
    refine lo2_for (fun i x => x = nI (tlR v1 i) ∧ tlB n v1 i = true) (k + 1) ?_ ?_ FU 0 _ (Nat.zero_le _) (fu_lt (by omega)) ⟨rfl, rfl⟩
    · rintro rec i x hi ⟨rfl, i1⟩ kk
      have hg := gv_lt v1 i
      rw [jn0, e19, if_pos (nI_lt hi (by omega)), if_neg (show ¬ v1 = -1 from hv), gvq, bd_s, i2.nm.pl]
      by_cases gn : gv v1 i < n
      · rw [if_pos (nI_lt gn (by omega)), show (8 : Int32) = nI 8 from rfl, pk_mul, nI_add, bd_s, show nI i + 1 = nI (i + 1) from nI_1 i]
        exact kk _ ⟨rfl, by rw [tlB, i1, decide_eq_true gn]; rfl⟩
      · rw [if_neg (nI_nlt (by omega) (by omega))]
        exact ok_some (hbad hv (tlB_f gn _ hi) s2 i2 fr2)
    · rintro rec x ⟨rfl, i1⟩
      rw [jn0, e19, if_neg (nI_nlt (Nat.le_refl _) (by omega))]
      exact hok (Or.inr i1) s2 _ i2 fr2 (fun _ => rfl)
theorem hm_sg (hN : NP n O) (hk : k < 3) {lv : Nat → Nat → Nat} {r out : Nat} (hr : Sg n (k + 1) r) (hm : HM n O sp k lv q r (8 ^ (k + 1)) out) : Sg n (k + 1) out := by
  rcases hm with ⟨rfl, -⟩ | ⟨x, x1, x2, x3, rfl, -⟩
  · rw [hr.2]; exact hr
  · exact sg_srt hk (st_vr hN hk x1 x2)
theorem st_turn (hI : Inv σ n O c tx l p) (hc : c < 100000) (v1 v2 : Int32) {R : Type} {K : St → Option R} {Q : R → Prop} (hK : ∀ t p', Inv t n O c tx l p' → Ok (K t) Q) : Ok (cal (f_X9_turn σ v1 v2) fun r s1 => cal (f_X10_turn s1 v1 v2) fun r2 s2 => if r = r2 then K s2 else none) Q := by
  obtain ⟨on, k, sp, h, q, g⟩ := p
  have hN := hI.1.nc.np
  have h8 := hN.h8
  obtain ⟨a1, a2, a3⟩ := hI.1.pl
  cases on with
  | false =>
    refine both hI (A := fun x => x = M4) (fun x y a b => a.trans b.symm) ?_ (fun t ht' => ?_) hI.2.2 (fun t ht => hK t _ ht)
    · unfold f_X9_turn f_X5_isOn
      rw [show σ.1 13 0 = nI false.toNat from a1, y_ckZ, calP_s, q_0, if_pos b_f0]
      exact ok_some ⟨rfl, hI.1, fr_refl⟩
    · unfold f_X10_turn
      rw [show t.1 100 24 = nI false.toNat from ht'.pl.1, if_pos (show nI false.toNat = 0 from rfl)]
      exact ok_some ⟨rfl, ht', fr_refl⟩
  | true =>
    obtain ⟨hk, s1, s3, hsg, hq⟩ := hI.2.2 rfl
    replace hk : k < 3 := hk
    replace s1 : 1 ≤ sp := s1
    replace s3 : sp ≤ 3 := s3
    replace hsg : Sg n (k + 1) h := hsg
    replace hq : q < n := hq
    obtain ⟨b1, b2, b3, b4⟩ := a3 rfl
    replace b1 : σ.1 13 1 = nI (k + 1) := b1
    replace b2 : σ.1 13 2 = nI sp := b2
    replace b3 : σ.1 13 3 = nI h := b3
    replace b4 : σ.1 13 4 = nI q := b4
    have hh1 := hsg.1.1
    have h512 := p8_le k hk
    have hd : (3 * k + sp - 1) / 3 = k := by omega
    cases hb : (plc (dgs (k + 1) h)).testBit q with
    | true =>
      refine both hI (A := fun x => x = M4) (fun x y a b => a.trans b.symm) ?_ (fun t ht' => ?_) hI.2.2 (fun t ht => hK t _ ht)
      · unfold f_X9_turn f_X5_isOn
        rw [show σ.1 13 0 = nI true.toNat from a1, y_ckZ, calP_s, q_0, if_neg b_t0, e_caught hI.1.st hk b1 b3 b4 hh1 (by omega), calP_s, hb, if_neg b_t0]
        exact ok_some ⟨rfl, hI.1, fr_refl⟩
      · obtain ⟨m1, m2, m3⟩ := ht'.pl
        obtain ⟨o1, o2, o3, o4⟩ := m3 rfl
        unfold f_X10_turn
        rw [show t.1 100 24 = nI 1 from m1, if_neg (show ¬ nI 1 = 0 by decide)]
        refine ok_cal (m_caught hk o1 o3 o4 hh1 (by show q < 8; omega)) ?_
        rintro r1 s2 ⟨rfl, f2⟩
        rw [show (plc (dgs (k + 1) (true, k, sp, h, q, g).2.2.2.1)).testBit (true, k, sp, h, q, g).2.2.2.2.1 = true from hb, if_neg (show ¬ nI true.toNat = 0 by decide)]
        exact ok_some ⟨rfl, im_s ht' f2 (fun x hx => by omega), fr_mono f2 (fun x hx => by omega)⟩
    | false =>
      obtain ⟨lv, hl⟩ := hl_ex hN hk sp
      have cpre : f_X9_turn σ v1 v2 = jn0 (fun jk5 => (if v1 = M1 then jk5 else calP (f_X6_told σ k v1) fun r20 => (if r20 = M1 then some (M2, σ) else jk5)))
                  (jn0 (fun jk6 => (if v2 = M1 then jk6 else calP (f_X3_known σ v2) fun r19 => (if r19 = nI 0 then some (M2, σ) else jk6)))
                      (cal (f_X9_settingBehind σ v1) fun r7 s8 =>
                          (if r7 = M1 then some (M4, s8) else
                            calP (f_X5_place s8) fun r9 =>
                              calP (f_X6_holds s8 k r7 r9) fun r10 =>
                                jn2 (fun jk13 => (if r10 = nI 0 then cal (f_X9_placeBehind s8 r7 v2) fun r16 s17 => jk13 s17 r16 else calP (f_X5_place s8) fun r18 => jk13 s8 r18))
                                  (fun (s11 : St) (x12 : Int32) => (if x12 = M1 then some (M4, s11) else cal (f_X5_go s11 r7 x12) fun _ s14 => calP (f_X9_isCaught s14) fun r15 => (if r15 = nI 0 then some (nI 0, s14) else some (nI 1, s14))))))) := by
        unfold f_X9_turn f_X5_isOn f_X5_hunters
        rw [show σ.1 13 0 = nI true.toNat from a1, y_ckZ, calP_s, q_0, if_neg b_t0, e_caught hI.1.st hk b1 b3 b4 hh1 (by omega), calP_s, hb, if_pos b_f0, b1, calP_s, e_sets hk, calP_s, ckN_s _ hk]
        rfl
      rw [cpre]
      by_cases hv1 : ¬ v1 = M1 ∧ tlB n v1 (k + 1) = false
      · refine both hI (A := fun x => x = M2) (fun x y a b => a.trans b.symm) ?_ (fun t ht' => ?_) hI.2.2 (fun t ht => hK t _ ht)
        · rw [jn0, if_neg hv1.1, e_told hI.1.st hI.1.nc.z hk, calP_s, hv1.2, if_neg (show ¬ false = true by decide), if_pos rfl]
          exact ok_some ⟨rfl, hI.1, fr_refl⟩
        · exact m_pre ht' hk hsg hq hb v1 v2 (fun _ _ s2 i2 f2 => ⟨rfl, i2, f2⟩) (fun w => by
            rcases w with w | w
            · exact absurd w hv1.1
            · rw [hv1.2] at w; cases w)
      · have hv1' : v1 = M1 ∨ (¬ v1 = M1 ∧ tlB n v1 (k + 1) = true) := by
          by_cases w : v1 = M1
          · exact Or.inl w
          · right
            refine ⟨w, ?_⟩
            cases e : tlB n v1 (k + 1) with
            | true => rfl
            | false => exact absurd ⟨w, e⟩ hv1
        have cp1 : ∀ X : Option (Int32 × St), jn0 (fun jk5 => (if v1 = M1 then jk5 else calP (f_X6_told σ k v1) fun r20 => (if r20 = M1 then some (M2, σ) else jk5))) X = X := by
          intro X
          rw [jn0]
          rcases hv1' with w | ⟨w1, w2⟩
          · rw [if_pos w]
          · have := (tlR_vr h8 w2).1
            rw [if_neg w1, e_told hI.1.st hI.1.nc.z hk, calP_s, w2, if_pos rfl, if_neg (nI_mm (by omega))]
        have mok : v1 = M1 ∨ tlB n v1 (k + 1) = true := hv1'.imp id (fun w => w.2)
        rw [cp1]
        rcases in_m1 (v := v2) hN.h1 h8 with ⟨hv2, mv2⟩ | ⟨hv2, hv3, mv2⟩
        · have cp2 : ∀ X : Option (Int32 × St), jn0 (fun jk6 => (if v2 = M1 then jk6 else calP (f_X3_known σ v2) fun r19 => (if r19 = nI 0 then some (M2, σ) else jk6))) X = X := by
            intro X
            rw [jn0]
            rcases hv2 with w | ⟨q2, w1, rfl⟩
            · rw [if_pos w]
            · rw [if_neg (nI_mm (by omega)), e_known hI.1.nc.z (by omega), calP_s, decide_eq_true w1, if_neg b_t0]
          rw [cp2]
          have hAM : ∀ h2, Sg n (k + 1) h2 → (plc (dgs (k + 1) h2)).testBit q = false → ∃ a, AM (flB O (plc (dgs (k + 1) h2)) sp (2 ^ q)) (lv h2) n a := by
            intro h2 w1 w2
            obtain ⟨⟨i, s4⟩, -, rfl, cx, ct, ic, fr⟩ := e_chase hI.1 hc hk s1 s3
            obtain ⟨r6, -, a, -, ha⟩ := e_bestFlight cx (by rw [hd]; exact hl) ct (r := h2) (p := q) (by rw [hd]; exact w1.1) hq (by rw [hd]; exact (plc_mem hk (by omega)).mp w2)
            rw [hd] at ha
            exact ⟨a, ha⟩
          have dich : ∀ h2, Sg n (k + 1) h2 → (∃ fl, fl < n ∧ FLq n O sp k lv h2 q v2 fl) ∨ FLn n O sp k h2 q v2 := by
            intro h2 w1
            cases w2 : (plc (dgs (k + 1) h2)).testBit q with
            | true => exact Or.inl ⟨q, hq, Or.inl ⟨w2, rfl⟩⟩
            | false =>
              rcases hv2 with w | ⟨q2, y1, y2⟩
              · obtain ⟨a, ha⟩ := hAM h2 w1 w2
                exact Or.inl ⟨a, ha.1, Or.inr ⟨w2, ha.1, ha.2.1, Or.inl ⟨w, ha⟩⟩⟩
              · cases w3 : (flB O (plc (dgs (k + 1) h2)) sp (2 ^ q)).testBit q2 with
                | true => exact Or.inl ⟨q2, y1, Or.inr ⟨w2, y1, w3, Or.inr y2⟩⟩
                | false => exact Or.inr ⟨w2, q2, y1, y2, w3⟩
          have mrest : ∀ (t : St) (A : Int32 → Prop) (P : St → Prop), IM t n O tx l (true, k, sp, h, q, g) → (∀ s2 x, IM s2 n O tx l (true, k, sp, h, q, g) → Fr (fun x => 100 ≤ x) t s2 → (¬ v1 = M1 → x = nI (tlR v1 (k + 1))) → Ok (jn2 (fun jk11 => (if v1 = (-1 : Int32) then cal (f_X10_huntOf s2 (nI (k + 1)) (nI sp) (nI h) (nI q)) fun r26 s27 => jk11 s27 r26 else cal (f_X10_moved s2 (nI (k + 1)) (nI h) x) fun r28 s29 => jk11 s29 r28)) (fun (s9 : St) (x10 : Int32) => (if x10 = (-1 : Int32) then some ((-4 : Int32), s9) else MTail s9 x10 v2))) (fun x => A x.1 ∧ P x.2 ∧ Fr (fun x => 100 ≤ x) t x.2)) → Ok (f_X10_turn t v1 v2) (fun x => A x.1 ∧ P x.2 ∧ Fr (fun x => 100 ≤ x) t x.2) := by
            intro t A P it hh
            refine m_pre it hk hsg hq hb v1 v2 (fun w1 w2 => absurd ⟨w1, w2⟩ hv1) (fun _ s2 x i2 f2 hx => ?_)
            obtain ⟨m1, m2, m3⟩ := i2.pl
            obtain ⟨o1, o2, o3, o4⟩ := m3 rfl
            unfold MRest
            rw [i2.nm.pl, show (nI n - (1 : Int32)) = nI (n - 1) from pk_sub hN.h1, show f_X10_in s2 v2 (-1 : Int32) (nI (n - 1)) = some (nI 1) from mv2 s2, calP_s, if_neg (show ¬ nI 1 = 0 by decide), show s2.1 100 19 = nI (k + 1) from o1, show s2.1 100 20 = nI sp from o2, show s2.1 100 21 = nI h from o3, show s2.1 100 22 = nI q from o4]
            exact hh s2 x i2 f2 hx
          -- the setting to which the hunters go, on both sides
          have go : ∀ h2, Sg n (k + 1) h2 → Ok (f_X9_settingBehind σ v1) (fun x => x.1 = nI h2 ∧ IC x.2 n O c tx l (true, k, sp, h, q, g) ∧ Fr (fun x => x < 100) σ x.2) → (∀ s2 x (K2 : St → Int32 → Option (Int32 × St)) (Q2 : Int32 × St → Prop), IM s2 n O tx l (true, k, sp, h, q, g) → (¬ v1 = M1 → x = nI (tlR v1 (k + 1))) → (∀ s9, IM s9 n O tx l (true, k, sp, h, q, g) → Fr (fun x => 100 ≤ x) s2 s9 → Ok (K2 s9 (nI h2)) Q2) → Ok (jn2 (fun jk11 => (if v1 = (-1 : Int32) then cal (f_X10_huntOf s2 (nI (k + 1)) (nI sp) (nI h) (nI q)) fun r26 s27 => jk11 s27 r26 else cal (f_X10_moved s2 (nI (k + 1)) (nI h) x) fun r28 s29 => jk11 s29 r28)) K2) Q2) → Ok (cal (cal (f_X9_settingBehind σ v1) fun r7 s8 =>
                          (if r7 = M1 then some (M4, s8) else
                            calP (f_X5_place s8) fun r9 =>
                              calP (f_X6_holds s8 k r7 r9) fun r10 =>
                                jn2 (fun jk13 => (if r10 = nI 0 then cal (f_X9_placeBehind s8 r7 v2) fun r16 s17 => jk13 s17 r16 else calP (f_X5_place s8) fun r18 => jk13 s8 r18))
                                  (fun (s11 : St) (x12 : Int32) => (if x12 = M1 then some (M4, s11) else cal (f_X5_go s11 r7 x12) fun _ s14 => calP (f_X9_isCaught s14) fun r15 => (if r15 = nI 0 then some (nI 0, s14) else some (nI 1, s14)))))) fun r s1 => cal (f_X10_turn s1 v1 v2) fun r2 s2 => if r = r2 then K s2 else none) Q := by
            intro h2 w1 w2 w3
            have hh2 := w1.1.1
            rcases dich h2 w1 with ⟨fl, y1, y2⟩ | y
            · refine both hI (A := fun x => x = nI ((plc (dgs (k + 1) h2)).testBit q).toNat) (p' := (true, k, sp, h2, fl, g + 1)) (fun x y a b => a.trans b.symm) ?_ (fun t ht' => ?_) (fun _ => ⟨hk, s1, s3, w1, y1⟩) (fun t ht => hK t _ ht)
              · refine ok_cal w2 ?_
                rintro r7 s8 ⟨rfl, i1, i2⟩
                rw [if_neg (nI_mm (by omega))]
                refine ok_mono (e_turnB i1 hc hk s1 s3 hq hl w1 y2) ?_
                rintro x ⟨x1, x2, x3⟩
                exact ⟨x1, x2, fr_trans i2 x3⟩
              · refine mrest t (fun x => x = nI ((plc (dgs (k + 1) h2)).testBit q).toNat) (fun x => IM x n O tx l (true, k, sp, h2, fl, g + 1)) ht' (fun s2 x i2 f2 hx => w3 s2 x _ _ i2 hx (fun s9 i9 f9 => ?_))
                rw [if_neg (show ¬ nI h2 = -1 from nI_mm (by omega))]
                refine ok_mono (m_tail i9 hk s1 s3 hq hl w1 y2) ?_
                rintro x ⟨x1, x2, x3⟩
                exact ⟨x1, x2, fr_trans f2 (fr_trans f9 x3)⟩
            · refine both hI (A := fun x => x = M4) (fun x y a b => a.trans b.symm) ?_ (fun t ht' => ?_) hI.2.2 (fun t ht => hK t _ ht)
              · refine ok_cal w2 ?_
                rintro r7 s8 ⟨rfl, i1, i2⟩
                rw [if_neg (nI_mm (by omega))]
                refine ok_mono (e_turnX i1 hc hk s1 s3 hq w1 y) ?_
                rintro x ⟨x1, x2, x3⟩
                exact ⟨x1, x2, fr_trans i2 x3⟩
              · refine mrest t (fun x => x = M4) (fun x => IM x n O tx l (true, k, sp, h, q, g)) ht' (fun s2 x i2 f2 hx => w3 s2 x _ _ i2 hx (fun s9 i9 f9 => ?_))
                rw [if_neg (show ¬ nI h2 = -1 from nI_mm (by omega))]
                refine ok_mono (m_tailX i9 hk s1 s3 hq w1 y) ?_
                rintro x ⟨x1, x2, x3⟩
                exact ⟨x1, x2, fr_trans f2 (fr_trans f9 x3)⟩
          rcases hv1' with rfl | ⟨hn1, ht1⟩
          · have hex : ∃ out, HM n O sp k lv q h (8 ^ (k + 1)) out := by
              obtain ⟨⟨i, s4⟩, -, rfl, cx, ct, ic, fr⟩ := e_chase hI.1 hc hk s1 s3
              obtain ⟨r6, -, a, -, ha⟩ := e_bestMove cx (by rw [hd]; exact hl) ct (r := h) (p := q) (by rw [hd]; exact hsg.1) hq
              rw [hd] at ha
              exact ⟨a, ha⟩
            obtain ⟨out, ho⟩ := hex
            have hosg := hm_sg hN hk hsg ho
            refine go out hosg ?_ (fun s2 x K2 Q2 i2 _ hK2 => ?_)
            · unfold f_X9_settingBehind f_X5_hunters f_X5_speed f_X5_setting f_X5_place
              rw [b1, calP_s, e_sets hk, calP_s, ckN_s _ hk, if_pos (show M1 = -1 from rfl), calP_s, b2, calP_s]
              refine ok_cal (e_chase hI.1 hc hk s1 s3) ?_
              rintro i s6 ⟨rfl, cx, ct, ic, fr⟩
              obtain ⟨m1, m2, m3⟩ := ic.pl
              obtain ⟨o1, o2, o3, o4⟩ := m3 rfl
              rw [ckN_s _ (by omega), show s6.1 13 3 = nI h from o3, calP_s, show s6.1 13 4 = nI q from o4, calP_s]
              refine ok_calP (e_bestMove cx (by rw [hd]; exact hl) ct (by rw [hd]; exact hsg.1) hq) ?_
              rintro r9 ⟨o', rfl, hm⟩
              rw [hd] at hm
              exact ok_some ⟨by rw [hm_fun hm ho], ic, fr_mono fr (fun x hx => hx.2)⟩
            · rw [jn2, if_pos (show M1 = -1 from rfl)]
              refine ok_cal (m_huntOfI i2 hk s1 s3 hl hsg hq) ?_
              rintro r26 s27 ⟨⟨o', rfl, hm⟩, j1, j2⟩
              rw [hm_fun hm ho]
              exact hK2 s27 j1 (fm_ge j2 (fun x hx => by omega))
          · have htl := tlR_vr h8 ht1
            have htl1 := htl.1
            cases hst : stB O k h (tlR v1 (k + 1)) (k + 1) with
            | true =>
              refine go (srt (k + 1) (tlR v1 (k + 1))) (sg_srt hk htl) ?_ (fun s2 x K2 Q2 i2 hx hK2 => ?_)
              · unfold f_X9_settingBehind f_X5_hunters f_X5_setting
                rw [b1, calP_s, e_sets hk, calP_s, ckN_s _ hk, if_neg (show ¬ v1 = -1 from hn1), e_told hI.1.st hI.1.nc.z hk, calP_s, ht1, if_pos rfl, b3, calP_s, e_canStep hI.1.st hI.1.nc.z hk hh1 htl1, calP_s, hst, if_neg (show ¬ nI true.toNat = 0 by decide), e_rising hI.1.st hk htl1, calP_s]
                exact ok_some ⟨rfl, hI.1, fr_refl⟩
              · rw [jn2, if_neg (show ¬ v1 = -1 from hn1), hx hn1]
                refine ok_cal (m_moved i2.nm hk hsg.1 htl1) ?_
                rintro r28 s29 ⟨rfl, f29⟩
                rw [hst, if_pos rfl]
                exact hK2 s29 (im_s i2 f29 scr_ok) (fr_sc f29 scr_ok)
            | false =>
              refine both hI (A := fun x => x = M4) (fun x y a b => a.trans b.symm) ?_ (fun t ht' => ?_) hI.2.2 (fun t ht => hK t _ ht)
              · unfold f_X9_settingBehind f_X5_hunters f_X5_setting
                rw [b1, calP_s, e_sets hk, calP_s, ckN_s _ hk, if_neg (show ¬ v1 = -1 from hn1), e_told hI.1.st hI.1.nc.z hk, calP_s, ht1, if_pos rfl, b3, calP_s, e_canStep hI.1.st hI.1.nc.z hk hh1 htl1, calP_s, hst, if_pos (show nI false.toNat = 0 from rfl), cal_s, if_pos (show (-1 : Int32) = M1 from rfl)]
                exact ok_some ⟨rfl, hI.1, fr_refl⟩
              · refine mrest t (fun x => x = M4) (fun x => IM x n O tx l (true, k, sp, h, q, g)) ht' (fun s2 x i2 f2 hx => ?_)
                rw [jn2, if_neg (show ¬ v1 = -1 from hn1), hx hn1]
                refine ok_cal (m_moved i2.nm hk hsg.1 htl1) ?_
                rintro r28 s29 ⟨rfl, f29⟩
                rw [hst, if_neg (show ¬ false = true by decide)]
                dsimp only
                rw [if_pos (show M1 = -1 from rfl)]
                exact ok_some ⟨rfl, im_s i2 f29 scr_ok, fr_trans f2 (fr_sc f29 scr_ok)⟩
        · have hkn : f_X3_known σ v2 = some (nI 0) := by
            rcases place_dich hI.1.nc.z v2 with ⟨q2, w1, w2, -⟩ | ⟨w1, -⟩
            · exact absurd w2 (hv3 q2 w1)
            · exact w1
          refine both hI (A := fun x => x = M2) (fun x y a b => a.trans b.symm) ?_ (fun t ht' => ?_) hI.2.2 (fun t ht => hK t _ ht)
          · rw [jn0, if_neg hv2, hkn, calP_s, if_pos rfl]
            exact ok_some ⟨rfl, hI.1, fr_refl⟩
          · refine m_pre ht' hk hsg hq hb v1 v2 (fun w1 w2 => absurd ⟨w1, w2⟩ hv1) (fun _ s2 x i2 f2 hx => ?_)
            unfold MRest
            rw [i2.nm.pl, show (nI n - (1 : Int32)) = nI (n - 1) from pk_sub hN.h1, show f_X10_in s2 v2 (-1 : Int32) (nI (n - 1)) = some (nI 0) from mv2 s2, calP_s, if_pos (show nI 0 = 0 from rfl)]
            exact ok_some ⟨rfl, i2, f2⟩
end TURN3
