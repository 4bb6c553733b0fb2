def σ0 : St := (fun _ _ => 0, fun _ _ => 0)
def tmS : Nat → Term := fun i => if i = 0 then .string "RunnerNet$Text" 82 else if i = 1 then .string "RunnerNet$Text" 88 else .string "RunnerNet$Text" 90
theorem lt3 {P : Nat → Prop} (h0 : P 0) (h1 : P 1) (h2 : P 2) : ∀ i, i < 3 → P i := by
  intro i hi
  rcases (show i = 0 ∨ i = 1 ∨ i = 2 by omega) with rfl | rfl | rfl
  · exact h0
  · exact h1
  · exact h2
theorem lt4 {P : Nat → Prop} (h0 : P 0) (h1 : P 1) (h2 : P 2) (h3 : P 3) : ∀ i, i < 4 → P i := by
  intro i hi
  rcases (show i = 0 ∨ i = 1 ∨ i = 2 ∨ i = 3 by omega) with rfl | rfl | rfl | rfl
  · exact h0
  · exact h1
  · exact h2
  · exact h3
theorem arr_p {s : State} {args : Array Value} {ty : FieldType} (h : (Cond.arrayClass ty).before args s = true) (hn : ∀ C, ty ≠ .object C) : ∃ cA, ArrOfT s cA ty ∧ va_RA s cA ty := by
  obtain ⟨cA, kA, comp, h1, h2, h3⟩ := Cond.arrayClass_spec h
  refine ⟨cA, fun n z => ⟨fun k h => (by cases h), kA, h2, comp, h3⟩, ?_⟩
  cases ty <;> first | exact h1 | exact absurd rfl (hn _)
theorem arr_o {s : State} {args : Array Value} {C : String} (h : (Cond.arrayOver (.object C)).before args s = true) : ∃ cA, ArrOfT s cA (.object C) ∧ va_RA s cA (.object C) := by
  obtain ⟨comp, cA, kA, h1, h2, h3, h4, h5⟩ := Cond.arrayOver_spec h
  exact ⟨cA, fun n z => ⟨fun k h => (by cases h), kA, h3, comp, h4⟩, kA, comp, h3, h4, h1, h5⟩
set_option maxRecDepth 20000 in
theorem nest_in : ∀ w ∈ nestW, w ∈ lw_tbl := by decide +kernel
theorem nest_on : ∀ w ∈ nestW, w.onTables = true := by decide +kernel
set_option maxHeartbeats 4000000 in
set_option maxRecDepth 20000 in
/-- what stands at the law's entry and is never written -/
theorem start_K {s : State} {b : Nat} (hts : ∀ w ∈ lw_tbl, w.before #[Value.ref b] s = true) (hgv : (Jvm.Cond.and given_1 narrow_1).before #[Value.ref b] s = true) : ∃ ad : Nat → Nat, Kt ad (fun q => s.heap.size ≤ q) s s.heap := by
  have hA : ∀ a : Nat, a < s.heap.size → ¬ (fun q => s.heap.size ≤ q) a := fun a h => Nat.not_le.mpr h
  have hs := flat_of_before _ hgv
  have hS := vk_Sof (args := #[Value.ref b]) (s := s) (N := 3) (tm := tmS) (len := jsLen) (byt := jsByt) (A := fun q => s.heap.size ≤ q)
    (lt3 (by decide) (by decide) (by decide))
    (lt3 (hs _ (by decide +kernel)) (hs _ (by decide +kernel)) (hs _ (by decide +kernel)))
    (lt3 (hs _ (by decide +kernel)) (hs _ (by decide +kernel)) (hs _ (by decide +kernel)))
    (lt3 (hs _ (by decide +kernel)) (hs _ (by decide +kernel)) (hs _ (by decide +kernel)))
    (lt3 (hs _ (by decide +kernel)) (hs _ (by decide +kernel)) (hs _ (by decide +kernel)))
    (lt3 (lt4 (hs _ (by decide +kernel)) (hs _ (by decide +kernel)) (hs _ (by decide +kernel)) (hs _ (by decide +kernel))) (lt3 (hs _ (by decide +kernel)) (hs _ (by decide +kernel)) (hs _ (by decide +kernel))) (lt3 (hs _ (by decide +kernel)) (hs _ (by decide +kernel)) (hs _ (by decide +kernel))))
    (fun i j hi hj hij => by
      rcases (show i = 0 ∨ i = 1 ∨ i = 2 by omega) with rfl | rfl | rfl <;> rcases (show j = 0 ∨ j = 1 ∨ j = 2 by omega) with rfl | rfl | rfl
      · exact absurd rfl hij
      · exact Or.inl (hs _ (by decide +kernel))
      · exact Or.inl (hs _ (by decide +kernel))
      · exact Or.inr (hs _ (by decide +kernel))
      · exact absurd rfl hij
      · exact Or.inl (hs _ (by decide +kernel))
      · exact Or.inr (hs _ (by decide +kernel))
      · exact Or.inr (hs _ (by decide +kernel))
      · exact absurd rfl hij)
    hA
  obtain ⟨adK, adV, hSS, hev⟩ := hS
  have hLk := va_Tof (args := #[Value.ref b]) (s := s) (tm := .static "RunnerNet$Guards" "LACKS" "[J") (ty := .long) (N := 6) (f := fun j => .long (lackV j)) (A := fun q => s.heap.size ≤ q) (by decide) (hs _ (by decide +kernel)) (va_eqt (hs _ (by decide +kernel))) (fun j hj => by
      rcases (show j = 0 ∨ j = 1 ∨ j = 2 ∨ j = 3 ∨ j = 4 ∨ j = 5 by omega) with rfl | rfl | rfl | rfl | rfl | rfl <;> exact va_eqtl (hs _ (by decide +kernel))) hA
  obtain ⟨tL, htL, hT⟩ := hLk
  have hZ := va_Zof (A := fun q => s.heap.size ≤ q) (hts (.laysStatic "RunnerNet$Guards" "LACKS" "[J") (by decide +kernel)) (hts (.initialized "RunnerNet$Guards") (by decide +kernel)) htL hA
  have hC := va_Zof (A := fun q => s.heap.size ≤ q) (hts (.laysStatic "java/lang/String" "COMPACT_STRINGS" "Z") (by decide +kernel)) (hts (.initialized "java/lang/String") (by decide +kernel)) (va_eqi (z := 1) (hs _ (by decide +kernel))) hA
  have hF := va_Zqof (A := fun q => s.heap.size ≤ q) (hts (.laysStatic "jdk/internal/util/Preconditions" "SIOOBE_FORMATTER" "Ljava/util/function/BiFunction;") (by decide +kernel)) (hts (.initialized "jdk/internal/util/Preconditions") (by decide +kernel)) (hs (.isRef (.static "jdk/internal/util/Preconditions" "SIOOBE_FORMATTER" "Ljava/util/function/BiFunction;")) (by decide +kernel)) hA
  refine ⟨fun j => if j = 133 then tL else if j < 140 then adK (j - 130) else adV (j - 140), ?_⟩
  have e1 : (fun j => (fun j => if j = 133 then tL else if j < 140 then adK (j - 130) else adV (j - 140)) (140 + j)) = adV := by
    funext j
    show (if 140 + j = 133 then tL else if 140 + j < 140 then adK (140 + j - 130) else adV (140 + j - 140)) = adV j
    rw [if_neg (by omega), if_neg (by omega), Nat.add_sub_cancel_left]
  refine ⟨fun w hw => va_Nw.of (nest_on w hw) (hts w (nest_in w hw)), ⟨hZ, hT⟩, ⟨?_, ?_, ?_, ?_⟩, hC, hF, ?_, ?_, ?_⟩
  · rw [e1]
    refine ⟨fun i hi => ?_, fun i j hi hj h => ?_⟩
    · have e2 : (if 130 + i = 133 then tL else if 130 + i < 140 then adK (130 + i - 130) else adV (130 + i - 140)) = adK i := by
        rw [if_neg (by omega), if_pos (by omega), Nat.add_sub_cancel_left]
      have := hSS.1 i hi
      rw [← e2] at this
      exact this
    · have e2 : (if 130 + i = 133 then tL else if 130 + i < 140 then adK (130 + i - 130) else adV (130 + i - 140)) = adK i := by
        rw [if_neg (by omega), if_pos (by omega), Nat.add_sub_cancel_left]
      have e3 : (if 130 + j = 133 then tL else if 130 + j < 140 then adK (130 + j - 130) else adV (130 + j - 140)) = adK j := by
        rw [if_neg (by omega), if_pos (by omega), Nat.add_sub_cancel_left]
      have h : (if 130 + i = 133 then tL else if 130 + i < 140 then adK (130 + i - 130) else adV (130 + i - 140)) = (if 130 + j = 133 then tL else if 130 + j < 140 then adK (130 + j - 130) else adV (130 + j - 140)) := h
      rw [e2, e3] at h
      exact hSS.2 i j hi hj h
  · exact vk_R.of (hts _ (by decide +kernel)) (hev 0 (by decide))
  · exact vk_R.of (hts _ (by decide +kernel)) (hev 1 (by decide))
  · exact vk_R.of (hts _ (by decide +kernel)) (hev 2 (by decide))
  · exact va_AO.of (hts _ (by decide +kernel))
  · exact va_AO.of (hts _ (by decide +kernel))
  · exact va_AO.of (hts _ (by decide +kernel))
set_option maxHeartbeats 4000000 in
set_option maxRecDepth 20000 in
theorem start_E {s : State} {b : Nat} (hts : ∀ w ∈ lw_tbl, w.before #[Value.ref b] s = true) (ad : Nat → Nat) : ∃ E : Ev, E.2.2.1 = ad ∧ E.2.2.2.1 = [] ∧ Eok E ∧ Rok E ∧ va_K E.1 vwCl (tys E) s := by
  obtain ⟨c0, i0, h0⟩ := u_known (C := RX0) (T := TX0) (N := 8) (n := 8) hts (fun w hw => (List.mem_filter.mp (inX0 w hw)).1) (hts (.instantiable RX0 8) (by decide +kernel))
  obtain ⟨c1, i1, h1⟩ := u_known (C := RX1) (T := TX1) (N := 1) (n := 1) hts (fun w hw => (List.mem_filter.mp (inX1 w hw)).1) (hts (.instantiable RX1 1) (by decide +kernel))
  obtain ⟨c2, i2, h2⟩ := u_known (C := RX2) (T := TX2) (N := 5) (n := 5) hts (fun w hw => (List.mem_filter.mp (inX2 w hw)).1) (hts (.instantiable RX2 5) (by decide +kernel))
  obtain ⟨c3, i3, h3⟩ := u_known (C := RX3) (T := TX3) (N := 6) (n := 6) hts (fun w hw => (List.mem_filter.mp (inX3 w hw)).1) (hts (.instantiable RX3 6) (by decide +kernel))
  obtain ⟨c4, i4, h4⟩ := u_known (C := RX4) (T := TX4) (N := 5) (n := 5) hts (fun w hw => (List.mem_filter.mp (inX4 w hw)).1) (hts (.instantiable RX4 5) (by decide +kernel))
  obtain ⟨c5, i5, h5⟩ := u_known (C := RX5) (T := TX5) (N := 6) (n := 6) hts (fun w hw => (List.mem_filter.mp (inX5 w hw)).1) (hts (.instantiable RX5 6) (by decide +kernel))
  obtain ⟨c6, i6, h6⟩ := u_known (C := RX6) (T := TX6) (N := 4) (n := 4) hts (fun w hw => (List.mem_filter.mp (inX6 w hw)).1) (hts (.instantiable RX6 4) (by decide +kernel))
  obtain ⟨c7, i7, h7⟩ := u_known (C := RX7) (T := TX7) (N := 9) (n := 9) hts (fun w hw => (List.mem_filter.mp (inX7 w hw)).1) (hts (.instantiable RX7 9) (by decide +kernel))
  obtain ⟨c8, i8, h8⟩ := u_known (C := RX8) (T := TX8) (N := 10) (n := 10) hts (fun w hw => (List.mem_filter.mp (inX8 w hw)).1) (hts (.instantiable RX8 10) (by decide +kernel))
  obtain ⟨c9, i9, h9⟩ := u_known (C := RX9) (T := TX9) (N := 10) (n := 10) hts (fun w hw => (List.mem_filter.mp (inX9 w hw)).1) (hts (.instantiable RX9 10) (by decide +kernel))
  obtain ⟨c10, i10, h10⟩ := u_known (C := RX10) (T := TX10) (N := 41) (n := 41) hts (fun w hw => (List.mem_filter.mp (inX10 w hw)).1) (hts (.instantiable RX10 41) (by decide +kernel))
  obtain ⟨a11, pa11, qa11⟩ := arr_p (ty := .int) (hts (.arrayClass .int) (by decide +kernel)) (fun C h => by cases h)
  obtain ⟨a12, pa12, qa12⟩ := arr_p (ty := .long) (hts (.arrayClass .long) (by decide +kernel)) (fun C h => by cases h)
  obtain ⟨a13, pa13, qa13⟩ := arr_p (ty := .boolean) (hts (.arrayClass .boolean) (by decide +kernel)) (fun C h => by cases h)
  obtain ⟨a14, pa14, qa14⟩ := arr_o (C := "RunnerNet$Chase") (hts (.arrayOver (.object "RunnerNet$Chase")) (by decide +kernel))
  obtain ⟨a15, pa15, qa15⟩ := arr_o (C := "RunnerNet$Guards") (hts (.arrayOver (.object "RunnerNet$Guards")) (by decide +kernel))
  obtain ⟨a16, pa16, qa16⟩ := arr_o (C := "RunnerNet$Settings") (hts (.arrayOver (.object "RunnerNet$Settings")) (by decide +kernel))
  refine ⟨((fun k => if k = 0 then c0 else if k = 1 then c1 else if k = 2 then c2 else if k = 3 then c3 else if k = 4 then c4 else if k = 5 then c5 else if k = 6 then c6 else if k = 7 then c7 else if k = 8 then c8 else if k = 9 then c9 else c10, fun k => if k = 0 then i0 else if k = 1 then i1 else if k = 2 then i2 else if k = 3 then i3 else if k = 4 then i4 else if k = 5 then i5 else if k = 6 then i6 else if k = 7 then i7 else if k = 8 then i8 else if k = 9 then i9 else i10), fun k => if k = 11 then a11 else if k = 12 then a12 else if k = 13 then a13 else if k = 14 then a14 else if k = 15 then a15 else a16, ad, [], fun _ _ => false), rfl, rfl, ⟨List.nodup_nil, fun x y hx => (by cases hx)⟩, (fun x y h => (by cases h)), ⟨?_, ?_⟩⟩
  · intro k q hq
    match k, hq with
    | 0, hq => cases hq; exact h0
    | 1, hq => cases hq; exact h1
    | 2, hq => cases hq; exact h2
    | 3, hq => cases hq; exact h3
    | 4, hq => cases hq; exact h4
    | 5, hq => cases hq; exact h5
    | 6, hq => cases hq; exact h6
    | 7, hq => cases hq; exact h7
    | 8, hq => cases hq; exact h8
    | 9, hq => cases hq; exact h9
    | 10, hq => cases hq; exact h10
    | k + 11, hq => simp [vwCl] at hq
  · intro k q hq
    match k, hq with
    | 0, hq => cases hq; exact ⟨pa11, qa11⟩
    | 1, hq => cases hq; exact ⟨pa12, qa12⟩
    | 2, hq => cases hq; exact ⟨pa13, qa13⟩
    | 3, hq => cases hq; exact ⟨pa14, qa14⟩
    | 4, hq => cases hq; exact ⟨pa15, qa15⟩
    | 5, hq => cases hq; exact ⟨pa16, qa16⟩
    | k + 6, hq => simp [tys] at hq
/-- the claim rests on the pure text of the law alone -/
theorem whole_of (hm : ∀ (xs : Nat → Int32) (L : Nat), L ≤ 2560 → f_law xs L σ0 = some ()) {p : Program} {e : Env} {s : State} {m : MethodId} {below : List Frame} {meth : Method} {c : Code} (l : Launch) {b L : Nat} {xs : Nat → Int32} (hL : L ≤ 2560) (C0 : lw_At p s m meth c b L xs) : W p l e room_1 s m #[Value.ref b] below meth c s.heap [] 0 0 (lw_Z below #[Value.ref b] s) (entryFrame m ([Value.ref b] : List Value).toArray 4) := by
  obtain ⟨hx, hb, hr, hml, hown, hts, hX, hbl, hlocks, hgv⟩ := id C0
  obtain ⟨ad, hK⟩ := start_K hts hgv
  obtain ⟨E, hE1, hE2, hE3, hE4, hE5⟩ := start_E hts ad
  have hl := lv_entry ([.ref b]) (n := 4) (Nat.le_of_ble_eq_true rfl)
  rw [lg_entry_eq]
  have hAL : ∀ q, AL E q → s.heap.size ≤ q := by
    rintro q ⟨a, ha, -⟩
    rw [hE2] at ha
    cases ha
  have hP : va_P E.1 vwCl (WS E σ0) s.heap := by
    intro k q hk
    simp [WS, hE2] at hk
  exact law_sim (p, l, e, s, m, #[Value.ref b], below, meth, c) E σ0 b L xs rfl hX hbl hE3 hE4 hE2
    ⟨hx, hb, hml, hr, hown, fun w hw => hts w (List.mem_filter.mp hw).1, hlocks, hE5, ⟨hE3, hAL, Nat.zero_le _, Nat.zero_le _⟩, by show Kt E.2.2.1 _ _ _; rw [hE1]; exact hK⟩ () (hm xs L hL) _ s.heap [] hl hP va_S.rf
