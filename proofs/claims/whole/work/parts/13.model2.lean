theorem dX10_stepped_0 : decode cX10_stepped 0 = .ok (.iconst 0, 1) := by decide +kernel
theorem dX10_stepped_1 : decode cX10_stepped 1 = .ok (.istore_n 2, 1) := by decide +kernel
theorem dX10_stepped_2 : decode cX10_stepped 2 = .ok (.iconst 0, 1) := by decide +kernel
theorem dX10_stepped_3 : decode cX10_stepped 3 = .ok (.istore_n 3, 1) := by decide +kernel
theorem dX10_stepped_4 : decode cX10_stepped 4 = .ok (.iload_n 3, 1) := by decide +kernel
theorem dX10_stepped_5 : decode cX10_stepped 5 = .ok (.aload_n 0, 1) := by decide +kernel
theorem dX10_stepped_6 : decode cX10_stepped 6 = .ok (.getfield 7, 3) := by decide +kernel
theorem dX10_stepped_9 : decode cX10_stepped 9 = .ok (.if_icmp .ge 30, 3) := by decide +kernel
theorem dX10_stepped_12 : decode cX10_stepped 12 = .ok (.iload_n 2, 1) := by decide +kernel
theorem dX10_stepped_13 : decode cX10_stepped 13 = .ok (.iload_n 1, 1) := by decide +kernel
theorem dX10_stepped_14 : decode cX10_stepped 14 = .ok (.iload_n 3, 1) := by decide +kernel
theorem dX10_stepped_15 : decode cX10_stepped 15 = .ok (.ishr, 1) := by decide +kernel
theorem dX10_stepped_16 : decode cX10_stepped 16 = .ok (.iconst 1, 1) := by decide +kernel
theorem dX10_stepped_17 : decode cX10_stepped 17 = .ok (.iand, 1) := by decide +kernel
theorem dX10_stepped_18 : decode cX10_stepped 18 = .ok (.iconst 1, 1) := by decide +kernel
theorem dX10_stepped_19 : decode cX10_stepped 19 = .ok (.if_icmp .ne 11, 3) := by decide +kernel
theorem dX10_stepped_22 : decode cX10_stepped 22 = .ok (.aload_n 0, 1) := by decide +kernel
theorem dX10_stepped_23 : decode cX10_stepped 23 = .ok (.iload_n 3, 1) := by decide +kernel
theorem dX10_stepped_24 : decode cX10_stepped 24 = .ok (.invokevirtual 168, 3) := by decide +kernel
theorem dX10_stepped_27 : decode cX10_stepped 27 = .ok (.goto 4, 3) := by decide +kernel
theorem dX10_stepped_30 : decode cX10_stepped 30 = .ok (.iconst 0, 1) := by decide +kernel
theorem dX10_stepped_31 : decode cX10_stepped 31 = .ok (.ior, 1) := by decide +kernel
theorem dX10_stepped_32 : decode cX10_stepped 32 = .ok (.istore_n 2, 1) := by decide +kernel
theorem dX10_stepped_33 : decode cX10_stepped 33 = .ok (.iinc 3 1, 3) := by decide +kernel
theorem dX10_stepped_36 : decode cX10_stepped 36 = .ok (.goto (-32), 3) := by decide +kernel
theorem dX10_stepped_39 : decode cX10_stepped 39 = .ok (.iload_n 2, 1) := by decide +kernel
theorem dX10_stepped_40 : decode cX10_stepped 40 = .ok (.ireturn, 1) := by decide +kernel
def f_X10_stepped (σ : St) (v1 : Int32) : Option Int32 :=
  lo2 FU (fun rec3 (x1 : Int32) (x2 : Int32) =>
    (if x2 < (σ.1 100 0) then
      (if ((v1 >>> (x2 &&& 31)) &&& (1 : Int32)) = (1 : Int32) then
        calP (f_X10_stepsOf σ x2) fun r5 =>
          bd (x1 ||| r5) fun x6 =>
            rec3 x6 (x2 + 1)
         else
        bd (x1 ||| (0 : Int32)) fun x7 =>
          rec3 x7 (x2 + 1))
       else
      some x1)) (0 : Int32) (0 : Int32)
set_option maxHeartbeats 4000000 in
set_option maxRecDepth 100000 in
theorem c_X10_stepped (l : Launch) (E : Ev) (hF : Full E) (σ : St) (v1 : Int32) : Ctr l enI (fun _ => σ) E md_X10_stepped [rV E 100, .int v1] σ (f_X10_stepped σ v1) := by
  refine ctr_of rfl (Nat.le_of_ble_eq_true rfl) (fun Γ => ?_)
  show Sim _ Γ _ E md_X10_stepped σ 0 [(0, rV E 100), (1, .int v1)] [] _
  unfold f_X10_stepped
  refine s_iconst (v := 0) dX10_stepped_0 (by decide) ?_
  refine s_istore_n [(2, .int (0 : Int32)), (0, rV E 100), (1, .int v1)] dX10_stepped_1 rfl (by decide) rfl ?_
  refine s_iconst (v := 0) dX10_stepped_2 (by decide) ?_
  refine s_istore_n [(3, .int (0 : Int32)), (2, .int (0 : Int32)), (0, rV E 100), (1, .int v1)] dX10_stepped_3 rfl (by decide) rfl ?_
  refine s_sub (lv' := [(0, rV E 100), (1, .int v1), (2, .int (0 : Int32)), (3, .int (0 : Int32))]) [2, 3, 1, 0] rfl ?_
  refine s_lo2 (σf := fun x1 x2 => σ) (lvf := fun x1 x2 => [(0, rV E 100), (1, .int v1), (2, .int x1), (3, .int x2)]) (fun rec3 ih4 x1 x2 => ?_)
  refine s_iload_n dX10_stepped_4 3 rfl rfl ?_
  refine s_aload_n dX10_stepped_5 0 rfl rfl ?_
  refine s_geti gf_X10_7 rfl (m100 hF) k100 (ft_of k100 rfl) dX10_stepped_6 ?_
  refine s_icmp_ge 39 dX10_stepped_9 (by decide) ?_ ?_
  · skip
    refine s_iload_n dX10_stepped_12 2 rfl rfl ?_
    refine s_iload_n dX10_stepped_13 1 rfl rfl ?_
    refine s_iload_n dX10_stepped_14 3 rfl rfl ?_
    refine s_ishr dX10_stepped_15 ?_
    refine s_iconst (v := 1) dX10_stepped_16 (by decide) ?_
    refine s_iand dX10_stepped_17 ?_
    refine s_iconst (v := 1) dX10_stepped_18 (by decide) ?_
    refine s_icmp_ne 30 dX10_stepped_19 (by decide) ?_ ?_
    · skip
      refine s_aload_n dX10_stepped_22 0 rfl rfl ?_
      refine s_iload_n dX10_stepped_23 3 rfl rfl ?_
      refine s_callVpI (As := [.int x2]) mf_X10_stepsOf vf_X10_stepsOf ml_X10_168 (c_X10_stepsOf _ E hF σ x2) (m100 hF) k100 (by decide) rfl rfl rfl rfl (Nat.le_of_ble_eq_true rfl) rfl dX10_stepped_24 (fun r5 => ?_)
      refine s_goto 31 dX10_stepped_27 (by decide) ?_
      refine s_ior dX10_stepped_31 ?_
      refine s_istore_nB (fun x6 => [(2, .int x6), (0, rV E 100), (1, .int v1), (3, .int x2)]) dX10_stepped_32 rfl (by decide) (fun _ => rfl) (fun x6 => ?_)
      refine s_iinc [(3, .int (x2 + 1)), (2, .int x6), (0, rV E 100), (1, .int v1)] dX10_stepped_33 3 rfl rfl (by decide) rfl ?_
      refine s_goto 4 dX10_stepped_36 (by decide) ?_
      refine s_sub [2, 3, 1, 0] rfl ?_
      exact ih4 x6 (x2 + 1)
    · skip
      refine s_iconst (v := 0) dX10_stepped_30 (by decide) ?_
      refine s_ior dX10_stepped_31 ?_
      refine s_istore_nB (fun x7 => [(2, .int x7), (0, rV E 100), (1, .int v1), (3, .int x2)]) dX10_stepped_32 rfl (by decide) (fun _ => rfl) (fun x7 => ?_)
      refine s_iinc [(3, .int (x2 + 1)), (2, .int x7), (0, rV E 100), (1, .int v1)] dX10_stepped_33 3 rfl rfl (by decide) rfl ?_
      refine s_goto 4 dX10_stepped_36 (by decide) ?_
      refine s_sub [2, 3, 1, 0] rfl ?_
      exact ih4 x7 (x2 + 1)
  · skip
    refine s_iload_n dX10_stepped_39 2 rfl rfl ?_
    exact s_ireturn rfl rfl rfl dX10_stepped_40
theorem dX10_far_0 : decode cX10_far 0 = .ok (.aload_n 0, 1) := by decide +kernel
theorem dX10_far_1 : decode cX10_far 1 = .ok (.iload_n 1, 1) := by decide +kernel
theorem dX10_far_2 : decode cX10_far 2 = .ok (.invokevirtual 165, 3) := by decide +kernel
theorem dX10_far_5 : decode cX10_far 5 = .ok (.ifCond .eq 11, 3) := by decide +kernel
theorem dX10_far_8 : decode cX10_far 8 = .ok (.aload_n 0, 1) := by decide +kernel
theorem dX10_far_9 : decode cX10_far 9 = .ok (.iload_n 2, 1) := by decide +kernel
theorem dX10_far_10 : decode cX10_far 10 = .ok (.invokevirtual 165, 3) := by decide +kernel
theorem dX10_far_13 : decode cX10_far 13 = .ok (.ifCond .ne 6, 3) := by decide +kernel
theorem dX10_far_16 : decode cX10_far 16 = .ok (.bipush (-2), 2) := by decide +kernel
theorem dX10_far_18 : decode cX10_far 18 = .ok (.ireturn, 1) := by decide +kernel
theorem dX10_far_19 : decode cX10_far 19 = .ok (.iconst 1, 1) := by decide +kernel
theorem dX10_far_20 : decode cX10_far 20 = .ok (.iload_n 1, 1) := by decide +kernel
theorem dX10_far_21 : decode cX10_far 21 = .ok (.ishl, 1) := by decide +kernel
theorem dX10_far_22 : decode cX10_far 22 = .ok (.istore_n 3, 1) := by decide +kernel
theorem dX10_far_23 : decode cX10_far 23 = .ok (.iconst 0, 1) := by decide +kernel
theorem dX10_far_24 : decode cX10_far 24 = .ok (.istore 4, 2) := by decide +kernel
theorem dX10_far_26 : decode cX10_far 26 = .ok (.iload 4, 2) := by decide +kernel
theorem dX10_far_28 : decode cX10_far 28 = .ok (.bipush 8, 2) := by decide +kernel
theorem dX10_far_30 : decode cX10_far 30 = .ok (.if_icmp .ge 27, 3) := by decide +kernel
theorem dX10_far_33 : decode cX10_far 33 = .ok (.iload_n 3, 1) := by decide +kernel
theorem dX10_far_34 : decode cX10_far 34 = .ok (.iload_n 2, 1) := by decide +kernel
theorem dX10_far_35 : decode cX10_far 35 = .ok (.ishr, 1) := by decide +kernel
theorem dX10_far_36 : decode cX10_far 36 = .ok (.iconst 1, 1) := by decide +kernel
theorem dX10_far_37 : decode cX10_far 37 = .ok (.iand, 1) := by decide +kernel
theorem dX10_far_38 : decode cX10_far 38 = .ok (.iconst 1, 1) := by decide +kernel
theorem dX10_far_39 : decode cX10_far 39 = .ok (.if_icmp .ne 6, 3) := by decide +kernel
theorem dX10_far_42 : decode cX10_far 42 = .ok (.iload 4, 2) := by decide +kernel
theorem dX10_far_44 : decode cX10_far 44 = .ok (.ireturn, 1) := by decide +kernel
theorem dX10_far_45 : decode cX10_far 45 = .ok (.aload_n 0, 1) := by decide +kernel
theorem dX10_far_46 : decode cX10_far 46 = .ok (.iload_n 3, 1) := by decide +kernel
theorem dX10_far_47 : decode cX10_far 47 = .ok (.invokevirtual 172, 3) := by decide +kernel
theorem dX10_far_50 : decode cX10_far 50 = .ok (.istore_n 3, 1) := by decide +kernel
theorem dX10_far_51 : decode cX10_far 51 = .ok (.iinc 4 1, 3) := by decide +kernel
theorem dX10_far_54 : decode cX10_far 54 = .ok (.goto (-28), 3) := by decide +kernel
theorem dX10_far_57 : decode cX10_far 57 = .ok (.iconst (-1), 1) := by decide +kernel
theorem dX10_far_58 : decode cX10_far 58 = .ok (.ireturn, 1) := by decide +kernel
def f_X10_far (σ : St) (v1 : Int32) (v2 : Int32) : Option Int32 :=
  calP (f_X10_isPlace σ v1) fun r1 =>
    (if r1 = 0 then
      some (-2 : Int32)
       else
      calP (f_X10_isPlace σ v2) fun r2 =>
        (if r2 = 0 then
          some (-2 : Int32)
           else
          bd ((1 : Int32) <<< (v1 &&& 31)) fun x3 =>
            lo2 FU (fun rec6 (x4 : Int32) (x5 : Int32) =>
              (if x5 < (8 : Int32) then
                (if ((x4 >>> (v2 &&& 31)) &&& (1 : Int32)) = (1 : Int32) then
                  some x5
                   else
                  calP (f_X10_stepped σ x4) fun r8 =>
                    rec6 r8 (x5 + 1))
                 else
                some (-1 : Int32))) x3 (0 : Int32)))
set_option maxHeartbeats 4000000 in
set_option maxRecDepth 100000 in
theorem c_X10_far (l : Launch) (E : Ev) (hF : Full E) (σ : St) (v1 : Int32) (v2 : Int32) : Ctr l enI (fun _ => σ) E md_X10_far [rV E 100, .int v1, .int v2] σ (f_X10_far σ v1 v2) := by
  refine ctr_of rfl (Nat.le_of_ble_eq_true rfl) (fun Γ => ?_)
  show Sim _ Γ _ E md_X10_far σ 0 [(0, rV E 100), (1, .int v1), (2, .int v2)] [] _
  unfold f_X10_far
  refine s_aload_n dX10_far_0 0 rfl rfl ?_
  refine s_iload_n dX10_far_1 1 rfl rfl ?_
  refine s_callVpI (As := [.int v1]) mf_X10_isPlace vf_X10_isPlace ml_X10_165 (c_X10_isPlace _ E hF σ v1) (m100 hF) k100 (by decide) rfl rfl rfl rfl (Nat.le_of_ble_eq_true rfl) rfl dX10_far_2 (fun r1 => ?_)
  refine s_if_eq 16 dX10_far_5 (by decide) ?_ ?_
  · skip
    refine s_bipush (v := -2) dX10_far_16 (by decide) ?_
    exact s_ireturn rfl rfl rfl dX10_far_18
  · skip
    refine s_aload_n dX10_far_8 0 rfl rfl ?_
    refine s_iload_n dX10_far_9 2 rfl rfl ?_
    refine s_callVpI (As := [.int v2]) mf_X10_isPlace vf_X10_isPlace ml_X10_165 (c_X10_isPlace _ E hF σ v2) (m100 hF) k100 (by decide) rfl rfl rfl rfl (Nat.le_of_ble_eq_true rfl) rfl dX10_far_10 (fun r2 => ?_)
    refine s_if_ne 19 dX10_far_13 (by decide) ?_ ?_
    · skip
      refine s_bipush (v := -2) dX10_far_16 (by decide) ?_
      exact s_ireturn rfl rfl rfl dX10_far_18
    · skip
      refine s_iconst (v := 1) dX10_far_19 (by decide) ?_
      refine s_iload_n dX10_far_20 1 rfl rfl ?_
      refine s_ishl dX10_far_21 ?_
      refine s_istore_nB (fun x3 => [(3, .int x3), (0, rV E 100), (1, .int v1), (2, .int v2)]) dX10_far_22 rfl (by decide) (fun _ => rfl) (fun x3 => ?_)
      refine s_iconst (v := 0) dX10_far_23 (by decide) ?_
      refine s_istore [(4, .int (0 : Int32)), (3, .int x3), (0, rV E 100), (1, .int v1), (2, .int v2)] dX10_far_24 (by decide) rfl ?_
      refine s_sub (lv' := [(0, rV E 100), (2, .int v2), (3, .int x3), (4, .int (0 : Int32))]) [2, 4, 1, 0] rfl ?_
      refine s_lo2 (σf := fun x4 x5 => σ) (lvf := fun x4 x5 => [(0, rV E 100), (2, .int v2), (3, .int x4), (4, .int x5)]) (fun rec6 ih7 x4 x5 => ?_)
      refine s_iload dX10_far_26 3 rfl ?_
      refine s_bipush (v := 8) dX10_far_28 (by decide) ?_
      refine s_icmp_ge 57 dX10_far_30 (by decide) ?_ ?_
      · skip
        refine s_iload_n dX10_far_33 2 rfl rfl ?_
        refine s_iload_n dX10_far_34 1 rfl rfl ?_
        refine s_ishr dX10_far_35 ?_
        refine s_iconst (v := 1) dX10_far_36 (by decide) ?_
        refine s_iand dX10_far_37 ?_
        refine s_iconst (v := 1) dX10_far_38 (by decide) ?_
        refine s_icmp_ne 45 dX10_far_39 (by decide) ?_ ?_
        · skip
          refine s_iload dX10_far_42 3 rfl ?_
          exact s_ireturn rfl rfl rfl dX10_far_44
        · skip
          refine s_aload_n dX10_far_45 0 rfl rfl ?_
          refine s_iload_n dX10_far_46 2 rfl rfl ?_
          refine s_callVpI (As := [.int x4]) mf_X10_stepped vf_X10_stepped ml_X10_172 (c_X10_stepped _ E hF σ x4) (m100 hF) k100 (by decide) rfl rfl rfl rfl (Nat.le_of_ble_eq_true rfl) rfl dX10_far_47 (fun r8 => ?_)
          refine s_istore_n [(3, .int r8), (0, rV E 100), (2, .int v2), (4, .int x5)] dX10_far_50 rfl (by decide) rfl ?_
          refine s_iinc [(4, .int (x5 + 1)), (3, .int r8), (0, rV E 100), (2, .int v2)] dX10_far_51 3 rfl rfl (by decide) rfl ?_
          refine s_goto 26 dX10_far_54 (by decide) ?_
          refine s_sub [2, 3, 1, 0] rfl ?_
          exact ih7 r8 (x5 + 1)
      · skip
        refine s_iconst (v := -1) dX10_far_57 (by decide) ?_
        exact s_ireturn rfl rfl rfl dX10_far_58
theorem dX10_spell_0 : decode cX10_spell 0 = .ok (.iload_n 2, 1) := by decide +kernel
theorem dX10_spell_1 : decode cX10_spell 1 = .ok (.istore_n 3, 1) := by decide +kernel
theorem dX10_spell_2 : decode cX10_spell 2 = .ok (.iload_n 1, 1) := by decide +kernel
theorem dX10_spell_3 : decode cX10_spell 3 = .ok (.iconst 1, 1) := by decide +kernel
theorem dX10_spell_4 : decode cX10_spell 4 = .ok (.isub, 1) := by decide +kernel
theorem dX10_spell_5 : decode cX10_spell 5 = .ok (.istore 4, 2) := by decide +kernel
theorem dX10_spell_7 : decode cX10_spell 7 = .ok (.iload 4, 2) := by decide +kernel
theorem dX10_spell_9 : decode cX10_spell 9 = .ok (.ifCond .lt 25, 3) := by decide +kernel
theorem dX10_spell_12 : decode cX10_spell 12 = .ok (.aload_n 0, 1) := by decide +kernel
theorem dX10_spell_13 : decode cX10_spell 13 = .ok (.getfield 37, 3) := by decide +kernel
theorem dX10_spell_16 : decode cX10_spell 16 = .ok (.iload 4, 2) := by decide +kernel
theorem dX10_spell_18 : decode cX10_spell 18 = .ok (.iload_n 3, 1) := by decide +kernel
theorem dX10_spell_19 : decode cX10_spell 19 = .ok (.bipush 8, 2) := by decide +kernel
theorem dX10_spell_21 : decode cX10_spell 21 = .ok (.irem, 1) := by decide +kernel
theorem dX10_spell_22 : decode cX10_spell 22 = .ok (.iastore, 1) := by decide +kernel
theorem dX10_spell_23 : decode cX10_spell 23 = .ok (.iload_n 3, 1) := by decide +kernel
theorem dX10_spell_24 : decode cX10_spell 24 = .ok (.bipush 8, 2) := by decide +kernel
theorem dX10_spell_26 : decode cX10_spell 26 = .ok (.idiv, 1) := by decide +kernel
theorem dX10_spell_27 : decode cX10_spell 27 = .ok (.istore_n 3, 1) := by decide +kernel
theorem dX10_spell_28 : decode cX10_spell 28 = .ok (.iinc 4 (-1), 3) := by decide +kernel
theorem dX10_spell_31 : decode cX10_spell 31 = .ok (.goto (-24), 3) := by decide +kernel
theorem dX10_spell_34 : decode cX10_spell 34 = .ok (.return_, 1) := by decide +kernel
def f_X10_spell (σ : St) (v1 : Int32) (v2 : Int32) : Option (Unit × St) :=
  bd (v1 - (1 : Int32)) fun x1 =>
    lo3 FU (fun rec5 (s2 : St) (x3 : Int32) (x4 : Int32) =>
      (if x4 < 0 then
        some ((), s2)
         else
        ck x4 3 <|
          bd (setI s2 108 x4.toNatClampNeg (x3 - x3 / (8 : Int32) * (8 : Int32))) fun s7 =>
            bd (x3 / (8 : Int32)) fun x8 =>
              rec5 s7 x8 (x4 + (-1)))) σ v2 x1
set_option maxHeartbeats 4000000 in
set_option maxRecDepth 100000 in
theorem c_X10_spell (l : Launch) (E : Ev) (hF : Full E) (σ : St) (v1 : Int32) (v2 : Int32) : Ctr l (en2 enV) (fun q => q.2) E md_X10_spell [rV E 100, .int v1, .int v2] σ (f_X10_spell σ v1 v2) := by
  refine ctr_of rfl (Nat.le_of_ble_eq_true rfl) (fun Γ => ?_)
  show Sim _ Γ _ E md_X10_spell σ 0 [(0, rV E 100), (1, .int v1), (2, .int v2)] [] _
  unfold f_X10_spell
  refine s_iload_n dX10_spell_0 2 rfl rfl ?_
  refine s_istore_n [(3, .int v2), (0, rV E 100), (1, .int v1), (2, .int v2)] dX10_spell_1 rfl (by decide) rfl ?_
  refine s_iload_n dX10_spell_2 2 rfl rfl ?_
  refine s_iconst (v := 1) dX10_spell_3 (by decide) ?_
  refine s_isub dX10_spell_4 ?_
  refine s_istoreB (fun x1 => [(4, .int x1), (3, .int v2), (0, rV E 100), (1, .int v1), (2, .int v2)]) dX10_spell_5 (by decide) (fun _ => rfl) (fun x1 => ?_)
  refine s_sub (lv' := [(0, rV E 100), (3, .int v2), (4, .int x1)]) [2, 1, 0] rfl ?_
  refine s_lo3 (σf := fun s2 x3 x4 => s2) (lvf := fun s2 x3 x4 => [(0, rV E 100), (3, .int x3), (4, .int x4)]) (fun rec5 ih6 s2 x3 x4 => ?_)
  refine s_iload dX10_spell_7 2 rfl ?_
  refine s_if_lt 34 dX10_spell_9 (by decide) ?_ ?_
  · skip
    exact s_return rfl rfl rfl dX10_spell_34
  · skip
    refine s_aload_n dX10_spell_12 0 rfl rfl ?_
    refine s_getr (b := 108) gf_X10_37 rfl (m100 hF) k100 (ft_of k100 rfl) (hF.2 _ _) rfl dX10_spell_13 ?_
    refine s_iload dX10_spell_16 2 rfl ?_
    refine s_iload_n dX10_spell_18 1 rfl rfl ?_
    refine s_bipush (v := 8) dX10_spell_19 (by decide) ?_
    refine s_irem dX10_spell_21 (by decide) ?_
    refine s_iast (m108 hF) k108 l108 dX10_spell_22 (fun s7 => ?_)
    refine s_iload_n dX10_spell_23 1 rfl rfl ?_
    refine s_bipush (v := 8) dX10_spell_24 (by decide) ?_
    refine s_idiv dX10_spell_26 (by decide) ?_
    refine s_istore_nB (fun x8 => [(3, .int x8), (0, rV E 100), (4, .int x4)]) dX10_spell_27 rfl (by decide) (fun _ => rfl) (fun x8 => ?_)
    refine s_iinc [(4, .int (x4 + (-1))), (3, .int x8), (0, rV E 100)] dX10_spell_28 2 rfl rfl (by decide) rfl ?_
    refine s_goto 7 dX10_spell_31 (by decide) ?_
    refine s_sub [2, 1, 0] rfl ?_
    exact ih6 s7 x8 (x4 + (-1))
theorem dX10_settled_0 : decode cX10_settled 0 = .ok (.iconst 0, 1) := by decide +kernel
theorem dX10_settled_1 : decode cX10_settled 1 = .ok (.istore_n 2, 1) := by decide +kernel
theorem dX10_settled_2 : decode cX10_settled 2 = .ok (.iload_n 2, 1) := by decide +kernel
theorem dX10_settled_3 : decode cX10_settled 3 = .ok (.iload_n 1, 1) := by decide +kernel
theorem dX10_settled_4 : decode cX10_settled 4 = .ok (.if_icmp .ge 86, 3) := by decide +kernel
theorem dX10_settled_7 : decode cX10_settled 7 = .ok (.iload_n 2, 1) := by decide +kernel
theorem dX10_settled_8 : decode cX10_settled 8 = .ok (.iconst 1, 1) := by decide +kernel
theorem dX10_settled_9 : decode cX10_settled 9 = .ok (.iadd, 1) := by decide +kernel
theorem dX10_settled_10 : decode cX10_settled 10 = .ok (.istore_n 3, 1) := by decide +kernel
theorem dX10_settled_11 : decode cX10_settled 11 = .ok (.iload_n 3, 1) := by decide +kernel
theorem dX10_settled_12 : decode cX10_settled 12 = .ok (.iload_n 1, 1) := by decide +kernel
theorem dX10_settled_13 : decode cX10_settled 13 = .ok (.if_icmp .ge 71, 3) := by decide +kernel
theorem dX10_settled_16 : decode cX10_settled 16 = .ok (.aload_n 0, 1) := by decide +kernel
theorem dX10_settled_17 : decode cX10_settled 17 = .ok (.getfield 40, 3) := by decide +kernel
theorem dX10_settled_20 : decode cX10_settled 20 = .ok (.iload_n 2, 1) := by decide +kernel
theorem dX10_settled_21 : decode cX10_settled 21 = .ok (.iaload, 1) := by decide +kernel
theorem dX10_settled_22 : decode cX10_settled 22 = .ok (.aload_n 0, 1) := by decide +kernel
theorem dX10_settled_23 : decode cX10_settled 23 = .ok (.getfield 40, 3) := by decide +kernel
theorem dX10_settled_26 : decode cX10_settled 26 = .ok (.iload_n 3, 1) := by decide +kernel
theorem dX10_settled_27 : decode cX10_settled 27 = .ok (.iaload, 1) := by decide +kernel
theorem dX10_settled_28 : decode cX10_settled 28 = .ok (.if_icmp .ge 12, 3) := by decide +kernel
theorem dX10_settled_31 : decode cX10_settled 31 = .ok (.aload_n 0, 1) := by decide +kernel
theorem dX10_settled_32 : decode cX10_settled 32 = .ok (.getfield 40, 3) := by decide +kernel
theorem dX10_settled_35 : decode cX10_settled 35 = .ok (.iload_n 2, 1) := by decide +kernel
theorem dX10_settled_36 : decode cX10_settled 36 = .ok (.iaload, 1) := by decide +kernel
theorem dX10_settled_37 : decode cX10_settled 37 = .ok (.goto 9, 3) := by decide +kernel
theorem dX10_settled_40 : decode cX10_settled 40 = .ok (.aload_n 0, 1) := by decide +kernel
theorem dX10_settled_41 : decode cX10_settled 41 = .ok (.getfield 40, 3) := by decide +kernel
theorem dX10_settled_44 : decode cX10_settled 44 = .ok (.iload_n 3, 1) := by decide +kernel
theorem dX10_settled_45 : decode cX10_settled 45 = .ok (.iaload, 1) := by decide +kernel
theorem dX10_settled_46 : decode cX10_settled 46 = .ok (.istore 4, 2) := by decide +kernel
theorem dX10_settled_48 : decode cX10_settled 48 = .ok (.aload_n 0, 1) := by decide +kernel
theorem dX10_settled_49 : decode cX10_settled 49 = .ok (.getfield 40, 3) := by decide +kernel
theorem dX10_settled_52 : decode cX10_settled 52 = .ok (.iload_n 3, 1) := by decide +kernel
theorem dX10_settled_53 : decode cX10_settled 53 = .ok (.aload_n 0, 1) := by decide +kernel
theorem dX10_settled_54 : decode cX10_settled 54 = .ok (.getfield 40, 3) := by decide +kernel
theorem dX10_settled_57 : decode cX10_settled 57 = .ok (.iload_n 2, 1) := by decide +kernel
theorem dX10_settled_58 : decode cX10_settled 58 = .ok (.iaload, 1) := by decide +kernel
theorem dX10_settled_59 : decode cX10_settled 59 = .ok (.aload_n 0, 1) := by decide +kernel
theorem dX10_settled_60 : decode cX10_settled 60 = .ok (.getfield 40, 3) := by decide +kernel
theorem dX10_settled_63 : decode cX10_settled 63 = .ok (.iload_n 3, 1) := by decide +kernel
theorem dX10_settled_64 : decode cX10_settled 64 = .ok (.iaload, 1) := by decide +kernel
theorem dX10_settled_65 : decode cX10_settled 65 = .ok (.iadd, 1) := by decide +kernel
theorem dX10_settled_66 : decode cX10_settled 66 = .ok (.iload 4, 2) := by decide +kernel
theorem dX10_settled_68 : decode cX10_settled 68 = .ok (.isub, 1) := by decide +kernel
theorem dX10_settled_69 : decode cX10_settled 69 = .ok (.iastore, 1) := by decide +kernel
theorem dX10_settled_70 : decode cX10_settled 70 = .ok (.aload_n 0, 1) := by decide +kernel
theorem dX10_settled_71 : decode cX10_settled 71 = .ok (.getfield 40, 3) := by decide +kernel
theorem dX10_settled_74 : decode cX10_settled 74 = .ok (.iload_n 2, 1) := by decide +kernel
theorem dX10_settled_75 : decode cX10_settled 75 = .ok (.iload 4, 2) := by decide +kernel
theorem dX10_settled_77 : decode cX10_settled 77 = .ok (.iastore, 1) := by decide +kernel
theorem dX10_settled_78 : decode cX10_settled 78 = .ok (.iinc 3 1, 3) := by decide +kernel
theorem dX10_settled_81 : decode cX10_settled 81 = .ok (.goto (-70), 3) := by decide +kernel
theorem dX10_settled_84 : decode cX10_settled 84 = .ok (.iinc 2 1, 3) := by decide +kernel
theorem dX10_settled_87 : decode cX10_settled 87 = .ok (.goto (-85), 3) := by decide +kernel
theorem dX10_settled_90 : decode cX10_settled 90 = .ok (.iconst 0, 1) := by decide +kernel
theorem dX10_settled_91 : decode cX10_settled 91 = .ok (.istore_n 2, 1) := by decide +kernel
theorem dX10_settled_92 : decode cX10_settled 92 = .ok (.iconst 0, 1) := by decide +kernel
theorem dX10_settled_93 : decode cX10_settled 93 = .ok (.istore_n 3, 1) := by decide +kernel
theorem dX10_settled_94 : decode cX10_settled 94 = .ok (.iload_n 3, 1) := by decide +kernel
theorem dX10_settled_95 : decode cX10_settled 95 = .ok (.iload_n 1, 1) := by decide +kernel
theorem dX10_settled_96 : decode cX10_settled 96 = .ok (.if_icmp .ge 21, 3) := by decide +kernel
theorem dX10_settled_99 : decode cX10_settled 99 = .ok (.bipush 8, 2) := by decide +kernel
theorem dX10_settled_101 : decode cX10_settled 101 = .ok (.iload_n 2, 1) := by decide +kernel
theorem dX10_settled_102 : decode cX10_settled 102 = .ok (.imul, 1) := by decide +kernel
theorem dX10_settled_103 : decode cX10_settled 103 = .ok (.aload_n 0, 1) := by decide +kernel
theorem dX10_settled_104 : decode cX10_settled 104 = .ok (.getfield 40, 3) := by decide +kernel
theorem dX10_settled_107 : decode cX10_settled 107 = .ok (.iload_n 3, 1) := by decide +kernel
theorem dX10_settled_108 : decode cX10_settled 108 = .ok (.iaload, 1) := by decide +kernel
theorem dX10_settled_109 : decode cX10_settled 109 = .ok (.iadd, 1) := by decide +kernel
theorem dX10_settled_110 : decode cX10_settled 110 = .ok (.istore_n 2, 1) := by decide +kernel
theorem dX10_settled_111 : decode cX10_settled 111 = .ok (.iinc 3 1, 3) := by decide +kernel
theorem dX10_settled_114 : decode cX10_settled 114 = .ok (.goto (-20), 3) := by decide +kernel
theorem dX10_settled_117 : decode cX10_settled 117 = .ok (.iload_n 2, 1) := by decide +kernel
theorem dX10_settled_118 : decode cX10_settled 118 = .ok (.ireturn, 1) := by decide +kernel
def f_X10_settled (σ : St) (v1 : Int32) : Option (Int32 × St) :=
  lo2 FU (fun rec3 (s1 : St) (x2 : Int32) =>
    (if x2 < v1 then
      bd (x2 + (1 : Int32)) fun x5 =>
        lo2 FU (fun rec8 (s6 : St) (x7 : Int32) =>
          (if x7 < v1 then
            ck x2 3 <|
              ck x7 3 <|
                jn1 (fun jk11 =>
                  (if (s6.1 109 x2.toNatClampNeg) < (s6.1 109 x7.toNatClampNeg) then
                    ck x2 3 <|
                      jk11 (s6.1 109 x2.toNatClampNeg)
                     else
                    ck x7 3 <|
                      jk11 (s6.1 109 x7.toNatClampNeg)))
                  (fun (x10 : Int32) => 
                  ck x2 3 <|
                      ck x7 3 <|
                        ck x7 3 <|
                          bd (setI s6 109 x7.toNatClampNeg (((s6.1 109 x2.toNatClampNeg) + (s6.1 109 x7.toNatClampNeg)) - x10)) fun s12 =>
                            ck x2 3 <|
                              bd (setI s12 109 x2.toNatClampNeg x10) fun s13 =>
                                rec8 s13 (x7 + 1))
             else
            rec3 s6 (x2 + 1))) s1 x5
       else
      lo2 FU (fun rec16 (x14 : Int32) (x15 : Int32) =>
        (if x15 < v1 then
          ck x15 3 <|
            bd (((8 : Int32) * x14) + (s1.1 109 x15.toNatClampNeg)) fun x18 =>
              rec16 x18 (x15 + 1)
           else
          some (x14, s1))) (0 : Int32) (0 : Int32))) σ (0 : Int32)
set_option maxHeartbeats 4000000 in
set_option maxRecDepth 100000 in
theorem c_X10_settled (l : Launch) (E : Ev) (hF : Full E) (σ : St) (v1 : Int32) : Ctr l (en2 enI) (fun q => q.2) E md_X10_settled [rV E 100, .int v1] σ (f_X10_settled σ v1) := by
  refine ctr_of rfl (Nat.le_of_ble_eq_true rfl) (fun Γ => ?_)
  show Sim _ Γ _ E md_X10_settled σ 0 [(0, rV E 100), (1, .int v1)] [] _
  unfold f_X10_settled
  refine s_iconst (v := 0) dX10_settled_0 (by decide) ?_
  refine s_istore_n [(2, .int (0 : Int32)), (0, rV E 100), (1, .int v1)] dX10_settled_1 rfl (by decide) rfl ?_
  refine s_sub (lv' := [(0, rV E 100), (1, .int v1), (2, .int (0 : Int32))]) [1, 2, 0] rfl ?_
  refine s_lo2 (σf := fun s1 x2 => s1) (lvf := fun s1 x2 => [(0, rV E 100), (1, .int v1), (2, .int x2)]) (fun rec3 ih4 s1 x2 => ?_)
  refine s_iload_n dX10_settled_2 2 rfl rfl ?_
  refine s_iload_n dX10_settled_3 1 rfl rfl ?_
  refine s_icmp_ge 90 dX10_settled_4 (by decide) ?_ ?_
  · skip
    refine s_iload_n dX10_settled_7 2 rfl rfl ?_
    refine s_iconst (v := 1) dX10_settled_8 (by decide) ?_
    refine s_iadd dX10_settled_9 ?_
    refine s_istore_nB (fun x5 => [(3, .int x5), (0, rV E 100), (1, .int v1), (2, .int x2)]) dX10_settled_10 rfl (by decide) (fun _ => rfl) (fun x5 => ?_)
    refine s_sub (lv' := [(0, rV E 100), (1, .int v1), (2, .int x2), (3, .int x5)]) [1, 2, 3, 0] rfl ?_
    refine s_lo2 (σf := fun s6 x7 => s6) (lvf := fun s6 x7 => [(0, rV E 100), (1, .int v1), (2, .int x2), (3, .int x7)]) (fun rec8 ih9 s6 x7 => ?_)
    refine s_iload_n dX10_settled_11 3 rfl rfl ?_
    refine s_iload_n dX10_settled_12 1 rfl rfl ?_
    refine s_icmp_ge 84 dX10_settled_13 (by decide) ?_ ?_
    · skip
      refine s_aload_n dX10_settled_16 0 rfl rfl ?_
      refine s_getr (b := 109) gf_X10_40 rfl (m100 hF) k100 (ft_of k100 rfl) (hF.2 _ _) rfl dX10_settled_17 ?_
      refine s_iload_n dX10_settled_20 2 rfl rfl ?_
      refine s_iald (m109 hF) k109 l109 dX10_settled_21 ?_
      refine s_aload_n dX10_settled_22 0 rfl rfl ?_
      refine s_getr (b := 109) gf_X10_40 rfl (m100 hF) k100 (ft_of k100 rfl) (hF.2 _ _) rfl dX10_settled_23 ?_
      refine s_iload_n dX10_settled_26 3 rfl rfl ?_
      refine s_iald (m109 hF) k109 l109 dX10_settled_27 ?_
      refine s_jn1 46 (fun x10 => s6) (fun x10 => [(0, rV E 100), (1, .int v1), (2, .int x2), (3, .int x7)]) (fun x10 => [.int x10]) ?_ ?_
      · intro x10
        refine s_istore [(4, .int x10), (0, rV E 100), (1, .int v1), (2, .int x2), (3, .int x7)] dX10_settled_46 (by decide) rfl ?_
        refine s_aload_n dX10_settled_48 1 rfl rfl ?_
        refine s_getr (b := 109) gf_X10_40 rfl (m100 hF) k100 (ft_of k100 rfl) (hF.2 _ _) rfl dX10_settled_49 ?_
        refine s_iload_n dX10_settled_52 4 rfl rfl ?_
        refine s_aload_n dX10_settled_53 1 rfl rfl ?_
        refine s_getr (b := 109) gf_X10_40 rfl (m100 hF) k100 (ft_of k100 rfl) (hF.2 _ _) rfl dX10_settled_54 ?_
        refine s_iload_n dX10_settled_57 3 rfl rfl ?_
        refine s_iald (m109 hF) k109 l109 dX10_settled_58 ?_
        refine s_aload_n dX10_settled_59 1 rfl rfl ?_
        refine s_getr (b := 109) gf_X10_40 rfl (m100 hF) k100 (ft_of k100 rfl) (hF.2 _ _) rfl dX10_settled_60 ?_
        refine s_iload_n dX10_settled_63 4 rfl rfl ?_
        refine s_iald (m109 hF) k109 l109 dX10_settled_64 ?_
        refine s_iadd dX10_settled_65 ?_
        refine s_iload dX10_settled_66 0 rfl ?_
        refine s_isub dX10_settled_68 ?_
        refine s_iast (m109 hF) k109 l109 dX10_settled_69 (fun s12 => ?_)
        refine s_aload_n dX10_settled_70 1 rfl rfl ?_
        refine s_getr (b := 109) gf_X10_40 rfl (m100 hF) k100 (ft_of k100 rfl) (hF.2 _ _) rfl dX10_settled_71 ?_
        refine s_iload_n dX10_settled_74 3 rfl rfl ?_
        refine s_iload dX10_settled_75 0 rfl ?_
        refine s_iast (m109 hF) k109 l109 dX10_settled_77 (fun s13 => ?_)
        refine s_iinc [(3, .int (x7 + 1)), (4, .int x10), (0, rV E 100), (1, .int v1), (2, .int x2)] dX10_settled_78 4 rfl rfl (by decide) rfl ?_
        refine s_goto 11 dX10_settled_81 (by decide) ?_
        refine s_sub [2, 3, 4, 0] rfl ?_
        exact ih9 s13 (x7 + 1)
      · intro jk11 hjk11
        refine s_icmp_ge 40 dX10_settled_28 (by decide) ?_ ?_
        · skip
          refine s_aload_n dX10_settled_31 0 rfl rfl ?_
          refine s_getr (b := 109) gf_X10_40 rfl (m100 hF) k100 (ft_of k100 rfl) (hF.2 _ _) rfl dX10_settled_32 ?_
          refine s_iload_n dX10_settled_35 2 rfl rfl ?_
          refine s_iald (m109 hF) k109 l109 dX10_settled_36 ?_
          refine s_goto 46 dX10_settled_37 (by decide) ?_
          exact hjk11 (s6.1 109 x2.toNatClampNeg)
        · skip
          refine s_aload_n dX10_settled_40 0 rfl rfl ?_
          refine s_getr (b := 109) gf_X10_40 rfl (m100 hF) k100 (ft_of k100 rfl) (hF.2 _ _) rfl dX10_settled_41 ?_
          refine s_iload_n dX10_settled_44 3 rfl rfl ?_
          refine s_iald (m109 hF) k109 l109 dX10_settled_45 ?_
          exact hjk11 (s6.1 109 x7.toNatClampNeg)
    · skip
      refine s_iinc [(2, .int (x2 + 1)), (0, rV E 100), (1, .int v1), (3, .int x7)] dX10_settled_84 2 rfl rfl (by decide) rfl ?_
      refine s_goto 2 dX10_settled_87 (by decide) ?_
      refine s_sub [1, 2, 0] rfl ?_
      exact ih4 s6 (x2 + 1)
  · skip
    refine s_iconst (v := 0) dX10_settled_90 (by decide) ?_
    refine s_istore_n [(2, .int (0 : Int32)), (0, rV E 100), (1, .int v1)] dX10_settled_91 rfl (by decide) rfl ?_
    refine s_iconst (v := 0) dX10_settled_92 (by decide) ?_
    refine s_istore_n [(3, .int (0 : Int32)), (2, .int (0 : Int32)), (0, rV E 100), (1, .int v1)] dX10_settled_93 rfl (by decide) rfl ?_
    refine s_sub (lv' := [(0, rV E 100), (1, .int v1), (2, .int (0 : Int32)), (3, .int (0 : Int32))]) [2, 3, 1, 0] rfl ?_
    refine s_lo2 (σf := fun x14 x15 => s1) (lvf := fun x14 x15 => [(0, rV E 100), (1, .int v1), (2, .int x14), (3, .int x15)]) (fun rec16 ih17 x14 x15 => ?_)
    refine s_iload_n dX10_settled_94 3 rfl rfl ?_
    refine s_iload_n dX10_settled_95 1 rfl rfl ?_
    refine s_icmp_ge 117 dX10_settled_96 (by decide) ?_ ?_
    · skip
      refine s_bipush (v := 8) dX10_settled_99 (by decide) ?_
      refine s_iload_n dX10_settled_101 2 rfl rfl ?_
      refine s_imul dX10_settled_102 ?_
      refine s_aload_n dX10_settled_103 0 rfl rfl ?_
      refine s_getr (b := 109) gf_X10_40 rfl (m100 hF) k100 (ft_of k100 rfl) (hF.2 _ _) rfl dX10_settled_104 ?_
      refine s_iload_n dX10_settled_107 3 rfl rfl ?_
      refine s_iald (m109 hF) k109 l109 dX10_settled_108 ?_
      refine s_iadd dX10_settled_109 ?_
      refine s_istore_nB (fun x18 => [(2, .int x18), (0, rV E 100), (1, .int v1), (3, .int x15)]) dX10_settled_110 rfl (by decide) (fun _ => rfl) (fun x18 => ?_)
      refine s_iinc [(3, .int (x15 + 1)), (2, .int x18), (0, rV E 100), (1, .int v1)] dX10_settled_111 3 rfl rfl (by decide) rfl ?_
      refine s_goto 94 dX10_settled_114 (by decide) ?_
      refine s_sub [2, 3, 1, 0] rfl ?_
      exact ih17 x18 (x15 + 1)
    · skip
      refine s_iload_n dX10_settled_117 2 rfl rfl ?_
      exact s_ireturn rfl rfl rfl dX10_settled_118
theorem dX10_powerOf_0 : decode cX10_powerOf 0 = .ok (.iload_n 0, 1) := by decide +kernel
theorem dX10_powerOf_1 : decode cX10_powerOf 1 = .ok (.iconst 1, 1) := by decide +kernel
theorem dX10_powerOf_2 : decode cX10_powerOf 2 = .ok (.if_icmp .ne 8, 3) := by decide +kernel
theorem dX10_powerOf_5 : decode cX10_powerOf 5 = .ok (.bipush 8, 2) := by decide +kernel
theorem dX10_powerOf_7 : decode cX10_powerOf 7 = .ok (.goto 16, 3) := by decide +kernel
theorem dX10_powerOf_10 : decode cX10_powerOf 10 = .ok (.iload_n 0, 1) := by decide +kernel
theorem dX10_powerOf_11 : decode cX10_powerOf 11 = .ok (.iconst 2, 1) := by decide +kernel
theorem dX10_powerOf_12 : decode cX10_powerOf 12 = .ok (.if_icmp .ne 8, 3) := by decide +kernel
theorem dX10_powerOf_15 : decode cX10_powerOf 15 = .ok (.bipush 64, 2) := by decide +kernel
theorem dX10_powerOf_17 : decode cX10_powerOf 17 = .ok (.goto 6, 3) := by decide +kernel
theorem dX10_powerOf_20 : decode cX10_powerOf 20 = .ok (.sipush 512, 3) := by decide +kernel
theorem dX10_powerOf_23 : decode cX10_powerOf 23 = .ok (.ireturn, 1) := by decide +kernel
def f_X10_powerOf (σ : St) (v0 : Int32) : Option Int32 :=
  (if v0 = (1 : Int32) then
    some (8 : Int32)
     else
    (if v0 = (2 : Int32) then
      some (64 : Int32)
       else
      some (512 : Int32)))
set_option maxHeartbeats 4000000 in
set_option maxRecDepth 100000 in
theorem c_X10_powerOf (l : Launch) (E : Ev) (hF : Full E) (σ : St) (v0 : Int32) : Ctr l enI (fun _ => σ) E md_X10_powerOf [.int v0] σ (f_X10_powerOf σ v0) := by
  refine ctr_of rfl (Nat.le_of_ble_eq_true rfl) (fun Γ => ?_)
  show Sim _ Γ _ E md_X10_powerOf σ 0 [(0, .int v0)] [] _
  unfold f_X10_powerOf
  refine s_iload_n dX10_powerOf_0 0 rfl rfl ?_
  refine s_iconst (v := 1) dX10_powerOf_1 (by decide) ?_
  refine s_icmp_ne 10 dX10_powerOf_2 (by decide) ?_ ?_
  · skip
    refine s_bipush (v := 8) dX10_powerOf_5 (by decide) ?_
    refine s_goto 23 dX10_powerOf_7 (by decide) ?_
    exact s_ireturn rfl rfl rfl dX10_powerOf_23
  · skip
    refine s_iload_n dX10_powerOf_10 0 rfl rfl ?_
    refine s_iconst (v := 2) dX10_powerOf_11 (by decide) ?_
    refine s_icmp_ne 20 dX10_powerOf_12 (by decide) ?_ ?_
    · skip
      refine s_bipush (v := 64) dX10_powerOf_15 (by decide) ?_
      refine s_goto 23 dX10_powerOf_17 (by decide) ?_
      exact s_ireturn rfl rfl rfl dX10_powerOf_23
    · skip
      refine s_sipush (v := 512) dX10_powerOf_20 (by decide) ?_
      exact s_ireturn rfl rfl rfl dX10_powerOf_23
theorem dX10_isSetting_0 : decode cX10_isSetting 0 = .ok (.aload_n 0, 1) := by decide +kernel
theorem dX10_isSetting_1 : decode cX10_isSetting 1 = .ok (.iload_n 1, 1) := by decide +kernel
theorem dX10_isSetting_2 : decode cX10_isSetting 2 = .ok (.iload_n 2, 1) := by decide +kernel
theorem dX10_isSetting_3 : decode cX10_isSetting 3 = .ok (.invokevirtual 175, 3) := by decide +kernel
theorem dX10_isSetting_6 : decode cX10_isSetting 6 = .ok (.iconst 1, 1) := by decide +kernel
theorem dX10_isSetting_7 : decode cX10_isSetting 7 = .ok (.istore_n 3, 1) := by decide +kernel
theorem dX10_isSetting_8 : decode cX10_isSetting 8 = .ok (.iconst 0, 1) := by decide +kernel
theorem dX10_isSetting_9 : decode cX10_isSetting 9 = .ok (.istore 4, 2) := by decide +kernel
theorem dX10_isSetting_11 : decode cX10_isSetting 11 = .ok (.iload 4, 2) := by decide +kernel
theorem dX10_isSetting_13 : decode cX10_isSetting 13 = .ok (.iload_n 1, 1) := by decide +kernel
theorem dX10_isSetting_14 : decode cX10_isSetting 14 = .ok (.if_icmp .ge 57, 3) := by decide +kernel
theorem dX10_isSetting_17 : decode cX10_isSetting 17 = .ok (.iload_n 3, 1) := by decide +kernel
theorem dX10_isSetting_18 : decode cX10_isSetting 18 = .ok (.ifCond .eq 45, 3) := by decide +kernel
theorem dX10_isSetting_21 : decode cX10_isSetting 21 = .ok (.aload_n 0, 1) := by decide +kernel
theorem dX10_isSetting_22 : decode cX10_isSetting 22 = .ok (.getfield 37, 3) := by decide +kernel
theorem dX10_isSetting_25 : decode cX10_isSetting 25 = .ok (.iload 4, 2) := by decide +kernel
theorem dX10_isSetting_27 : decode cX10_isSetting 27 = .ok (.iaload, 1) := by decide +kernel
theorem dX10_isSetting_28 : decode cX10_isSetting 28 = .ok (.aload_n 0, 1) := by decide +kernel
theorem dX10_isSetting_29 : decode cX10_isSetting 29 = .ok (.getfield 7, 3) := by decide +kernel
theorem dX10_isSetting_32 : decode cX10_isSetting 32 = .ok (.if_icmp .ge 31, 3) := by decide +kernel
theorem dX10_isSetting_35 : decode cX10_isSetting 35 = .ok (.iload 4, 2) := by decide +kernel
theorem dX10_isSetting_37 : decode cX10_isSetting 37 = .ok (.ifCond .eq 22, 3) := by decide +kernel
theorem dX10_isSetting_40 : decode cX10_isSetting 40 = .ok (.aload_n 0, 1) := by decide +kernel
theorem dX10_isSetting_41 : decode cX10_isSetting 41 = .ok (.getfield 37, 3) := by decide +kernel
theorem dX10_isSetting_44 : decode cX10_isSetting 44 = .ok (.iload 4, 2) := by decide +kernel
theorem dX10_isSetting_46 : decode cX10_isSetting 46 = .ok (.iconst 1, 1) := by decide +kernel
theorem dX10_isSetting_47 : decode cX10_isSetting 47 = .ok (.isub, 1) := by decide +kernel
theorem dX10_isSetting_48 : decode cX10_isSetting 48 = .ok (.iaload, 1) := by decide +kernel
theorem dX10_isSetting_49 : decode cX10_isSetting 49 = .ok (.aload_n 0, 1) := by decide +kernel
theorem dX10_isSetting_50 : decode cX10_isSetting 50 = .ok (.getfield 37, 3) := by decide +kernel
theorem dX10_isSetting_53 : decode cX10_isSetting 53 = .ok (.iload 4, 2) := by decide +kernel
theorem dX10_isSetting_55 : decode cX10_isSetting 55 = .ok (.iaload, 1) := by decide +kernel
theorem dX10_isSetting_56 : decode cX10_isSetting 56 = .ok (.if_icmp .gt 7, 3) := by decide +kernel
theorem dX10_isSetting_59 : decode cX10_isSetting 59 = .ok (.iconst 1, 1) := by decide +kernel
theorem dX10_isSetting_60 : decode cX10_isSetting 60 = .ok (.goto 4, 3) := by decide +kernel
theorem dX10_isSetting_63 : decode cX10_isSetting 63 = .ok (.iconst 0, 1) := by decide +kernel
theorem dX10_isSetting_64 : decode cX10_isSetting 64 = .ok (.istore_n 3, 1) := by decide +kernel
theorem dX10_isSetting_65 : decode cX10_isSetting 65 = .ok (.iinc 4 1, 3) := by decide +kernel
theorem dX10_isSetting_68 : decode cX10_isSetting 68 = .ok (.goto (-57), 3) := by decide +kernel
theorem dX10_isSetting_71 : decode cX10_isSetting 71 = .ok (.iload_n 3, 1) := by decide +kernel
theorem dX10_isSetting_72 : decode cX10_isSetting 72 = .ok (.ireturn, 1) := by decide +kernel
def f_X10_isSetting (σ : St) (v1 : Int32) (v2 : Int32) : Option (Int32 × St) :=
  cal (f_X10_spell σ v1 v2) fun _ s1 =>
    lo2 FU (fun rec4 (x2 : Int32) (x3 : Int32) =>
      (if x3 < v1 then
        (if x2 = 0 then
          rec4 (0 : Int32) (x3 + 1)
           else
          ck x3 3 <|
            (if (s1.1 108 x3.toNatClampNeg) < (s1.1 100 0) then
              (if x3 = 0 then
                rec4 (1 : Int32) (x3 + 1)
                 else
                ck (x3 - (1 : Int32)) 3 <|
                  ck x3 3 <|
                    (if (s1.1 108 x3.toNatClampNeg) < (s1.1 108 (x3 - (1 : Int32)).toNatClampNeg) then
                      rec4 (0 : Int32) (x3 + 1)
                       else
                      rec4 (1 : Int32) (x3 + 1)))
               else
              rec4 (0 : Int32) (x3 + 1)))
         else
        ckZ x2 <|
          some (x2, s1))) (1 : Int32) (0 : Int32)
set_option maxHeartbeats 4000000 in
set_option maxRecDepth 100000 in
theorem c_X10_isSetting (l : Launch) (E : Ev) (hF : Full E) (σ : St) (v1 : Int32) (v2 : Int32) : Ctr l (en2 enI) (fun q => q.2) E md_X10_isSetting [rV E 100, .int v1, .int v2] σ (f_X10_isSetting σ v1 v2) := by
  refine ctr_of rfl (Nat.le_of_ble_eq_true rfl) (fun Γ => ?_)
  show Sim _ Γ _ E md_X10_isSetting σ 0 [(0, rV E 100), (1, .int v1), (2, .int v2)] [] _
  unfold f_X10_isSetting
  refine s_aload_n dX10_isSetting_0 0 rfl rfl ?_
  refine s_iload_n dX10_isSetting_1 1 rfl rfl ?_
  refine s_iload_n dX10_isSetting_2 2 rfl rfl ?_
  refine s_callVwV (As := [.int v1, .int v2]) mf_X10_spell vf_X10_spell ml_X10_175 (c_X10_spell _ E hF σ v1 v2) (m100 hF) k100 (by decide) rfl rfl rfl rfl (Nat.le_of_ble_eq_true rfl) rfl dX10_isSetting_3 (fun _ s1 => ?_)
  refine s_iconst (v := 1) dX10_isSetting_6 (by decide) ?_
  refine s_istore_n [(3, .int (1 : Int32)), (0, rV E 100), (1, .int v1), (2, .int v2)] dX10_isSetting_7 rfl (by decide) rfl ?_
  refine s_iconst (v := 0) dX10_isSetting_8 (by decide) ?_
  refine s_istore [(4, .int (0 : Int32)), (3, .int (1 : Int32)), (0, rV E 100), (1, .int v1), (2, .int v2)] dX10_isSetting_9 (by decide) rfl ?_
  refine s_sub (lv' := [(0, rV E 100), (1, .int v1), (3, .int (1 : Int32)), (4, .int (0 : Int32))]) [2, 3, 1, 0] rfl ?_
  refine s_lo2 (σf := fun x2 x3 => s1) (lvf := fun x2 x3 => [(0, rV E 100), (1, .int v1), (3, .int x2), (4, .int x3)]) (fun rec4 ih5 x2 x3 => ?_)
  refine s_iload dX10_isSetting_11 3 rfl ?_
  refine s_iload_n dX10_isSetting_13 1 rfl rfl ?_
  refine s_icmp_ge 71 dX10_isSetting_14 (by decide) ?_ ?_
  · skip
    refine s_iload_n dX10_isSetting_17 2 rfl rfl ?_
    refine s_if_eq 63 dX10_isSetting_18 (by decide) ?_ ?_
    · skip
      refine s_iconst (v := 0) dX10_isSetting_63 (by decide) ?_
      refine s_istore_n [(3, .int (0 : Int32)), (0, rV E 100), (1, .int v1), (4, .int x3)] dX10_isSetting_64 rfl (by decide) rfl ?_
      refine s_iinc [(4, .int (x3 + 1)), (3, .int (0 : Int32)), (0, rV E 100), (1, .int v1)] dX10_isSetting_65 3 rfl rfl (by decide) rfl ?_
      refine s_goto 11 dX10_isSetting_68 (by decide) ?_
      refine s_sub [2, 3, 1, 0] rfl ?_
      exact ih5 (0 : Int32) (x3 + 1)
    · skip
      refine s_aload_n dX10_isSetting_21 0 rfl rfl ?_
      refine s_getr (b := 108) gf_X10_37 rfl (m100 hF) k100 (ft_of k100 rfl) (hF.2 _ _) rfl dX10_isSetting_22 ?_
      refine s_iload dX10_isSetting_25 3 rfl ?_
      refine s_iald (m108 hF) k108 l108 dX10_isSetting_27 ?_
      refine s_aload_n dX10_isSetting_28 0 rfl rfl ?_
      refine s_geti gf_X10_7 rfl (m100 hF) k100 (ft_of k100 rfl) dX10_isSetting_29 ?_
      refine s_icmp_ge 63 dX10_isSetting_32 (by decide) ?_ ?_
      · skip
        refine s_iload dX10_isSetting_35 3 rfl ?_
        refine s_if_eq 59 dX10_isSetting_37 (by decide) ?_ ?_
        · skip
          refine s_iconst (v := 1) dX10_isSetting_59 (by decide) ?_
          refine s_goto 64 dX10_isSetting_60 (by decide) ?_
          refine s_istore_n [(3, .int (1 : Int32)), (0, rV E 100), (1, .int v1), (4, .int x3)] dX10_isSetting_64 rfl (by decide) rfl ?_
          refine s_iinc [(4, .int (x3 + 1)), (3, .int (1 : Int32)), (0, rV E 100), (1, .int v1)] dX10_isSetting_65 3 rfl rfl (by decide) rfl ?_
          refine s_goto 11 dX10_isSetting_68 (by decide) ?_
          refine s_sub [2, 3, 1, 0] rfl ?_
          exact ih5 (1 : Int32) (x3 + 1)
        · skip
          refine s_aload_n dX10_isSetting_40 0 rfl rfl ?_
          refine s_getr (b := 108) gf_X10_37 rfl (m100 hF) k100 (ft_of k100 rfl) (hF.2 _ _) rfl dX10_isSetting_41 ?_
          refine s_iload dX10_isSetting_44 3 rfl ?_
          refine s_iconst (v := 1) dX10_isSetting_46 (by decide) ?_
          refine s_isub dX10_isSetting_47 ?_
          refine s_iald (m108 hF) k108 l108 dX10_isSetting_48 ?_
          refine s_aload_n dX10_isSetting_49 0 rfl rfl ?_
          refine s_getr (b := 108) gf_X10_37 rfl (m100 hF) k100 (ft_of k100 rfl) (hF.2 _ _) rfl dX10_isSetting_50 ?_
          refine s_iload dX10_isSetting_53 3 rfl ?_
          refine s_iald (m108 hF) k108 l108 dX10_isSetting_55 ?_
          refine s_icmp_gt 63 dX10_isSetting_56 (by decide) ?_ ?_
          · skip
            refine s_iconst (v := 0) dX10_isSetting_63 (by decide) ?_
            refine s_istore_n [(3, .int (0 : Int32)), (0, rV E 100), (1, .int v1), (4, .int x3)] dX10_isSetting_64 rfl (by decide) rfl ?_
            refine s_iinc [(4, .int (x3 + 1)), (3, .int (0 : Int32)), (0, rV E 100), (1, .int v1)] dX10_isSetting_65 3 rfl rfl (by decide) rfl ?_
            refine s_goto 11 dX10_isSetting_68 (by decide) ?_
            refine s_sub [2, 3, 1, 0] rfl ?_
            exact ih5 (0 : Int32) (x3 + 1)
          · skip
            refine s_iconst (v := 1) dX10_isSetting_59 (by decide) ?_
            refine s_goto 64 dX10_isSetting_60 (by decide) ?_
            refine s_istore_n [(3, .int (1 : Int32)), (0, rV E 100), (1, .int v1), (4, .int x3)] dX10_isSetting_64 rfl (by decide) rfl ?_
            refine s_iinc [(4, .int (x3 + 1)), (3, .int (1 : Int32)), (0, rV E 100), (1, .int v1)] dX10_isSetting_65 3 rfl rfl (by decide) rfl ?_
            refine s_goto 11 dX10_isSetting_68 (by decide) ?_
            refine s_sub [2, 3, 1, 0] rfl ?_
            exact ih5 (1 : Int32) (x3 + 1)
      · skip
        refine s_iconst (v := 0) dX10_isSetting_63 (by decide) ?_
        refine s_istore_n [(3, .int (0 : Int32)), (0, rV E 100), (1, .int v1), (4, .int x3)] dX10_isSetting_64 rfl (by decide) rfl ?_
        refine s_iinc [(4, .int (x3 + 1)), (3, .int (0 : Int32)), (0, rV E 100), (1, .int v1)] dX10_isSetting_65 3 rfl rfl (by decide) rfl ?_
        refine s_goto 11 dX10_isSetting_68 (by decide) ?_
        refine s_sub [2, 3, 1, 0] rfl ?_
        exact ih5 (0 : Int32) (x3 + 1)
  · skip
    refine s_iload_n dX10_isSetting_71 2 rfl rfl ?_
    refine s_ckZ (fun hz6 => ?_)
    exact s_zreturn rfl hz6 rfl rfl dX10_isSetting_72
theorem dX10_placesOf_0 : decode cX10_placesOf 0 = .ok (.aload_n 0, 1) := by decide +kernel
theorem dX10_placesOf_1 : decode cX10_placesOf 1 = .ok (.iload_n 1, 1) := by decide +kernel
theorem dX10_placesOf_2 : decode cX10_placesOf 2 = .ok (.iload_n 2, 1) := by decide +kernel
theorem dX10_placesOf_3 : decode cX10_placesOf 3 = .ok (.invokevirtual 175, 3) := by decide +kernel
theorem dX10_placesOf_6 : decode cX10_placesOf 6 = .ok (.iconst 0, 1) := by decide +kernel
theorem dX10_placesOf_7 : decode cX10_placesOf 7 = .ok (.istore_n 3, 1) := by decide +kernel
theorem dX10_placesOf_8 : decode cX10_placesOf 8 = .ok (.iconst 0, 1) := by decide +kernel
theorem dX10_placesOf_9 : decode cX10_placesOf 9 = .ok (.istore 4, 2) := by decide +kernel
theorem dX10_placesOf_11 : decode cX10_placesOf 11 = .ok (.iload 4, 2) := by decide +kernel
theorem dX10_placesOf_13 : decode cX10_placesOf 13 = .ok (.iload_n 1, 1) := by decide +kernel
theorem dX10_placesOf_14 : decode cX10_placesOf 14 = .ok (.if_icmp .ge 21, 3) := by decide +kernel
theorem dX10_placesOf_17 : decode cX10_placesOf 17 = .ok (.iload_n 3, 1) := by decide +kernel
theorem dX10_placesOf_18 : decode cX10_placesOf 18 = .ok (.iconst 1, 1) := by decide +kernel
theorem dX10_placesOf_19 : decode cX10_placesOf 19 = .ok (.aload_n 0, 1) := by decide +kernel
theorem dX10_placesOf_20 : decode cX10_placesOf 20 = .ok (.getfield 37, 3) := by decide +kernel
theorem dX10_placesOf_23 : decode cX10_placesOf 23 = .ok (.iload 4, 2) := by decide +kernel
theorem dX10_placesOf_25 : decode cX10_placesOf 25 = .ok (.iaload, 1) := by decide +kernel
theorem dX10_placesOf_26 : decode cX10_placesOf 26 = .ok (.ishl, 1) := by decide +kernel
theorem dX10_placesOf_27 : decode cX10_placesOf 27 = .ok (.ior, 1) := by decide +kernel
theorem dX10_placesOf_28 : decode cX10_placesOf 28 = .ok (.istore_n 3, 1) := by decide +kernel
theorem dX10_placesOf_29 : decode cX10_placesOf 29 = .ok (.iinc 4 1, 3) := by decide +kernel
theorem dX10_placesOf_32 : decode cX10_placesOf 32 = .ok (.goto (-21), 3) := by decide +kernel
theorem dX10_placesOf_35 : decode cX10_placesOf 35 = .ok (.iload_n 3, 1) := by decide +kernel
theorem dX10_placesOf_36 : decode cX10_placesOf 36 = .ok (.ireturn, 1) := by decide +kernel
def f_X10_placesOf (σ : St) (v1 : Int32) (v2 : Int32) : Option (Int32 × St) :=
  cal (f_X10_spell σ v1 v2) fun _ s1 =>
    lo2 FU (fun rec4 (x2 : Int32) (x3 : Int32) =>
      (if x3 < v1 then
        ck x3 3 <|
          bd (x2 ||| ((1 : Int32) <<< ((s1.1 108 x3.toNatClampNeg) &&& 31))) fun x6 =>
            rec4 x6 (x3 + 1)
         else
        some (x2, s1))) (0 : Int32) (0 : Int32)
set_option maxHeartbeats 4000000 in
set_option maxRecDepth 100000 in
theorem c_X10_placesOf (l : Launch) (E : Ev) (hF : Full E) (σ : St) (v1 : Int32) (v2 : Int32) : Ctr l (en2 enI) (fun q => q.2) E md_X10_placesOf [rV E 100, .int v1, .int v2] σ (f_X10_placesOf σ v1 v2) := by
  refine ctr_of rfl (Nat.le_of_ble_eq_true rfl) (fun Γ => ?_)
  show Sim _ Γ _ E md_X10_placesOf σ 0 [(0, rV E 100), (1, .int v1), (2, .int v2)] [] _
  unfold f_X10_placesOf
  refine s_aload_n dX10_placesOf_0 0 rfl rfl ?_
  refine s_iload_n dX10_placesOf_1 1 rfl rfl ?_
  refine s_iload_n dX10_placesOf_2 2 rfl rfl ?_
  refine s_callVwV (As := [.int v1, .int v2]) mf_X10_spell vf_X10_spell ml_X10_175 (c_X10_spell _ E hF σ v1 v2) (m100 hF) k100 (by decide) rfl rfl rfl rfl (Nat.le_of_ble_eq_true rfl) rfl dX10_placesOf_3 (fun _ s1 => ?_)
  refine s_iconst (v := 0) dX10_placesOf_6 (by decide) ?_
  refine s_istore_n [(3, .int (0 : Int32)), (0, rV E 100), (1, .int v1), (2, .int v2)] dX10_placesOf_7 rfl (by decide) rfl ?_
  refine s_iconst (v := 0) dX10_placesOf_8 (by decide) ?_
  refine s_istore [(4, .int (0 : Int32)), (3, .int (0 : Int32)), (0, rV E 100), (1, .int v1), (2, .int v2)] dX10_placesOf_9 (by decide) rfl ?_
  refine s_sub (lv' := [(0, rV E 100), (1, .int v1), (3, .int (0 : Int32)), (4, .int (0 : Int32))]) [2, 3, 1, 0] rfl ?_
  refine s_lo2 (σf := fun x2 x3 => s1) (lvf := fun x2 x3 => [(0, rV E 100), (1, .int v1), (3, .int x2), (4, .int x3)]) (fun rec4 ih5 x2 x3 => ?_)
  refine s_iload dX10_placesOf_11 3 rfl ?_
  refine s_iload_n dX10_placesOf_13 1 rfl rfl ?_
  refine s_icmp_ge 35 dX10_placesOf_14 (by decide) ?_ ?_
  · skip
    refine s_iload_n dX10_placesOf_17 2 rfl rfl ?_
    refine s_iconst (v := 1) dX10_placesOf_18 (by decide) ?_
    refine s_aload_n dX10_placesOf_19 0 rfl rfl ?_
    refine s_getr (b := 108) gf_X10_37 rfl (m100 hF) k100 (ft_of k100 rfl) (hF.2 _ _) rfl dX10_placesOf_20 ?_
    refine s_iload dX10_placesOf_23 3 rfl ?_
    refine s_iald (m108 hF) k108 l108 dX10_placesOf_25 ?_
    refine s_ishl dX10_placesOf_26 ?_
    refine s_ior dX10_placesOf_27 ?_
    refine s_istore_nB (fun x6 => [(3, .int x6), (0, rV E 100), (1, .int v1), (4, .int x3)]) dX10_placesOf_28 rfl (by decide) (fun _ => rfl) (fun x6 => ?_)
    refine s_iinc [(4, .int (x3 + 1)), (3, .int x6), (0, rV E 100), (1, .int v1)] dX10_placesOf_29 3 rfl rfl (by decide) rfl ?_
    refine s_goto 11 dX10_placesOf_32 (by decide) ?_
    refine s_sub [2, 3, 1, 0] rfl ?_
    exact ih5 x6 (x3 + 1)
  · skip
    refine s_iload_n dX10_placesOf_35 2 rfl rfl ?_
    exact s_ireturn rfl rfl rfl dX10_placesOf_36
theorem dX10_moved_0 : decode cX10_moved 0 = .ok (.aload_n 0, 1) := by decide +kernel
theorem dX10_moved_1 : decode cX10_moved 1 = .ok (.iload_n 1, 1) := by decide +kernel
theorem dX10_moved_2 : decode cX10_moved 2 = .ok (.iload_n 2, 1) := by decide +kernel
theorem dX10_moved_3 : decode cX10_moved 3 = .ok (.invokevirtual 175, 3) := by decide +kernel
theorem dX10_moved_6 : decode cX10_moved 6 = .ok (.iload_n 3, 1) := by decide +kernel
theorem dX10_moved_7 : decode cX10_moved 7 = .ok (.istore 4, 2) := by decide +kernel
theorem dX10_moved_9 : decode cX10_moved 9 = .ok (.iconst 1, 1) := by decide +kernel
theorem dX10_moved_10 : decode cX10_moved 10 = .ok (.istore 5, 2) := by decide +kernel
theorem dX10_moved_12 : decode cX10_moved 12 = .ok (.iload_n 1, 1) := by decide +kernel
theorem dX10_moved_13 : decode cX10_moved 13 = .ok (.iconst 1, 1) := by decide +kernel
theorem dX10_moved_14 : decode cX10_moved 14 = .ok (.isub, 1) := by decide +kernel
theorem dX10_moved_15 : decode cX10_moved 15 = .ok (.istore 6, 2) := by decide +kernel
theorem dX10_moved_17 : decode cX10_moved 17 = .ok (.iload 6, 2) := by decide +kernel
theorem dX10_moved_19 : decode cX10_moved 19 = .ok (.ifCond .lt 65, 3) := by decide +kernel
theorem dX10_moved_22 : decode cX10_moved 22 = .ok (.iload 5, 2) := by decide +kernel
theorem dX10_moved_24 : decode cX10_moved 24 = .ok (.ifCond .eq 60, 3) := by decide +kernel
theorem dX10_moved_27 : decode cX10_moved 27 = .ok (.aload_n 0, 1) := by decide +kernel
theorem dX10_moved_28 : decode cX10_moved 28 = .ok (.getfield 40, 3) := by decide +kernel
theorem dX10_moved_31 : decode cX10_moved 31 = .ok (.iload 6, 2) := by decide +kernel
theorem dX10_moved_33 : decode cX10_moved 33 = .ok (.iload 4, 2) := by decide +kernel
theorem dX10_moved_35 : decode cX10_moved 35 = .ok (.bipush 8, 2) := by decide +kernel
theorem dX10_moved_37 : decode cX10_moved 37 = .ok (.irem, 1) := by decide +kernel
theorem dX10_moved_38 : decode cX10_moved 38 = .ok (.iastore, 1) := by decide +kernel
theorem dX10_moved_39 : decode cX10_moved 39 = .ok (.iload 4, 2) := by decide +kernel
theorem dX10_moved_41 : decode cX10_moved 41 = .ok (.bipush 8, 2) := by decide +kernel
theorem dX10_moved_43 : decode cX10_moved 43 = .ok (.idiv, 1) := by decide +kernel
theorem dX10_moved_44 : decode cX10_moved 44 = .ok (.istore 4, 2) := by decide +kernel
theorem dX10_moved_46 : decode cX10_moved 46 = .ok (.aload_n 0, 1) := by decide +kernel
theorem dX10_moved_47 : decode cX10_moved 47 = .ok (.aload_n 0, 1) := by decide +kernel
theorem dX10_moved_48 : decode cX10_moved 48 = .ok (.getfield 37, 3) := by decide +kernel
theorem dX10_moved_51 : decode cX10_moved 51 = .ok (.iload 6, 2) := by decide +kernel
theorem dX10_moved_53 : decode cX10_moved 53 = .ok (.iaload, 1) := by decide +kernel
theorem dX10_moved_54 : decode cX10_moved 54 = .ok (.invokevirtual 168, 3) := by decide +kernel
theorem dX10_moved_57 : decode cX10_moved 57 = .ok (.aload_n 0, 1) := by decide +kernel
theorem dX10_moved_58 : decode cX10_moved 58 = .ok (.getfield 40, 3) := by decide +kernel
theorem dX10_moved_61 : decode cX10_moved 61 = .ok (.iload 6, 2) := by decide +kernel
theorem dX10_moved_63 : decode cX10_moved 63 = .ok (.iaload, 1) := by decide +kernel
theorem dX10_moved_64 : decode cX10_moved 64 = .ok (.ishr, 1) := by decide +kernel
theorem dX10_moved_65 : decode cX10_moved 65 = .ok (.iconst 1, 1) := by decide +kernel
theorem dX10_moved_66 : decode cX10_moved 66 = .ok (.iand, 1) := by decide +kernel
theorem dX10_moved_67 : decode cX10_moved 67 = .ok (.iconst 1, 1) := by decide +kernel
theorem dX10_moved_68 : decode cX10_moved 68 = .ok (.if_icmp .ne 7, 3) := by decide +kernel
theorem dX10_moved_71 : decode cX10_moved 71 = .ok (.iconst 1, 1) := by decide +kernel
theorem dX10_moved_72 : decode cX10_moved 72 = .ok (.goto 4, 3) := by decide +kernel
theorem dX10_moved_75 : decode cX10_moved 75 = .ok (.iconst 0, 1) := by decide +kernel
theorem dX10_moved_76 : decode cX10_moved 76 = .ok (.istore 5, 2) := by decide +kernel
theorem dX10_moved_78 : decode cX10_moved 78 = .ok (.iinc 6 (-1), 3) := by decide +kernel
theorem dX10_moved_81 : decode cX10_moved 81 = .ok (.goto (-64), 3) := by decide +kernel
theorem dX10_moved_84 : decode cX10_moved 84 = .ok (.iload 5, 2) := by decide +kernel
theorem dX10_moved_86 : decode cX10_moved 86 = .ok (.ifCond .eq 11, 3) := by decide +kernel
theorem dX10_moved_89 : decode cX10_moved 89 = .ok (.aload_n 0, 1) := by decide +kernel
theorem dX10_moved_90 : decode cX10_moved 90 = .ok (.iload_n 1, 1) := by decide +kernel
theorem dX10_moved_91 : decode cX10_moved 91 = .ok (.invokevirtual 179, 3) := by decide +kernel
theorem dX10_moved_94 : decode cX10_moved 94 = .ok (.goto 4, 3) := by decide +kernel
theorem dX10_moved_97 : decode cX10_moved 97 = .ok (.iconst (-1), 1) := by decide +kernel
theorem dX10_moved_98 : decode cX10_moved 98 = .ok (.ireturn, 1) := by decide +kernel
def f_X10_moved (σ : St) (v1 : Int32) (v2 : Int32) (v3 : Int32) : Option (Int32 × St) :=
  cal (f_X10_spell σ v1 v2) fun _ s1 =>
    bd (v1 - (1 : Int32)) fun x2 =>
      lo4 FU (fun rec7 (s3 : St) (x4 : Int32) (x5 : Int32) (x6 : Int32) =>
        jn0 (fun jk9 =>
          (if x6 < 0 then
            jk9
             else
            (if x5 = 0 then
              jk9
               else
              ck x6 3 <|
                bd (setI s3 109 x6.toNatClampNeg (x4 - x4 / (8 : Int32) * (8 : Int32))) fun s12 =>
                  bd (x4 / (8 : Int32)) fun x13 =>
                    ck x6 3 <|
                      calP (f_X10_stepsOf s12 (s12.1 108 x6.toNatClampNeg)) fun r14 =>
                        ck x6 3 <|
                          (if ((r14 >>> ((s12.1 109 x6.toNatClampNeg) &&& 31)) &&& (1 : Int32)) = (1 : Int32) then
                            rec7 s12 x13 (1 : Int32) (x6 + (-1))
                             else
                            rec7 s12 x13 (0 : Int32) (x6 + (-1))))))
          (
          (if x5 = 0 then
              some ((-1 : Int32), s3)
               else
              cal (f_X10_settled s3 v1) fun r10 s11 =>
                some (r10, s11)))) s1 v3 (1 : Int32) x2
set_option maxHeartbeats 4000000 in
set_option maxRecDepth 100000 in
theorem c_X10_moved (l : Launch) (E : Ev) (hF : Full E) (σ : St) (v1 : Int32) (v2 : Int32) (v3 : Int32) : Ctr l (en2 enI) (fun q => q.2) E md_X10_moved [rV E 100, .int v1, .int v2, .int v3] σ (f_X10_moved σ v1 v2 v3) := by
  refine ctr_of rfl (Nat.le_of_ble_eq_true rfl) (fun Γ => ?_)
  show Sim _ Γ _ E md_X10_moved σ 0 [(0, rV E 100), (1, .int v1), (2, .int v2), (3, .int v3)] [] _
  unfold f_X10_moved
  refine s_aload_n dX10_moved_0 0 rfl rfl ?_
  refine s_iload_n dX10_moved_1 1 rfl rfl ?_
  refine s_iload_n dX10_moved_2 2 rfl rfl ?_
  refine s_callVwV (As := [.int v1, .int v2]) mf_X10_spell vf_X10_spell ml_X10_175 (c_X10_spell _ E hF σ v1 v2) (m100 hF) k100 (by decide) rfl rfl rfl rfl (Nat.le_of_ble_eq_true rfl) rfl dX10_moved_3 (fun _ s1 => ?_)
  refine s_iload_n dX10_moved_6 3 rfl rfl ?_
  refine s_istore [(4, .int v3), (0, rV E 100), (1, .int v1), (2, .int v2), (3, .int v3)] dX10_moved_7 (by decide) rfl ?_
  refine s_iconst (v := 1) dX10_moved_9 (by decide) ?_
  refine s_istore [(5, .int (1 : Int32)), (4, .int v3), (0, rV E 100), (1, .int v1), (2, .int v2), (3, .int v3)] dX10_moved_10 (by decide) rfl ?_
  refine s_iload_n dX10_moved_12 3 rfl rfl ?_
  refine s_iconst (v := 1) dX10_moved_13 (by decide) ?_
  refine s_isub dX10_moved_14 ?_
  refine s_istoreB (fun x2 => [(6, .int x2), (5, .int (1 : Int32)), (4, .int v3), (0, rV E 100), (1, .int v1), (2, .int v2), (3, .int v3)]) dX10_moved_15 (by decide) (fun _ => rfl) (fun x2 => ?_)
  refine s_sub (lv' := [(0, rV E 100), (1, .int v1), (4, .int v3), (5, .int (1 : Int32)), (6, .int x2)]) [3, 4, 2, 1, 0] rfl ?_
  refine s_lo4 (σf := fun s3 x4 x5 x6 => s3) (lvf := fun s3 x4 x5 x6 => [(0, rV E 100), (1, .int v1), (4, .int x4), (5, .int x5), (6, .int x6)]) (fun rec7 ih8 s3 x4 x5 x6 => ?_)
  refine s_iload dX10_moved_17 4 rfl ?_
  refine s_jn0 s3 84 [(0, rV E 100), (1, .int v1), (5, .int x5)] [] ?_ ?_
  · skip
    refine s_iload dX10_moved_84 2 rfl ?_
    refine s_if_eq 97 dX10_moved_86 (by decide) ?_ ?_
    · skip
      refine s_iconst (v := -1) dX10_moved_97 (by decide) ?_
      exact s_ireturn rfl rfl rfl dX10_moved_98
    · skip
      refine s_aload_n dX10_moved_89 0 rfl rfl ?_
      refine s_iload_n dX10_moved_90 1 rfl rfl ?_
      refine s_callVwI (As := [.int v1]) mf_X10_settled vf_X10_settled ml_X10_179 (c_X10_settled _ E hF s3 v1) (m100 hF) k100 (by decide) rfl rfl rfl rfl (Nat.le_of_ble_eq_true rfl) rfl dX10_moved_91 (fun r10 s11 => ?_)
      refine s_goto 98 dX10_moved_94 (by decide) ?_
      exact s_ireturn rfl rfl rfl dX10_moved_98
  · intro jk9 hjk9
    refine s_if_lt 84 dX10_moved_19 (by decide) ?_ ?_
    · skip
      refine s_sub [0, 1, 3] rfl ?_
      exact hjk9
    · skip
      refine s_iload dX10_moved_22 3 rfl ?_
      refine s_if_eq 84 dX10_moved_24 (by decide) ?_ ?_
      · skip
        refine s_sub [0, 1, 3] rfl ?_
        exact hjk9
      · skip
        refine s_aload_n dX10_moved_27 0 rfl rfl ?_
        refine s_getr (b := 109) gf_X10_40 rfl (m100 hF) k100 (ft_of k100 rfl) (hF.2 _ _) rfl dX10_moved_28 ?_
        refine s_iload dX10_moved_31 4 rfl ?_
        refine s_iload dX10_moved_33 2 rfl ?_
        refine s_bipush (v := 8) dX10_moved_35 (by decide) ?_
        refine s_irem dX10_moved_37 (by decide) ?_
        refine s_iast (m109 hF) k109 l109 dX10_moved_38 (fun s12 => ?_)
        refine s_iload dX10_moved_39 2 rfl ?_
        refine s_bipush (v := 8) dX10_moved_41 (by decide) ?_
        refine s_idiv dX10_moved_43 (by decide) ?_
        refine s_istoreB (fun x13 => [(4, .int x13), (0, rV E 100), (1, .int v1), (5, .int x5), (6, .int x6)]) dX10_moved_44 (by decide) (fun _ => rfl) (fun x13 => ?_)
        refine s_aload_n dX10_moved_46 1 rfl rfl ?_
        refine s_aload_n dX10_moved_47 1 rfl rfl ?_
        refine s_getr (b := 108) gf_X10_37 rfl (m100 hF) k100 (ft_of k100 rfl) (hF.2 _ _) rfl dX10_moved_48 ?_
        refine s_iload dX10_moved_51 4 rfl ?_
        refine s_iald (m108 hF) k108 l108 dX10_moved_53 ?_
        refine s_callVpI (As := [.int (s12.1 108 x6.toNatClampNeg)]) mf_X10_stepsOf vf_X10_stepsOf ml_X10_168 (c_X10_stepsOf _ E hF s12 (s12.1 108 x6.toNatClampNeg)) (m100 hF) k100 (by decide) rfl rfl rfl rfl (Nat.le_of_ble_eq_true rfl) rfl dX10_moved_54 (fun r14 => ?_)
        refine s_aload_n dX10_moved_57 1 rfl rfl ?_
        refine s_getr (b := 109) gf_X10_40 rfl (m100 hF) k100 (ft_of k100 rfl) (hF.2 _ _) rfl dX10_moved_58 ?_
        refine s_iload dX10_moved_61 4 rfl ?_
        refine s_iald (m109 hF) k109 l109 dX10_moved_63 ?_
        refine s_ishr dX10_moved_64 ?_
        refine s_iconst (v := 1) dX10_moved_65 (by decide) ?_
        refine s_iand dX10_moved_66 ?_
        refine s_iconst (v := 1) dX10_moved_67 (by decide) ?_
        refine s_icmp_ne 75 dX10_moved_68 (by decide) ?_ ?_
        · skip
          refine s_iconst (v := 1) dX10_moved_71 (by decide) ?_
          refine s_goto 76 dX10_moved_72 (by decide) ?_
          refine s_istore [(5, .int (1 : Int32)), (4, .int x13), (0, rV E 100), (1, .int v1), (6, .int x6)] dX10_moved_76 (by decide) rfl ?_
          refine s_iinc [(6, .int (x6 + (-1))), (5, .int (1 : Int32)), (4, .int x13), (0, rV E 100), (1, .int v1)] dX10_moved_78 4 rfl rfl (by decide) rfl ?_
          refine s_goto 17 dX10_moved_81 (by decide) ?_
          refine s_sub [3, 4, 2, 1, 0] rfl ?_
          exact ih8 s12 x13 (1 : Int32) (x6 + (-1))
        · skip
          refine s_iconst (v := 0) dX10_moved_75 (by decide) ?_
          refine s_istore [(5, .int (0 : Int32)), (4, .int x13), (0, rV E 100), (1, .int v1), (6, .int x6)] dX10_moved_76 (by decide) rfl ?_
          refine s_iinc [(6, .int (x6 + (-1))), (5, .int (0 : Int32)), (4, .int x13), (0, rV E 100), (1, .int v1)] dX10_moved_78 4 rfl rfl (by decide) rfl ?_
          refine s_goto 17 dX10_moved_81 (by decide) ?_
          refine s_sub [3, 4, 2, 1, 0] rfl ?_
          exact ih8 s12 x13 (0 : Int32) (x6 + (-1))
theorem dX10_at_0 : decode cX10_at 0 = .ok (.sipush 4096, 3) := by decide +kernel
theorem dX10_at_3 : decode cX10_at 3 = .ok (.iconst 3, 1) := by decide +kernel
theorem dX10_at_4 : decode cX10_at 4 = .ok (.iload_n 0, 1) := by decide +kernel
theorem dX10_at_5 : decode cX10_at 5 = .ok (.iconst 1, 1) := by decide +kernel
theorem dX10_at_6 : decode cX10_at 6 = .ok (.isub, 1) := by decide +kernel
theorem dX10_at_7 : decode cX10_at 7 = .ok (.imul, 1) := by decide +kernel
theorem dX10_at_8 : decode cX10_at 8 = .ok (.iload_n 1, 1) := by decide +kernel
theorem dX10_at_9 : decode cX10_at 9 = .ok (.iadd, 1) := by decide +kernel
theorem dX10_at_10 : decode cX10_at 10 = .ok (.iconst 1, 1) := by decide +kernel
theorem dX10_at_11 : decode cX10_at 11 = .ok (.isub, 1) := by decide +kernel
theorem dX10_at_12 : decode cX10_at 12 = .ok (.imul, 1) := by decide +kernel
theorem dX10_at_13 : decode cX10_at 13 = .ok (.bipush 8, 2) := by decide +kernel
theorem dX10_at_15 : decode cX10_at 15 = .ok (.iload_n 2, 1) := by decide +kernel
theorem dX10_at_16 : decode cX10_at 16 = .ok (.imul, 1) := by decide +kernel
theorem dX10_at_17 : decode cX10_at 17 = .ok (.iadd, 1) := by decide +kernel
theorem dX10_at_18 : decode cX10_at 18 = .ok (.iload_n 3, 1) := by decide +kernel
theorem dX10_at_19 : decode cX10_at 19 = .ok (.iadd, 1) := by decide +kernel
theorem dX10_at_20 : decode cX10_at 20 = .ok (.ireturn, 1) := by decide +kernel
def f_X10_at (σ : St) (v0 : Int32) (v1 : Int32) (v2 : Int32) (v3 : Int32) : Option Int32 :=
  some ((((4096 : Int32) * ((((3 : Int32) * (v0 - (1 : Int32))) + v1) - (1 : Int32))) + ((8 : Int32) * v2)) + v3)
set_option maxHeartbeats 4000000 in
set_option maxRecDepth 100000 in
theorem c_X10_at (l : Launch) (E : Ev) (hF : Full E) (σ : St) (v0 : Int32) (v1 : Int32) (v2 : Int32) (v3 : Int32) : Ctr l enI (fun _ => σ) E md_X10_at [.int v0, .int v1, .int v2, .int v3] σ (f_X10_at σ v0 v1 v2 v3) := by
  refine ctr_of rfl (Nat.le_of_ble_eq_true rfl) (fun Γ => ?_)
  show Sim _ Γ _ E md_X10_at σ 0 [(0, .int v0), (1, .int v1), (2, .int v2), (3, .int v3)] [] _
  unfold f_X10_at
  refine s_sipush (v := 4096) dX10_at_0 (by decide) ?_
  refine s_iconst (v := 3) dX10_at_3 (by decide) ?_
  refine s_iload_n dX10_at_4 0 rfl rfl ?_
  refine s_iconst (v := 1) dX10_at_5 (by decide) ?_
  refine s_isub dX10_at_6 ?_
  refine s_imul dX10_at_7 ?_
  refine s_iload_n dX10_at_8 1 rfl rfl ?_
  refine s_iadd dX10_at_9 ?_
  refine s_iconst (v := 1) dX10_at_10 (by decide) ?_
  refine s_isub dX10_at_11 ?_
  refine s_imul dX10_at_12 ?_
  refine s_bipush (v := 8) dX10_at_13 (by decide) ?_
  refine s_iload_n dX10_at_15 2 rfl rfl ?_
  refine s_imul dX10_at_16 ?_
  refine s_iadd dX10_at_17 ?_
  refine s_iload_n dX10_at_18 3 rfl rfl ?_
  refine s_iadd dX10_at_19 ?_
  exact s_ireturn rfl rfl rfl dX10_at_20
theorem dX10_flight_0 : decode cX10_flight 0 = .ok (.iconst 1, 1) := by decide +kernel
theorem dX10_flight_1 : decode cX10_flight 1 = .ok (.iload_n 3, 1) := by decide +kernel
theorem dX10_flight_2 : decode cX10_flight 2 = .ok (.ishl, 1) := by decide +kernel
theorem dX10_flight_3 : decode cX10_flight 3 = .ok (.istore 4, 2) := by decide +kernel
theorem dX10_flight_5 : decode cX10_flight 5 = .ok (.iconst 0, 1) := by decide +kernel
theorem dX10_flight_6 : decode cX10_flight 6 = .ok (.istore 5, 2) := by decide +kernel
theorem dX10_flight_8 : decode cX10_flight 8 = .ok (.iload 5, 2) := by decide +kernel
theorem dX10_flight_10 : decode cX10_flight 10 = .ok (.iload_n 2, 1) := by decide +kernel
theorem dX10_flight_11 : decode cX10_flight 11 = .ok (.if_icmp .ge 21, 3) := by decide +kernel
theorem dX10_flight_14 : decode cX10_flight 14 = .ok (.aload_n 0, 1) := by decide +kernel
theorem dX10_flight_15 : decode cX10_flight 15 = .ok (.iload 4, 2) := by decide +kernel
theorem dX10_flight_17 : decode cX10_flight 17 = .ok (.invokevirtual 172, 3) := by decide +kernel
theorem dX10_flight_20 : decode cX10_flight 20 = .ok (.iload_n 1, 1) := by decide +kernel
theorem dX10_flight_21 : decode cX10_flight 21 = .ok (.iconst (-1), 1) := by decide +kernel
theorem dX10_flight_22 : decode cX10_flight 22 = .ok (.ixor, 1) := by decide +kernel
theorem dX10_flight_23 : decode cX10_flight 23 = .ok (.iand, 1) := by decide +kernel
theorem dX10_flight_24 : decode cX10_flight 24 = .ok (.istore 4, 2) := by decide +kernel
theorem dX10_flight_26 : decode cX10_flight 26 = .ok (.iinc 5 1, 3) := by decide +kernel
theorem dX10_flight_29 : decode cX10_flight 29 = .ok (.goto (-21), 3) := by decide +kernel
theorem dX10_flight_32 : decode cX10_flight 32 = .ok (.iload 4, 2) := by decide +kernel
theorem dX10_flight_34 : decode cX10_flight 34 = .ok (.ireturn, 1) := by decide +kernel
def f_X10_flight (σ : St) (v1 : Int32) (v2 : Int32) (v3 : Int32) : Option Int32 :=
  bd ((1 : Int32) <<< (v3 &&& 31)) fun x1 =>
    lo2 FU (fun rec4 (x2 : Int32) (x3 : Int32) =>
      (if x3 < v2 then
        calP (f_X10_stepped σ x2) fun r6 =>
          bd (r6 &&& (v1 ^^^ (-1 : Int32))) fun x7 =>
            rec4 x7 (x3 + 1)
         else
        some x2)) x1 (0 : Int32)
set_option maxHeartbeats 4000000 in
set_option maxRecDepth 100000 in
theorem c_X10_flight (l : Launch) (E : Ev) (hF : Full E) (σ : St) (v1 : Int32) (v2 : Int32) (v3 : Int32) : Ctr l enI (fun _ => σ) E md_X10_flight [rV E 100, .int v1, .int v2, .int v3] σ (f_X10_flight σ v1 v2 v3) := by
  refine ctr_of rfl (Nat.le_of_ble_eq_true rfl) (fun Γ => ?_)
  show Sim _ Γ _ E md_X10_flight σ 0 [(0, rV E 100), (1, .int v1), (2, .int v2), (3, .int v3)] [] _
  unfold f_X10_flight
  refine s_iconst (v := 1) dX10_flight_0 (by decide) ?_
  refine s_iload_n dX10_flight_1 3 rfl rfl ?_
  refine s_ishl dX10_flight_2 ?_
  refine s_istoreB (fun x1 => [(4, .int x1), (0, rV E 100), (1, .int v1), (2, .int v2), (3, .int v3)]) dX10_flight_3 (by decide) (fun _ => rfl) (fun x1 => ?_)
  refine s_iconst (v := 0) dX10_flight_5 (by decide) ?_
  refine s_istore [(5, .int (0 : Int32)), (4, .int x1), (0, rV E 100), (1, .int v1), (2, .int v2), (3, .int v3)] dX10_flight_6 (by decide) rfl ?_
  refine s_sub (lv' := [(0, rV E 100), (1, .int v1), (2, .int v2), (4, .int x1), (5, .int (0 : Int32))]) [2, 3, 4, 1, 0] rfl ?_
  refine s_lo2 (σf := fun x2 x3 => σ) (lvf := fun x2 x3 => [(0, rV E 100), (1, .int v1), (2, .int v2), (4, .int x2), (5, .int x3)]) (fun rec4 ih5 x2 x3 => ?_)
  refine s_iload dX10_flight_8 4 rfl ?_
  refine s_iload_n dX10_flight_10 2 rfl rfl ?_
  refine s_icmp_ge 32 dX10_flight_11 (by decide) ?_ ?_
  · skip
    refine s_aload_n dX10_flight_14 0 rfl rfl ?_
    refine s_iload dX10_flight_15 3 rfl ?_
    refine s_callVpI (As := [.int x2]) mf_X10_stepped vf_X10_stepped ml_X10_172 (c_X10_stepped _ E hF σ x2) (m100 hF) k100 (by decide) rfl rfl rfl rfl (Nat.le_of_ble_eq_true rfl) rfl dX10_flight_17 (fun r6 => ?_)
    refine s_iload_n dX10_flight_20 1 rfl rfl ?_
    refine s_iconst (v := -1) dX10_flight_21 (by decide) ?_
    refine s_ixor dX10_flight_22 ?_
    refine s_iand dX10_flight_23 ?_
    refine s_istoreB (fun x7 => [(4, .int x7), (0, rV E 100), (1, .int v1), (2, .int v2), (5, .int x3)]) dX10_flight_24 (by decide) (fun _ => rfl) (fun x7 => ?_)
    refine s_iinc [(5, .int (x3 + 1)), (4, .int x7), (0, rV E 100), (1, .int v1), (2, .int v2)] dX10_flight_26 4 rfl rfl (by decide) rfl ?_
    refine s_goto 8 dX10_flight_29 (by decide) ?_
    refine s_sub [2, 3, 4, 1, 0] rfl ?_
    exact ih5 x7 (x3 + 1)
  · skip
    refine s_iload dX10_flight_32 3 rfl ?_
    exact s_ireturn rfl rfl rfl dX10_flight_34
theorem dX10_behind_0 : decode cX10_behind 0 = .ok (.iconst 0, 1) := by decide +kernel
theorem dX10_behind_1 : decode cX10_behind 1 = .ok (.istore 5, 2) := by decide +kernel
theorem dX10_behind_3 : decode cX10_behind 3 = .ok (.aload_n 0, 1) := by decide +kernel
theorem dX10_behind_4 : decode cX10_behind 4 = .ok (.getfield 31, 3) := by decide +kernel
theorem dX10_behind_7 : decode cX10_behind 7 = .ok (.bipush 8, 2) := by decide +kernel
theorem dX10_behind_9 : decode cX10_behind 9 = .ok (.iload_n 3, 1) := by decide +kernel
theorem dX10_behind_10 : decode cX10_behind 10 = .ok (.imul, 1) := by decide +kernel
theorem dX10_behind_11 : decode cX10_behind 11 = .ok (.iload 4, 2) := by decide +kernel
theorem dX10_behind_13 : decode cX10_behind 13 = .ok (.iadd, 1) := by decide +kernel
theorem dX10_behind_14 : decode cX10_behind 14 = .ok (.iaload, 1) := by decide +kernel
theorem dX10_behind_15 : decode cX10_behind 15 = .ok (.istore 6, 2) := by decide +kernel
theorem dX10_behind_17 : decode cX10_behind 17 = .ok (.iconst 0, 1) := by decide +kernel
theorem dX10_behind_18 : decode cX10_behind 18 = .ok (.istore 7, 2) := by decide +kernel
theorem dX10_behind_20 : decode cX10_behind 20 = .ok (.iload 7, 2) := by decide +kernel
theorem dX10_behind_22 : decode cX10_behind 22 = .ok (.aload_n 0, 1) := by decide +kernel
theorem dX10_behind_23 : decode cX10_behind 23 = .ok (.getfield 7, 3) := by decide +kernel
theorem dX10_behind_26 : decode cX10_behind 26 = .ok (.if_icmp .ge 71, 3) := by decide +kernel
theorem dX10_behind_29 : decode cX10_behind 29 = .ok (.iload 5, 2) := by decide +kernel
theorem dX10_behind_31 : decode cX10_behind 31 = .ok (.iconst (-1), 1) := by decide +kernel
theorem dX10_behind_32 : decode cX10_behind 32 = .ok (.if_icmp .eq 65, 3) := by decide +kernel
theorem dX10_behind_35 : decode cX10_behind 35 = .ok (.iload 6, 2) := by decide +kernel
theorem dX10_behind_37 : decode cX10_behind 37 = .ok (.iload 7, 2) := by decide +kernel
theorem dX10_behind_39 : decode cX10_behind 39 = .ok (.ishr, 1) := by decide +kernel
theorem dX10_behind_40 : decode cX10_behind 40 = .ok (.iconst 1, 1) := by decide +kernel
theorem dX10_behind_41 : decode cX10_behind 41 = .ok (.iand, 1) := by decide +kernel
theorem dX10_behind_42 : decode cX10_behind 42 = .ok (.iconst 1, 1) := by decide +kernel
theorem dX10_behind_43 : decode cX10_behind 43 = .ok (.if_icmp .ne 19, 3) := by decide +kernel
theorem dX10_behind_46 : decode cX10_behind 46 = .ok (.aload_n 0, 1) := by decide +kernel
theorem dX10_behind_47 : decode cX10_behind 47 = .ok (.getfield 28, 3) := by decide +kernel
theorem dX10_behind_50 : decode cX10_behind 50 = .ok (.iload_n 1, 1) := by decide +kernel
theorem dX10_behind_51 : decode cX10_behind 51 = .ok (.iload_n 2, 1) := by decide +kernel
theorem dX10_behind_52 : decode cX10_behind 52 = .ok (.iload_n 3, 1) := by decide +kernel
theorem dX10_behind_53 : decode cX10_behind 53 = .ok (.iload 7, 2) := by decide +kernel
theorem dX10_behind_55 : decode cX10_behind 55 = .ok (.invokestatic 182, 3) := by decide +kernel
theorem dX10_behind_58 : decode cX10_behind 58 = .ok (.iaload, 1) := by decide +kernel
theorem dX10_behind_59 : decode cX10_behind 59 = .ok (.goto 4, 3) := by decide +kernel
theorem dX10_behind_62 : decode cX10_behind 62 = .ok (.iconst 0, 1) := by decide +kernel
theorem dX10_behind_63 : decode cX10_behind 63 = .ok (.istore 8, 2) := by decide +kernel
theorem dX10_behind_65 : decode cX10_behind 65 = .ok (.iload 8, 2) := by decide +kernel
theorem dX10_behind_67 : decode cX10_behind 67 = .ok (.iconst (-1), 1) := by decide +kernel
theorem dX10_behind_68 : decode cX10_behind 68 = .ok (.if_icmp .ne 7, 3) := by decide +kernel
theorem dX10_behind_71 : decode cX10_behind 71 = .ok (.iconst (-1), 1) := by decide +kernel
theorem dX10_behind_72 : decode cX10_behind 72 = .ok (.goto 17, 3) := by decide +kernel
theorem dX10_behind_75 : decode cX10_behind 75 = .ok (.iload 8, 2) := by decide +kernel
theorem dX10_behind_77 : decode cX10_behind 77 = .ok (.iload 5, 2) := by decide +kernel
theorem dX10_behind_79 : decode cX10_behind 79 = .ok (.if_icmp .le 8, 3) := by decide +kernel
theorem dX10_behind_82 : decode cX10_behind 82 = .ok (.iload 8, 2) := by decide +kernel
theorem dX10_behind_84 : decode cX10_behind 84 = .ok (.goto 5, 3) := by decide +kernel
theorem dX10_behind_87 : decode cX10_behind 87 = .ok (.iload 5, 2) := by decide +kernel
theorem dX10_behind_89 : decode cX10_behind 89 = .ok (.istore 5, 2) := by decide +kernel
theorem dX10_behind_91 : decode cX10_behind 91 = .ok (.iinc 7 1, 3) := by decide +kernel
theorem dX10_behind_94 : decode cX10_behind 94 = .ok (.goto (-74), 3) := by decide +kernel
theorem dX10_behind_97 : decode cX10_behind 97 = .ok (.iload 5, 2) := by decide +kernel
theorem dX10_behind_99 : decode cX10_behind 99 = .ok (.ireturn, 1) := by decide +kernel
def f_X10_behind (σ : St) (v1 : Int32) (v2 : Int32) (v3 : Int32) (v4 : Int32) : Option Int32 :=
  ck (((8 : Int32) * v3) + v4) 4096 <|
    bd (σ.1 106 (((8 : Int32) * v3) + v4).toNatClampNeg) fun x1 =>
      lo2 FU (fun rec4 (x2 : Int32) (x3 : Int32) =>
        (if x3 < (σ.1 100 0) then
          (if x2 = (-1 : Int32) then
            some x2
             else
            jn1 (fun jk7 =>
              (if ((x1 >>> (x3 &&& 31)) &&& (1 : Int32)) = (1 : Int32) then
                calP (f_X10_at σ v1 v2 v3 x3) fun r8 =>
                  ck r8 36864 <|
                    jk7 (σ.1 105 r8.toNatClampNeg)
                 else
                jk7 (0 : Int32)))
              (fun (x6 : Int32) => 
              (if x6 = (-1 : Int32) then
                  rec4 (-1 : Int32) (x3 + 1)
                   else
                  (if x2 < x6 then
                    rec4 x6 (x3 + 1)
                     else
                    rec4 x2 (x3 + 1)))))
           else
          some x2)) (0 : Int32) (0 : Int32)
set_option maxHeartbeats 4000000 in
set_option maxRecDepth 100000 in
theorem c_X10_behind (l : Launch) (E : Ev) (hF : Full E) (σ : St) (v1 : Int32) (v2 : Int32) (v3 : Int32) (v4 : Int32) : Ctr l enI (fun _ => σ) E md_X10_behind [rV E 100, .int v1, .int v2, .int v3, .int v4] σ (f_X10_behind σ v1 v2 v3 v4) := by
  refine ctr_of rfl (Nat.le_of_ble_eq_true rfl) (fun Γ => ?_)
  show Sim _ Γ _ E md_X10_behind σ 0 [(0, rV E 100), (1, .int v1), (2, .int v2), (3, .int v3), (4, .int v4)] [] _
  unfold f_X10_behind
  refine s_iconst (v := 0) dX10_behind_0 (by decide) ?_
  refine s_istore [(5, .int (0 : Int32)), (0, rV E 100), (1, .int v1), (2, .int v2), (3, .int v3), (4, .int v4)] dX10_behind_1 (by decide) rfl ?_
  refine s_aload_n dX10_behind_3 1 rfl rfl ?_
  refine s_getr (b := 106) gf_X10_31 rfl (m100 hF) k100 (ft_of k100 rfl) (hF.2 _ _) rfl dX10_behind_4 ?_
  refine s_bipush (v := 8) dX10_behind_7 (by decide) ?_
  refine s_iload_n dX10_behind_9 4 rfl rfl ?_
  refine s_imul dX10_behind_10 ?_
  refine s_iload dX10_behind_11 5 rfl ?_
  refine s_iadd dX10_behind_13 ?_
  refine s_iald (m106 hF) k106 l106 dX10_behind_14 ?_
  refine s_istoreB (fun x1 => [(6, .int x1), (5, .int (0 : Int32)), (0, rV E 100), (1, .int v1), (2, .int v2), (3, .int v3), (4, .int v4)]) dX10_behind_15 (by decide) (fun _ => rfl) (fun x1 => ?_)
  refine s_iconst (v := 0) dX10_behind_17 (by decide) ?_
  refine s_istore [(7, .int (0 : Int32)), (6, .int x1), (5, .int (0 : Int32)), (0, rV E 100), (1, .int v1), (2, .int v2), (3, .int v3), (4, .int v4)] dX10_behind_18 (by decide) rfl ?_
  refine s_sub (lv' := [(0, rV E 100), (1, .int v1), (2, .int v2), (3, .int v3), (5, .int (0 : Int32)), (6, .int x1), (7, .int (0 : Int32))]) [3, 4, 5, 6, 2, 1, 0] rfl ?_
  refine s_lo2 (σf := fun x2 x3 => σ) (lvf := fun x2 x3 => [(0, rV E 100), (1, .int v1), (2, .int v2), (3, .int v3), (5, .int x2), (6, .int x1), (7, .int x3)]) (fun rec4 ih5 x2 x3 => ?_)
  refine s_iload dX10_behind_20 6 rfl ?_
  refine s_aload_n dX10_behind_22 0 rfl rfl ?_
  refine s_geti gf_X10_7 rfl (m100 hF) k100 (ft_of k100 rfl) dX10_behind_23 ?_
  refine s_icmp_ge 97 dX10_behind_26 (by decide) ?_ ?_
  · skip
    refine s_iload dX10_behind_29 4 rfl ?_
    refine s_iconst (v := -1) dX10_behind_31 (by decide) ?_
    refine s_icmp_eq 97 dX10_behind_32 (by decide) ?_ ?_
    · skip
      refine s_iload dX10_behind_97 4 rfl ?_
      exact s_ireturn rfl rfl rfl dX10_behind_99
    · skip
      refine s_iload dX10_behind_35 5 rfl ?_
      refine s_iload dX10_behind_37 6 rfl ?_
      refine s_ishr dX10_behind_39 ?_
      refine s_iconst (v := 1) dX10_behind_40 (by decide) ?_
      refine s_iand dX10_behind_41 ?_
      refine s_iconst (v := 1) dX10_behind_42 (by decide) ?_
      refine s_jn1 63 (fun x6 => σ) (fun x6 => [(0, rV E 100), (1, .int v1), (2, .int v2), (3, .int v3), (5, .int x2), (6, .int x1), (7, .int x3)]) (fun x6 => [.int x6]) ?_ ?_
      · intro x6
        refine s_istore [(8, .int x6), (0, rV E 100), (1, .int v1), (2, .int v2), (3, .int v3), (5, .int x2), (6, .int x1), (7, .int x3)] dX10_behind_63 (by decide) rfl ?_
        refine s_iload dX10_behind_65 0 rfl ?_
        refine s_iconst (v := -1) dX10_behind_67 (by decide) ?_
        refine s_icmp_ne 75 dX10_behind_68 (by decide) ?_ ?_
        · skip
          refine s_iconst (v := -1) dX10_behind_71 (by decide) ?_
          refine s_goto 89 dX10_behind_72 (by decide) ?_
          refine s_istore [(5, .int (-1 : Int32)), (8, .int x6), (0, rV E 100), (1, .int v1), (2, .int v2), (3, .int v3), (6, .int x1), (7, .int x3)] dX10_behind_89 (by decide) rfl ?_
          refine s_iinc [(7, .int (x3 + 1)), (5, .int (-1 : Int32)), (8, .int x6), (0, rV E 100), (1, .int v1), (2, .int v2), (3, .int v3), (6, .int x1)] dX10_behind_91 7 rfl rfl (by decide) rfl ?_
          refine s_goto 20 dX10_behind_94 (by decide) ?_
          refine s_sub [3, 4, 5, 6, 1, 7, 0] rfl ?_
          exact ih5 (-1 : Int32) (x3 + 1)
        · skip
          refine s_iload dX10_behind_75 0 rfl ?_
          refine s_iload dX10_behind_77 5 rfl ?_
          refine s_icmp_le 87 dX10_behind_79 (by decide) ?_ ?_
          · skip
            refine s_iload dX10_behind_82 0 rfl ?_
            refine s_goto 89 dX10_behind_84 (by decide) ?_
            refine s_istore [(5, .int x6), (8, .int x6), (0, rV E 100), (1, .int v1), (2, .int v2), (3, .int v3), (6, .int x1), (7, .int x3)] dX10_behind_89 (by decide) rfl ?_
            refine s_iinc [(7, .int (x3 + 1)), (5, .int x6), (8, .int x6), (0, rV E 100), (1, .int v1), (2, .int v2), (3, .int v3), (6, .int x1)] dX10_behind_91 7 rfl rfl (by decide) rfl ?_
            refine s_goto 20 dX10_behind_94 (by decide) ?_
            refine s_sub [3, 4, 5, 6, 1, 7, 0] rfl ?_
            exact ih5 x6 (x3 + 1)
          · skip
            refine s_iload dX10_behind_87 5 rfl ?_
            refine s_istore [(5, .int x2), (8, .int x6), (0, rV E 100), (1, .int v1), (2, .int v2), (3, .int v3), (6, .int x1), (7, .int x3)] dX10_behind_89 (by decide) rfl ?_
            refine s_iinc [(7, .int (x3 + 1)), (5, .int x2), (8, .int x6), (0, rV E 100), (1, .int v1), (2, .int v2), (3, .int v3), (6, .int x1)] dX10_behind_91 7 rfl rfl (by decide) rfl ?_
            refine s_goto 20 dX10_behind_94 (by decide) ?_
            refine s_sub [3, 4, 5, 6, 1, 7, 0] rfl ?_
            exact ih5 x2 (x3 + 1)
      · intro jk7 hjk7
        refine s_icmp_ne 62 dX10_behind_43 (by decide) ?_ ?_
        · skip
          refine s_aload_n dX10_behind_46 0 rfl rfl ?_
          refine s_getr (b := 105) gf_X10_28 rfl (m100 hF) k100 (ft_of k100 rfl) (hF.2 _ _) rfl dX10_behind_47 ?_
          refine s_iload_n dX10_behind_50 1 rfl rfl ?_
          refine s_iload_n dX10_behind_51 2 rfl rfl ?_
          refine s_iload_n dX10_behind_52 3 rfl rfl ?_
          refine s_iload dX10_behind_53 6 rfl ?_
          refine s_callSpI (As := [.int v1, .int v2, .int v3, .int x3]) mf_X10_at vf_X10_at ml_X10_182 (c_X10_at _ E hF σ v1 v2 v3 x3) rfl rfl (Nat.le_of_ble_eq_true rfl) rfl dX10_behind_55 (fun r8 => ?_)
          refine s_iald (m105 hF) k105 l105 dX10_behind_58 ?_
          refine s_goto 63 dX10_behind_59 (by decide) ?_
          exact hjk7 (σ.1 105 r8.toNatClampNeg)
        · skip
          refine s_iconst (v := 0) dX10_behind_62 (by decide) ?_
          exact hjk7 (0 : Int32)
  · skip
    refine s_iload dX10_behind_97 4 rfl ?_
    exact s_ireturn rfl rfl rfl dX10_behind_99
theorem dX10_findFlights_0 : decode cX10_findFlights 0 = .ok (.iconst 0, 1) := by decide +kernel
theorem dX10_findFlights_1 : decode cX10_findFlights 1 = .ok (.istore_n 3, 1) := by decide +kernel
theorem dX10_findFlights_2 : decode cX10_findFlights 2 = .ok (.iload_n 3, 1) := by decide +kernel
theorem dX10_findFlights_3 : decode cX10_findFlights 3 = .ok (.iload_n 1, 1) := by decide +kernel
theorem dX10_findFlights_4 : decode cX10_findFlights 4 = .ok (.invokestatic 186, 3) := by decide +kernel
theorem dX10_findFlights_7 : decode cX10_findFlights 7 = .ok (.if_icmp .ge 80, 3) := by decide +kernel
theorem dX10_findFlights_10 : decode cX10_findFlights 10 = .ok (.aload_n 0, 1) := by decide +kernel
theorem dX10_findFlights_11 : decode cX10_findFlights 11 = .ok (.iload_n 1, 1) := by decide +kernel
theorem dX10_findFlights_12 : decode cX10_findFlights 12 = .ok (.iload_n 3, 1) := by decide +kernel
theorem dX10_findFlights_13 : decode cX10_findFlights 13 = .ok (.invokevirtual 189, 3) := by decide +kernel
theorem dX10_findFlights_16 : decode cX10_findFlights 16 = .ok (.ifCond .eq 65, 3) := by decide +kernel
theorem dX10_findFlights_19 : decode cX10_findFlights 19 = .ok (.aload_n 0, 1) := by decide +kernel
theorem dX10_findFlights_20 : decode cX10_findFlights 20 = .ok (.iload_n 1, 1) := by decide +kernel
theorem dX10_findFlights_21 : decode cX10_findFlights 21 = .ok (.iload_n 3, 1) := by decide +kernel
theorem dX10_findFlights_22 : decode cX10_findFlights 22 = .ok (.invokevirtual 193, 3) := by decide +kernel
theorem dX10_findFlights_25 : decode cX10_findFlights 25 = .ok (.istore 4, 2) := by decide +kernel
theorem dX10_findFlights_27 : decode cX10_findFlights 27 = .ok (.iconst 0, 1) := by decide +kernel
theorem dX10_findFlights_28 : decode cX10_findFlights 28 = .ok (.istore 5, 2) := by decide +kernel
theorem dX10_findFlights_30 : decode cX10_findFlights 30 = .ok (.iload 5, 2) := by decide +kernel
theorem dX10_findFlights_32 : decode cX10_findFlights 32 = .ok (.aload_n 0, 1) := by decide +kernel
theorem dX10_findFlights_33 : decode cX10_findFlights 33 = .ok (.getfield 7, 3) := by decide +kernel
theorem dX10_findFlights_36 : decode cX10_findFlights 36 = .ok (.if_icmp .ge 45, 3) := by decide +kernel
theorem dX10_findFlights_39 : decode cX10_findFlights 39 = .ok (.aload_n 0, 1) := by decide +kernel
theorem dX10_findFlights_40 : decode cX10_findFlights 40 = .ok (.getfield 31, 3) := by decide +kernel
theorem dX10_findFlights_43 : decode cX10_findFlights 43 = .ok (.bipush 8, 2) := by decide +kernel
theorem dX10_findFlights_45 : decode cX10_findFlights 45 = .ok (.iload_n 3, 1) := by decide +kernel
theorem dX10_findFlights_46 : decode cX10_findFlights 46 = .ok (.imul, 1) := by decide +kernel
theorem dX10_findFlights_47 : decode cX10_findFlights 47 = .ok (.iload 5, 2) := by decide +kernel
theorem dX10_findFlights_49 : decode cX10_findFlights 49 = .ok (.iadd, 1) := by decide +kernel
theorem dX10_findFlights_50 : decode cX10_findFlights 50 = .ok (.iload 4, 2) := by decide +kernel
theorem dX10_findFlights_52 : decode cX10_findFlights 52 = .ok (.iload 5, 2) := by decide +kernel
theorem dX10_findFlights_54 : decode cX10_findFlights 54 = .ok (.ishr, 1) := by decide +kernel
theorem dX10_findFlights_55 : decode cX10_findFlights 55 = .ok (.iconst 1, 1) := by decide +kernel
theorem dX10_findFlights_56 : decode cX10_findFlights 56 = .ok (.iand, 1) := by decide +kernel
theorem dX10_findFlights_57 : decode cX10_findFlights 57 = .ok (.iconst 1, 1) := by decide +kernel
theorem dX10_findFlights_58 : decode cX10_findFlights 58 = .ok (.if_icmp .ne 7, 3) := by decide +kernel
theorem dX10_findFlights_61 : decode cX10_findFlights 61 = .ok (.iconst 0, 1) := by decide +kernel
theorem dX10_findFlights_62 : decode cX10_findFlights 62 = .ok (.goto 12, 3) := by decide +kernel
theorem dX10_findFlights_65 : decode cX10_findFlights 65 = .ok (.aload_n 0, 1) := by decide +kernel
theorem dX10_findFlights_66 : decode cX10_findFlights 66 = .ok (.iload 4, 2) := by decide +kernel
theorem dX10_findFlights_68 : decode cX10_findFlights 68 = .ok (.iload_n 2, 1) := by decide +kernel
theorem dX10_findFlights_69 : decode cX10_findFlights 69 = .ok (.iload 5, 2) := by decide +kernel
theorem dX10_findFlights_71 : decode cX10_findFlights 71 = .ok (.invokevirtual 197, 3) := by decide +kernel
theorem dX10_findFlights_74 : decode cX10_findFlights 74 = .ok (.iastore, 1) := by decide +kernel
theorem dX10_findFlights_75 : decode cX10_findFlights 75 = .ok (.iinc 5 1, 3) := by decide +kernel
theorem dX10_findFlights_78 : decode cX10_findFlights 78 = .ok (.goto (-48), 3) := by decide +kernel
theorem dX10_findFlights_81 : decode cX10_findFlights 81 = .ok (.iinc 3 1, 3) := by decide +kernel
theorem dX10_findFlights_84 : decode cX10_findFlights 84 = .ok (.goto (-82), 3) := by decide +kernel
theorem dX10_findFlights_87 : decode cX10_findFlights 87 = .ok (.return_, 1) := by decide +kernel
def f_X10_findFlights (σ : St) (v1 : Int32) (v2 : Int32) : Option (Unit × St) :=
  lo2 FU (fun rec3 (s1 : St) (x2 : Int32) =>
    calP (f_X10_powerOf s1 v1) fun r5 =>
      (if x2 < r5 then
        cal (f_X10_isSetting s1 v1 x2) fun r6 s7 =>
          (if r6 = 0 then
            rec3 s7 (x2 + 1)
             else
            cal (f_X10_placesOf s7 v1 x2) fun r8 s9 =>
              lo2 FU (fun rec12 (s10 : St) (x11 : Int32) =>
                (if x11 < (s10.1 100 0) then
                  (if ((r8 >>> (x11 &&& 31)) &&& (1 : Int32)) = (1 : Int32) then
                    ck (((8 : Int32) * x2) + x11) 4096 <|
                      bd (setI s10 106 (((8 : Int32) * x2) + x11).toNatClampNeg (0 : Int32)) fun s14 =>
                        rec12 s14 (x11 + 1)
                     else
                    calP (f_X10_flight s10 r8 v2 x11) fun r15 =>
                      ck (((8 : Int32) * x2) + x11) 4096 <|
                        bd (setI s10 106 (((8 : Int32) * x2) + x11).toNatClampNeg r15) fun s16 =>
                          rec12 s16 (x11 + 1))
                   else
                  rec3 s10 (x2 + 1))) s9 (0 : Int32))
         else
        some ((), s1))) σ (0 : Int32)
set_option maxHeartbeats 4000000 in
set_option maxRecDepth 100000 in
theorem c_X10_findFlights (l : Launch) (E : Ev) (hF : Full E) (σ : St) (v1 : Int32) (v2 : Int32) : Ctr l (en2 enV) (fun q => q.2) E md_X10_findFlights [rV E 100, .int v1, .int v2] σ (f_X10_findFlights σ v1 v2) := by
  refine ctr_of rfl (Nat.le_of_ble_eq_true rfl) (fun Γ => ?_)
  show Sim _ Γ _ E md_X10_findFlights σ 0 [(0, rV E 100), (1, .int v1), (2, .int v2)] [] _
  unfold f_X10_findFlights
  refine s_iconst (v := 0) dX10_findFlights_0 (by decide) ?_
  refine s_istore_n [(3, .int (0 : Int32)), (0, rV E 100), (1, .int v1), (2, .int v2)] dX10_findFlights_1 rfl (by decide) rfl ?_
  refine s_sub (lv' := [(0, rV E 100), (1, .int v1), (2, .int v2), (3, .int (0 : Int32))]) [1, 2, 3, 0] rfl ?_
  refine s_lo2 (σf := fun s1 x2 => s1) (lvf := fun s1 x2 => [(0, rV E 100), (1, .int v1), (2, .int v2), (3, .int x2)]) (fun rec3 ih4 s1 x2 => ?_)
  refine s_iload_n dX10_findFlights_2 3 rfl rfl ?_
  refine s_iload_n dX10_findFlights_3 1 rfl rfl ?_
  refine s_callSpI (As := [.int v1]) mf_X10_powerOf vf_X10_powerOf ml_X10_186 (c_X10_powerOf _ E hF s1 v1) rfl rfl (Nat.le_of_ble_eq_true rfl) rfl dX10_findFlights_4 (fun r5 => ?_)
  refine s_icmp_ge 87 dX10_findFlights_7 (by decide) ?_ ?_
  · skip
    refine s_aload_n dX10_findFlights_10 0 rfl rfl ?_
    refine s_iload_n dX10_findFlights_11 1 rfl rfl ?_
    refine s_iload_n dX10_findFlights_12 3 rfl rfl ?_
    refine s_callVwI (As := [.int v1, .int x2]) mf_X10_isSetting vf_X10_isSetting ml_X10_189 (c_X10_isSetting _ E hF s1 v1 x2) (m100 hF) k100 (by decide) rfl rfl rfl rfl (Nat.le_of_ble_eq_true rfl) rfl dX10_findFlights_13 (fun r6 s7 => ?_)
    refine s_if_eq 81 dX10_findFlights_16 (by decide) ?_ ?_
    · skip
      refine s_iinc [(3, .int (x2 + 1)), (0, rV E 100), (1, .int v1), (2, .int v2)] dX10_findFlights_81 3 rfl rfl (by decide) rfl ?_
      refine s_goto 2 dX10_findFlights_84 (by decide) ?_
      refine s_sub [1, 2, 3, 0] rfl ?_
      exact ih4 s7 (x2 + 1)
    · skip
      refine s_aload_n dX10_findFlights_19 0 rfl rfl ?_
      refine s_iload_n dX10_findFlights_20 1 rfl rfl ?_
      refine s_iload_n dX10_findFlights_21 3 rfl rfl ?_
      refine s_callVwI (As := [.int v1, .int x2]) mf_X10_placesOf vf_X10_placesOf ml_X10_193 (c_X10_placesOf _ E hF s7 v1 x2) (m100 hF) k100 (by decide) rfl rfl rfl rfl (Nat.le_of_ble_eq_true rfl) rfl dX10_findFlights_22 (fun r8 s9 => ?_)
      refine s_istore [(4, .int r8), (0, rV E 100), (1, .int v1), (2, .int v2), (3, .int x2)] dX10_findFlights_25 (by decide) rfl ?_
      refine s_iconst (v := 0) dX10_findFlights_27 (by decide) ?_
      refine s_istore [(5, .int (0 : Int32)), (4, .int r8), (0, rV E 100), (1, .int v1), (2, .int v2), (3, .int x2)] dX10_findFlights_28 (by decide) rfl ?_
      refine s_sub (lv' := [(0, rV E 100), (1, .int v1), (2, .int v2), (3, .int x2), (4, .int r8), (5, .int (0 : Int32))]) [2, 3, 4, 5, 1, 0] rfl ?_
      refine s_lo2 (σf := fun s10 x11 => s10) (lvf := fun s10 x11 => [(0, rV E 100), (1, .int v1), (2, .int v2), (3, .int x2), (4, .int r8), (5, .int x11)]) (fun rec12 ih13 s10 x11 => ?_)
      refine s_iload dX10_findFlights_30 5 rfl ?_
      refine s_aload_n dX10_findFlights_32 0 rfl rfl ?_
      refine s_geti gf_X10_7 rfl (m100 hF) k100 (ft_of k100 rfl) dX10_findFlights_33 ?_
      refine s_icmp_ge 81 dX10_findFlights_36 (by decide) ?_ ?_
      · skip
        refine s_aload_n dX10_findFlights_39 0 rfl rfl ?_
        refine s_getr (b := 106) gf_X10_31 rfl (m100 hF) k100 (ft_of k100 rfl) (hF.2 _ _) rfl dX10_findFlights_40 ?_
        refine s_bipush (v := 8) dX10_findFlights_43 (by decide) ?_
        refine s_iload_n dX10_findFlights_45 3 rfl rfl ?_
        refine s_imul dX10_findFlights_46 ?_
        refine s_iload dX10_findFlights_47 5 rfl ?_
        refine s_iadd dX10_findFlights_49 ?_
        refine s_iload dX10_findFlights_50 4 rfl ?_
        refine s_iload dX10_findFlights_52 5 rfl ?_
        refine s_ishr dX10_findFlights_54 ?_
        refine s_iconst (v := 1) dX10_findFlights_55 (by decide) ?_
        refine s_iand dX10_findFlights_56 ?_
        refine s_iconst (v := 1) dX10_findFlights_57 (by decide) ?_
        refine s_icmp_ne 65 dX10_findFlights_58 (by decide) ?_ ?_
        · skip
          refine s_iconst (v := 0) dX10_findFlights_61 (by decide) ?_
          refine s_goto 74 dX10_findFlights_62 (by decide) ?_
          refine s_iast (m106 hF) k106 l106 dX10_findFlights_74 (fun s14 => ?_)
          refine s_iinc [(5, .int (x11 + 1)), (0, rV E 100), (1, .int v1), (2, .int v2), (3, .int x2), (4, .int r8)] dX10_findFlights_75 5 rfl rfl (by decide) rfl ?_
          refine s_goto 30 dX10_findFlights_78 (by decide) ?_
          refine s_sub [1, 2, 3, 4, 5, 0] rfl ?_
          exact ih13 s14 (x11 + 1)
        · skip
          refine s_aload_n dX10_findFlights_65 0 rfl rfl ?_
          refine s_iload dX10_findFlights_66 4 rfl ?_
          refine s_iload_n dX10_findFlights_68 2 rfl rfl ?_
          refine s_iload dX10_findFlights_69 5 rfl ?_
          refine s_callVpI (As := [.int r8, .int v2, .int x11]) mf_X10_flight vf_X10_flight ml_X10_197 (c_X10_flight _ E hF s10 r8 v2 x11) (m100 hF) k100 (by decide) rfl rfl rfl rfl (Nat.le_of_ble_eq_true rfl) rfl dX10_findFlights_71 (fun r15 => ?_)
          refine s_iast (m106 hF) k106 l106 dX10_findFlights_74 (fun s16 => ?_)
          refine s_iinc [(5, .int (x11 + 1)), (0, rV E 100), (1, .int v1), (2, .int v2), (3, .int x2), (4, .int r8)] dX10_findFlights_75 5 rfl rfl (by decide) rfl ?_
          refine s_goto 30 dX10_findFlights_78 (by decide) ?_
          refine s_sub [1, 2, 3, 4, 5, 0] rfl ?_
          exact ih13 s16 (x11 + 1)
      · skip
        refine s_iinc [(3, .int (x2 + 1)), (0, rV E 100), (1, .int v1), (2, .int v2), (4, .int r8), (5, .int x11)] dX10_findFlights_81 3 rfl rfl (by decide) rfl ?_
        refine s_goto 2 dX10_findFlights_84 (by decide) ?_
        refine s_sub [1, 2, 3, 0] rfl ?_
        exact ih4 s10 (x2 + 1)
  · skip
    exact s_return rfl rfl rfl dX10_findFlights_87
theorem dX10_leavable_0 : decode cX10_leavable 0 = .ok (.iconst 0, 1) := by decide +kernel
theorem dX10_leavable_1 : decode cX10_leavable 1 = .ok (.istore_n 3, 1) := by decide +kernel
theorem dX10_leavable_2 : decode cX10_leavable 2 = .ok (.iconst 0, 1) := by decide +kernel
theorem dX10_leavable_3 : decode cX10_leavable 3 = .ok (.istore 4, 2) := by decide +kernel
theorem dX10_leavable_5 : decode cX10_leavable 5 = .ok (.iload 4, 2) := by decide +kernel
theorem dX10_leavable_7 : decode cX10_leavable 7 = .ok (.iload_n 1, 1) := by decide +kernel
theorem dX10_leavable_8 : decode cX10_leavable 8 = .ok (.invokestatic 186, 3) := by decide +kernel
theorem dX10_leavable_11 : decode cX10_leavable 11 = .ok (.if_icmp .ge 39, 3) := by decide +kernel
theorem dX10_leavable_14 : decode cX10_leavable 14 = .ok (.aload_n 0, 1) := by decide +kernel
theorem dX10_leavable_15 : decode cX10_leavable 15 = .ok (.iload_n 1, 1) := by decide +kernel
theorem dX10_leavable_16 : decode cX10_leavable 16 = .ok (.iload_n 2, 1) := by decide +kernel
theorem dX10_leavable_17 : decode cX10_leavable 17 = .ok (.iload 4, 2) := by decide +kernel
theorem dX10_leavable_19 : decode cX10_leavable 19 = .ok (.invokevirtual 201, 3) := by decide +kernel
theorem dX10_leavable_22 : decode cX10_leavable 22 = .ok (.istore 5, 2) := by decide +kernel
theorem dX10_leavable_24 : decode cX10_leavable 24 = .ok (.iload_n 3, 1) := by decide +kernel
theorem dX10_leavable_25 : decode cX10_leavable 25 = .ok (.iload 5, 2) := by decide +kernel
theorem dX10_leavable_27 : decode cX10_leavable 27 = .ok (.iconst (-1), 1) := by decide +kernel
theorem dX10_leavable_28 : decode cX10_leavable 28 = .ok (.if_icmp .ne 7, 3) := by decide +kernel
theorem dX10_leavable_31 : decode cX10_leavable 31 = .ok (.iconst 0, 1) := by decide +kernel
theorem dX10_leavable_32 : decode cX10_leavable 32 = .ok (.goto 10, 3) := by decide +kernel
theorem dX10_leavable_35 : decode cX10_leavable 35 = .ok (.aload_n 0, 1) := by decide +kernel
theorem dX10_leavable_36 : decode cX10_leavable 36 = .ok (.getfield 34, 3) := by decide +kernel
theorem dX10_leavable_39 : decode cX10_leavable 39 = .ok (.iload 5, 2) := by decide +kernel
theorem dX10_leavable_41 : decode cX10_leavable 41 = .ok (.iaload, 1) := by decide +kernel
theorem dX10_leavable_42 : decode cX10_leavable 42 = .ok (.ior, 1) := by decide +kernel
theorem dX10_leavable_43 : decode cX10_leavable 43 = .ok (.istore_n 3, 1) := by decide +kernel
theorem dX10_leavable_44 : decode cX10_leavable 44 = .ok (.iinc 4 1, 3) := by decide +kernel
theorem dX10_leavable_47 : decode cX10_leavable 47 = .ok (.goto (-42), 3) := by decide +kernel
theorem dX10_leavable_50 : decode cX10_leavable 50 = .ok (.iload_n 3, 1) := by decide +kernel
theorem dX10_leavable_51 : decode cX10_leavable 51 = .ok (.ireturn, 1) := by decide +kernel
def f_X10_leavable (σ : St) (v1 : Int32) (v2 : Int32) : Option (Int32 × St) :=
  lo3 FU (fun rec4 (s1 : St) (x2 : Int32) (x3 : Int32) =>
    calP (f_X10_powerOf s1 v1) fun r6 =>
      (if x3 < r6 then
        cal (f_X10_moved s1 v1 v2 x3) fun r7 s8 =>
          (if r7 = (-1 : Int32) then
            bd (x2 ||| (0 : Int32)) fun x9 =>
              rec4 s8 x9 (x3 + 1)
             else
            ck r7 512 <|
              bd (x2 ||| (s8.1 107 r7.toNatClampNeg)) fun x10 =>
                rec4 s8 x10 (x3 + 1))
         else
        some (x2, s1))) σ (0 : Int32) (0 : Int32)
set_option maxHeartbeats 4000000 in
set_option maxRecDepth 100000 in
theorem c_X10_leavable (l : Launch) (E : Ev) (hF : Full E) (σ : St) (v1 : Int32) (v2 : Int32) : Ctr l (en2 enI) (fun q => q.2) E md_X10_leavable [rV E 100, .int v1, .int v2] σ (f_X10_leavable σ v1 v2) := by
  refine ctr_of rfl (Nat.le_of_ble_eq_true rfl) (fun Γ => ?_)
  show Sim _ Γ _ E md_X10_leavable σ 0 [(0, rV E 100), (1, .int v1), (2, .int v2)] [] _
  unfold f_X10_leavable
  refine s_iconst (v := 0) dX10_leavable_0 (by decide) ?_
  refine s_istore_n [(3, .int (0 : Int32)), (0, rV E 100), (1, .int v1), (2, .int v2)] dX10_leavable_1 rfl (by decide) rfl ?_
  refine s_iconst (v := 0) dX10_leavable_2 (by decide) ?_
  refine s_istore [(4, .int (0 : Int32)), (3, .int (0 : Int32)), (0, rV E 100), (1, .int v1), (2, .int v2)] dX10_leavable_3 (by decide) rfl ?_
  refine s_sub (lv' := [(0, rV E 100), (1, .int v1), (2, .int v2), (3, .int (0 : Int32)), (4, .int (0 : Int32))]) [2, 3, 4, 1, 0] rfl ?_
  refine s_lo3 (σf := fun s1 x2 x3 => s1) (lvf := fun s1 x2 x3 => [(0, rV E 100), (1, .int v1), (2, .int v2), (3, .int x2), (4, .int x3)]) (fun rec4 ih5 s1 x2 x3 => ?_)
  refine s_iload dX10_leavable_5 4 rfl ?_
  refine s_iload_n dX10_leavable_7 1 rfl rfl ?_
  refine s_callSpI (As := [.int v1]) mf_X10_powerOf vf_X10_powerOf ml_X10_186 (c_X10_powerOf _ E hF s1 v1) rfl rfl (Nat.le_of_ble_eq_true rfl) rfl dX10_leavable_8 (fun r6 => ?_)
  refine s_icmp_ge 50 dX10_leavable_11 (by decide) ?_ ?_
  · skip
    refine s_aload_n dX10_leavable_14 0 rfl rfl ?_
    refine s_iload_n dX10_leavable_15 1 rfl rfl ?_
    refine s_iload_n dX10_leavable_16 2 rfl rfl ?_
    refine s_iload dX10_leavable_17 4 rfl ?_
    refine s_callVwI (As := [.int v1, .int v2, .int x3]) mf_X10_moved vf_X10_moved ml_X10_201 (c_X10_moved _ E hF s1 v1 v2 x3) (m100 hF) k100 (by decide) rfl rfl rfl rfl (Nat.le_of_ble_eq_true rfl) rfl dX10_leavable_19 (fun r7 s8 => ?_)
    refine s_istore [(5, .int r7), (0, rV E 100), (1, .int v1), (2, .int v2), (3, .int x2), (4, .int x3)] dX10_leavable_22 (by decide) rfl ?_
    refine s_iload_n dX10_leavable_24 4 rfl rfl ?_
    refine s_iload dX10_leavable_25 0 rfl ?_
    refine s_iconst (v := -1) dX10_leavable_27 (by decide) ?_
    refine s_icmp_ne 35 dX10_leavable_28 (by decide) ?_ ?_
    · skip
      refine s_iconst (v := 0) dX10_leavable_31 (by decide) ?_
      refine s_goto 42 dX10_leavable_32 (by decide) ?_
      refine s_ior dX10_leavable_42 ?_
      refine s_istore_nB (fun x9 => [(3, .int x9), (5, .int r7), (0, rV E 100), (1, .int v1), (2, .int v2), (4, .int x3)]) dX10_leavable_43 rfl (by decide) (fun _ => rfl) (fun x9 => ?_)
      refine s_iinc [(4, .int (x3 + 1)), (3, .int x9), (5, .int r7), (0, rV E 100), (1, .int v1), (2, .int v2)] dX10_leavable_44 5 rfl rfl (by decide) rfl ?_
      refine s_goto 5 dX10_leavable_47 (by decide) ?_
      refine s_sub [3, 4, 5, 1, 0] rfl ?_
      exact ih5 s8 x9 (x3 + 1)
    · skip
      refine s_aload_n dX10_leavable_35 1 rfl rfl ?_
      refine s_getr (b := 107) gf_X10_34 rfl (m100 hF) k100 (ft_of k100 rfl) (hF.2 _ _) rfl dX10_leavable_36 ?_
      refine s_iload dX10_leavable_39 0 rfl ?_
      refine s_iald (m107 hF) k107 l107 dX10_leavable_41 ?_
      refine s_ior dX10_leavable_42 ?_
      refine s_istore_nB (fun x10 => [(3, .int x10), (5, .int r7), (0, rV E 100), (1, .int v1), (2, .int v2), (4, .int x3)]) dX10_leavable_43 rfl (by decide) (fun _ => rfl) (fun x10 => ?_)
      refine s_iinc [(4, .int (x3 + 1)), (3, .int x10), (5, .int r7), (0, rV E 100), (1, .int v1), (2, .int v2)] dX10_leavable_44 5 rfl rfl (by decide) rfl ?_
      refine s_goto 5 dX10_leavable_47 (by decide) ?_
      refine s_sub [3, 4, 5, 1, 0] rfl ?_
      exact ih5 s8 x10 (x3 + 1)
  · skip
    refine s_iload_n dX10_leavable_50 3 rfl rfl ?_
    exact s_ireturn rfl rfl rfl dX10_leavable_51
theorem dX10_findGood_0 : decode cX10_findGood 0 = .ok (.iconst 0, 1) := by decide +kernel
theorem dX10_findGood_1 : decode cX10_findGood 1 = .ok (.istore 4, 2) := by decide +kernel
theorem dX10_findGood_3 : decode cX10_findGood 3 = .ok (.iload 4, 2) := by decide +kernel
theorem dX10_findGood_5 : decode cX10_findGood 5 = .ok (.iload_n 1, 1) := by decide +kernel
theorem dX10_findGood_6 : decode cX10_findGood 6 = .ok (.invokestatic 186, 3) := by decide +kernel
theorem dX10_findGood_9 : decode cX10_findGood 9 = .ok (.if_icmp .ge 92, 3) := by decide +kernel
theorem dX10_findGood_12 : decode cX10_findGood 12 = .ok (.aload_n 0, 1) := by decide +kernel
theorem dX10_findGood_13 : decode cX10_findGood 13 = .ok (.getfield 34, 3) := by decide +kernel
theorem dX10_findGood_16 : decode cX10_findGood 16 = .ok (.iload 4, 2) := by decide +kernel
theorem dX10_findGood_18 : decode cX10_findGood 18 = .ok (.iconst 0, 1) := by decide +kernel
theorem dX10_findGood_19 : decode cX10_findGood 19 = .ok (.iastore, 1) := by decide +kernel
theorem dX10_findGood_20 : decode cX10_findGood 20 = .ok (.iconst 0, 1) := by decide +kernel
theorem dX10_findGood_21 : decode cX10_findGood 21 = .ok (.istore 5, 2) := by decide +kernel
theorem dX10_findGood_23 : decode cX10_findGood 23 = .ok (.iload 5, 2) := by decide +kernel
theorem dX10_findGood_25 : decode cX10_findGood 25 = .ok (.aload_n 0, 1) := by decide +kernel
theorem dX10_findGood_26 : decode cX10_findGood 26 = .ok (.getfield 7, 3) := by decide +kernel
theorem dX10_findGood_29 : decode cX10_findGood 29 = .ok (.if_icmp .ge 66, 3) := by decide +kernel
theorem dX10_findGood_32 : decode cX10_findGood 32 = .ok (.aload_n 0, 1) := by decide +kernel
theorem dX10_findGood_33 : decode cX10_findGood 33 = .ok (.iload_n 1, 1) := by decide +kernel
theorem dX10_findGood_34 : decode cX10_findGood 34 = .ok (.iload 4, 2) := by decide +kernel
theorem dX10_findGood_36 : decode cX10_findGood 36 = .ok (.invokevirtual 189, 3) := by decide +kernel
theorem dX10_findGood_39 : decode cX10_findGood 39 = .ok (.ifCond .eq 56, 3) := by decide +kernel
theorem dX10_findGood_42 : decode cX10_findGood 42 = .ok (.aload_n 0, 1) := by decide +kernel
theorem dX10_findGood_43 : decode cX10_findGood 43 = .ok (.iload_n 1, 1) := by decide +kernel
theorem dX10_findGood_44 : decode cX10_findGood 44 = .ok (.iload_n 2, 1) := by decide +kernel
theorem dX10_findGood_45 : decode cX10_findGood 45 = .ok (.iload 4, 2) := by decide +kernel
theorem dX10_findGood_47 : decode cX10_findGood 47 = .ok (.iload 5, 2) := by decide +kernel
theorem dX10_findGood_49 : decode cX10_findGood 49 = .ok (.invokevirtual 204, 3) := by decide +kernel
theorem dX10_findGood_52 : decode cX10_findGood 52 = .ok (.istore 6, 2) := by decide +kernel
theorem dX10_findGood_54 : decode cX10_findGood 54 = .ok (.aload_n 0, 1) := by decide +kernel
theorem dX10_findGood_55 : decode cX10_findGood 55 = .ok (.getfield 34, 3) := by decide +kernel
theorem dX10_findGood_58 : decode cX10_findGood 58 = .ok (.iload 4, 2) := by decide +kernel
theorem dX10_findGood_60 : decode cX10_findGood 60 = .ok (.aload_n 0, 1) := by decide +kernel
theorem dX10_findGood_61 : decode cX10_findGood 61 = .ok (.getfield 34, 3) := by decide +kernel
theorem dX10_findGood_64 : decode cX10_findGood 64 = .ok (.iload 4, 2) := by decide +kernel
theorem dX10_findGood_66 : decode cX10_findGood 66 = .ok (.iaload, 1) := by decide +kernel
theorem dX10_findGood_67 : decode cX10_findGood 67 = .ok (.iload 6, 2) := by decide +kernel
theorem dX10_findGood_69 : decode cX10_findGood 69 = .ok (.iconst (-1), 1) := by decide +kernel
theorem dX10_findGood_70 : decode cX10_findGood 70 = .ok (.if_icmp .eq 16, 3) := by decide +kernel
theorem dX10_findGood_73 : decode cX10_findGood 73 = .ok (.iload 6, 2) := by decide +kernel
theorem dX10_findGood_75 : decode cX10_findGood 75 = .ok (.iload_n 3, 1) := by decide +kernel
theorem dX10_findGood_76 : decode cX10_findGood 76 = .ok (.if_icmp .gt 10, 3) := by decide +kernel
theorem dX10_findGood_79 : decode cX10_findGood 79 = .ok (.iconst 1, 1) := by decide +kernel
theorem dX10_findGood_80 : decode cX10_findGood 80 = .ok (.iload 5, 2) := by decide +kernel
theorem dX10_findGood_82 : decode cX10_findGood 82 = .ok (.ishl, 1) := by decide +kernel
theorem dX10_findGood_83 : decode cX10_findGood 83 = .ok (.goto 4, 3) := by decide +kernel
theorem dX10_findGood_86 : decode cX10_findGood 86 = .ok (.iconst 0, 1) := by decide +kernel
theorem dX10_findGood_87 : decode cX10_findGood 87 = .ok (.ior, 1) := by decide +kernel
theorem dX10_findGood_88 : decode cX10_findGood 88 = .ok (.iastore, 1) := by decide +kernel
theorem dX10_findGood_89 : decode cX10_findGood 89 = .ok (.iinc 5 1, 3) := by decide +kernel
theorem dX10_findGood_92 : decode cX10_findGood 92 = .ok (.goto (-69), 3) := by decide +kernel
theorem dX10_findGood_95 : decode cX10_findGood 95 = .ok (.iinc 4 1, 3) := by decide +kernel
theorem dX10_findGood_98 : decode cX10_findGood 98 = .ok (.goto (-95), 3) := by decide +kernel
theorem dX10_findGood_101 : decode cX10_findGood 101 = .ok (.return_, 1) := by decide +kernel
def f_X10_findGood (σ : St) (v1 : Int32) (v2 : Int32) (v3 : Int32) : Option (Unit × St) :=
  lo2 FU (fun rec3 (s1 : St) (x2 : Int32) =>
    calP (f_X10_powerOf s1 v1) fun r5 =>
      (if x2 < r5 then
        ck x2 512 <|
          bd (setI s1 107 x2.toNatClampNeg (0 : Int32)) fun s6 =>
            lo2 FU (fun rec9 (s7 : St) (x8 : Int32) =>
              (if x8 < (s7.1 100 0) then
                cal (f_X10_isSetting s7 v1 x2) fun r11 s12 =>
                  (if r11 = 0 then
                    rec3 s12 (x2 + 1)
                     else
                    calP (f_X10_behind s12 v1 v2 x2 x8) fun r13 =>
                      ck x2 512 <|
                        (if r13 = (-1 : Int32) then
                          ck x2 512 <|
                            bd (setI s12 107 x2.toNatClampNeg ((s12.1 107 x2.toNatClampNeg) ||| (0 : Int32))) fun s14 =>
                              rec9 s14 (x8 + 1)
                           else
                          (if v3 < r13 then
                            ck x2 512 <|
                              bd (setI s12 107 x2.toNatClampNeg ((s12.1 107 x2.toNatClampNeg) ||| (0 : Int32))) fun s15 =>
                                rec9 s15 (x8 + 1)
                             else
                            ck x2 512 <|
                              bd (setI s12 107 x2.toNatClampNeg ((s12.1 107 x2.toNatClampNeg) ||| ((1 : Int32) <<< (x8 &&& 31)))) fun s16 =>
                                rec9 s16 (x8 + 1))))
                 else
                rec3 s7 (x2 + 1))) s6 (0 : Int32)
         else
        some ((), s1))) σ (0 : Int32)
set_option maxHeartbeats 4000000 in
set_option maxRecDepth 100000 in
theorem c_X10_findGood (l : Launch) (E : Ev) (hF : Full E) (σ : St) (v1 : Int32) (v2 : Int32) (v3 : Int32) : Ctr l (en2 enV) (fun q => q.2) E md_X10_findGood [rV E 100, .int v1, .int v2, .int v3] σ (f_X10_findGood σ v1 v2 v3) := by
  refine ctr_of rfl (Nat.le_of_ble_eq_true rfl) (fun Γ => ?_)
  show Sim _ Γ _ E md_X10_findGood σ 0 [(0, rV E 100), (1, .int v1), (2, .int v2), (3, .int v3)] [] _
  unfold f_X10_findGood
  refine s_iconst (v := 0) dX10_findGood_0 (by decide) ?_
  refine s_istore [(4, .int (0 : Int32)), (0, rV E 100), (1, .int v1), (2, .int v2), (3, .int v3)] dX10_findGood_1 (by decide) rfl ?_
  refine s_sub (lv' := [(0, rV E 100), (1, .int v1), (2, .int v2), (3, .int v3), (4, .int (0 : Int32))]) [1, 2, 3, 4, 0] rfl ?_
  refine s_lo2 (σf := fun s1 x2 => s1) (lvf := fun s1 x2 => [(0, rV E 100), (1, .int v1), (2, .int v2), (3, .int v3), (4, .int x2)]) (fun rec3 ih4 s1 x2 => ?_)
  refine s_iload dX10_findGood_3 4 rfl ?_
  refine s_iload_n dX10_findGood_5 1 rfl rfl ?_
  refine s_callSpI (As := [.int v1]) mf_X10_powerOf vf_X10_powerOf ml_X10_186 (c_X10_powerOf _ E hF s1 v1) rfl rfl (Nat.le_of_ble_eq_true rfl) rfl dX10_findGood_6 (fun r5 => ?_)
  refine s_icmp_ge 101 dX10_findGood_9 (by decide) ?_ ?_
  · skip
    refine s_aload_n dX10_findGood_12 0 rfl rfl ?_
    refine s_getr (b := 107) gf_X10_34 rfl (m100 hF) k100 (ft_of k100 rfl) (hF.2 _ _) rfl dX10_findGood_13 ?_
    refine s_iload dX10_findGood_16 4 rfl ?_
    refine s_iconst (v := 0) dX10_findGood_18 (by decide) ?_
    refine s_iast (m107 hF) k107 l107 dX10_findGood_19 (fun s6 => ?_)
    refine s_iconst (v := 0) dX10_findGood_20 (by decide) ?_
    refine s_istore [(5, .int (0 : Int32)), (0, rV E 100), (1, .int v1), (2, .int v2), (3, .int v3), (4, .int x2)] dX10_findGood_21 (by decide) rfl ?_
    refine s_sub (lv' := [(0, rV E 100), (1, .int v1), (2, .int v2), (3, .int v3), (4, .int x2), (5, .int (0 : Int32))]) [1, 2, 3, 4, 5, 0] rfl ?_
    refine s_lo2 (σf := fun s7 x8 => s7) (lvf := fun s7 x8 => [(0, rV E 100), (1, .int v1), (2, .int v2), (3, .int v3), (4, .int x2), (5, .int x8)]) (fun rec9 ih10 s7 x8 => ?_)
    refine s_iload dX10_findGood_23 5 rfl ?_
    refine s_aload_n dX10_findGood_25 0 rfl rfl ?_
    refine s_geti gf_X10_7 rfl (m100 hF) k100 (ft_of k100 rfl) dX10_findGood_26 ?_
    refine s_icmp_ge 95 dX10_findGood_29 (by decide) ?_ ?_
    · skip
      refine s_aload_n dX10_findGood_32 0 rfl rfl ?_
      refine s_iload_n dX10_findGood_33 1 rfl rfl ?_
      refine s_iload dX10_findGood_34 4 rfl ?_
      refine s_callVwI (As := [.int v1, .int x2]) mf_X10_isSetting vf_X10_isSetting ml_X10_189 (c_X10_isSetting _ E hF s7 v1 x2) (m100 hF) k100 (by decide) rfl rfl rfl rfl (Nat.le_of_ble_eq_true rfl) rfl dX10_findGood_36 (fun r11 s12 => ?_)
      refine s_if_eq 95 dX10_findGood_39 (by decide) ?_ ?_
      · skip
        refine s_iinc [(4, .int (x2 + 1)), (0, rV E 100), (1, .int v1), (2, .int v2), (3, .int v3), (5, .int x8)] dX10_findGood_95 4 rfl rfl (by decide) rfl ?_
        refine s_goto 3 dX10_findGood_98 (by decide) ?_
        refine s_sub [1, 2, 3, 4, 0] rfl ?_
        exact ih4 s12 (x2 + 1)
      · skip
        refine s_aload_n dX10_findGood_42 0 rfl rfl ?_
        refine s_iload_n dX10_findGood_43 1 rfl rfl ?_
        refine s_iload_n dX10_findGood_44 2 rfl rfl ?_
        refine s_iload dX10_findGood_45 4 rfl ?_
        refine s_iload dX10_findGood_47 5 rfl ?_
        refine s_callVpI (As := [.int v1, .int v2, .int x2, .int x8]) mf_X10_behind vf_X10_behind ml_X10_204 (c_X10_behind _ E hF s12 v1 v2 x2 x8) (m100 hF) k100 (by decide) rfl rfl rfl rfl (Nat.le_of_ble_eq_true rfl) rfl dX10_findGood_49 (fun r13 => ?_)
        refine s_istore [(6, .int r13), (0, rV E 100), (1, .int v1), (2, .int v2), (3, .int v3), (4, .int x2), (5, .int x8)] dX10_findGood_52 (by decide) rfl ?_
        refine s_aload_n dX10_findGood_54 1 rfl rfl ?_
        refine s_getr (b := 107) gf_X10_34 rfl (m100 hF) k100 (ft_of k100 rfl) (hF.2 _ _) rfl dX10_findGood_55 ?_
        refine s_iload dX10_findGood_58 5 rfl ?_
        refine s_aload_n dX10_findGood_60 1 rfl rfl ?_
        refine s_getr (b := 107) gf_X10_34 rfl (m100 hF) k100 (ft_of k100 rfl) (hF.2 _ _) rfl dX10_findGood_61 ?_
        refine s_iload dX10_findGood_64 5 rfl ?_
        refine s_iald (m107 hF) k107 l107 dX10_findGood_66 ?_
        refine s_iload dX10_findGood_67 0 rfl ?_
        refine s_iconst (v := -1) dX10_findGood_69 (by decide) ?_
        refine s_icmp_eq 86 dX10_findGood_70 (by decide) ?_ ?_
        · skip
          refine s_iconst (v := 0) dX10_findGood_86 (by decide) ?_
          refine s_ior dX10_findGood_87 ?_
          refine s_iast (m107 hF) k107 l107 dX10_findGood_88 (fun s14 => ?_)
          refine s_iinc [(5, .int (x8 + 1)), (6, .int r13), (0, rV E 100), (1, .int v1), (2, .int v2), (3, .int v3), (4, .int x2)] dX10_findGood_89 6 rfl rfl (by decide) rfl ?_
          refine s_goto 23 dX10_findGood_92 (by decide) ?_
          refine s_sub [2, 3, 4, 5, 6, 0] rfl ?_
          exact ih10 s14 (x8 + 1)
        · skip
          refine s_iload dX10_findGood_73 0 rfl ?_
          refine s_iload_n dX10_findGood_75 4 rfl rfl ?_
          refine s_icmp_gt 86 dX10_findGood_76 (by decide) ?_ ?_
          · skip
            refine s_iconst (v := 0) dX10_findGood_86 (by decide) ?_
            refine s_ior dX10_findGood_87 ?_
            refine s_iast (m107 hF) k107 l107 dX10_findGood_88 (fun s15 => ?_)
            refine s_iinc [(5, .int (x8 + 1)), (6, .int r13), (0, rV E 100), (1, .int v1), (2, .int v2), (3, .int v3), (4, .int x2)] dX10_findGood_89 6 rfl rfl (by decide) rfl ?_
            refine s_goto 23 dX10_findGood_92 (by decide) ?_
            refine s_sub [2, 3, 4, 5, 6, 0] rfl ?_
            exact ih10 s15 (x8 + 1)
          · skip
            refine s_iconst (v := 1) dX10_findGood_79 (by decide) ?_
            refine s_iload dX10_findGood_80 6 rfl ?_
            refine s_ishl dX10_findGood_82 ?_
            refine s_goto 87 dX10_findGood_83 (by decide) ?_
            refine s_ior dX10_findGood_87 ?_
            refine s_iast (m107 hF) k107 l107 dX10_findGood_88 (fun s16 => ?_)
            refine s_iinc [(5, .int (x8 + 1)), (6, .int r13), (0, rV E 100), (1, .int v1), (2, .int v2), (3, .int v3), (4, .int x2)] dX10_findGood_89 6 rfl rfl (by decide) rfl ?_
            refine s_goto 23 dX10_findGood_92 (by decide) ?_
            refine s_sub [2, 3, 4, 5, 6, 0] rfl ?_
            exact ih10 s16 (x8 + 1)
    · skip
      refine s_iinc [(4, .int (x2 + 1)), (0, rV E 100), (1, .int v1), (2, .int v2), (3, .int v3), (5, .int x8)] dX10_findGood_95 4 rfl rfl (by decide) rfl ?_
      refine s_goto 3 dX10_findGood_98 (by decide) ?_
      refine s_sub [1, 2, 3, 4, 0] rfl ?_
      exact ih4 s7 (x2 + 1)
  · skip
    exact s_return rfl rfl rfl dX10_findGood_101
theorem dX10_reckon_0 : decode cX10_reckon 0 = .ok (.aload_n 0, 1) := by decide +kernel
theorem dX10_reckon_1 : decode cX10_reckon 1 = .ok (.iload_n 1, 1) := by decide +kernel
theorem dX10_reckon_2 : decode cX10_reckon 2 = .ok (.iload_n 2, 1) := by decide +kernel
theorem dX10_reckon_3 : decode cX10_reckon 3 = .ok (.invokevirtual 207, 3) := by decide +kernel
theorem dX10_reckon_6 : decode cX10_reckon 6 = .ok (.aload_n 0, 1) := by decide +kernel
theorem dX10_reckon_7 : decode cX10_reckon 7 = .ok (.getfield 23, 3) := by decide +kernel
theorem dX10_reckon_10 : decode cX10_reckon 10 = .ok (.iconst 3, 1) := by decide +kernel
theorem dX10_reckon_11 : decode cX10_reckon 11 = .ok (.iload_n 1, 1) := by decide +kernel
theorem dX10_reckon_12 : decode cX10_reckon 12 = .ok (.iconst 1, 1) := by decide +kernel
theorem dX10_reckon_13 : decode cX10_reckon 13 = .ok (.isub, 1) := by decide +kernel
theorem dX10_reckon_14 : decode cX10_reckon 14 = .ok (.imul, 1) := by decide +kernel
theorem dX10_reckon_15 : decode cX10_reckon 15 = .ok (.iload_n 2, 1) := by decide +kernel
theorem dX10_reckon_16 : decode cX10_reckon 16 = .ok (.iadd, 1) := by decide +kernel
theorem dX10_reckon_17 : decode cX10_reckon 17 = .ok (.iconst 1, 1) := by decide +kernel
theorem dX10_reckon_18 : decode cX10_reckon 18 = .ok (.isub, 1) := by decide +kernel
theorem dX10_reckon_19 : decode cX10_reckon 19 = .ok (.baload, 1) := by decide +kernel
theorem dX10_reckon_20 : decode cX10_reckon 20 = .ok (.ifCond .eq 4, 3) := by decide +kernel
theorem dX10_reckon_23 : decode cX10_reckon 23 = .ok (.return_, 1) := by decide +kernel
theorem dX10_reckon_24 : decode cX10_reckon 24 = .ok (.aload_n 0, 1) := by decide +kernel
theorem dX10_reckon_25 : decode cX10_reckon 25 = .ok (.getfield 23, 3) := by decide +kernel
theorem dX10_reckon_28 : decode cX10_reckon 28 = .ok (.iconst 3, 1) := by decide +kernel
theorem dX10_reckon_29 : decode cX10_reckon 29 = .ok (.iload_n 1, 1) := by decide +kernel
theorem dX10_reckon_30 : decode cX10_reckon 30 = .ok (.iconst 1, 1) := by decide +kernel
theorem dX10_reckon_31 : decode cX10_reckon 31 = .ok (.isub, 1) := by decide +kernel
theorem dX10_reckon_32 : decode cX10_reckon 32 = .ok (.imul, 1) := by decide +kernel
theorem dX10_reckon_33 : decode cX10_reckon 33 = .ok (.iload_n 2, 1) := by decide +kernel
theorem dX10_reckon_34 : decode cX10_reckon 34 = .ok (.iadd, 1) := by decide +kernel
theorem dX10_reckon_35 : decode cX10_reckon 35 = .ok (.iconst 1, 1) := by decide +kernel
theorem dX10_reckon_36 : decode cX10_reckon 36 = .ok (.isub, 1) := by decide +kernel
theorem dX10_reckon_37 : decode cX10_reckon 37 = .ok (.iconst 1, 1) := by decide +kernel
theorem dX10_reckon_38 : decode cX10_reckon 38 = .ok (.bastore, 1) := by decide +kernel
theorem dX10_reckon_39 : decode cX10_reckon 39 = .ok (.iconst 0, 1) := by decide +kernel
theorem dX10_reckon_40 : decode cX10_reckon 40 = .ok (.istore_n 3, 1) := by decide +kernel
theorem dX10_reckon_41 : decode cX10_reckon 41 = .ok (.iload_n 3, 1) := by decide +kernel
theorem dX10_reckon_42 : decode cX10_reckon 42 = .ok (.iload_n 1, 1) := by decide +kernel
theorem dX10_reckon_43 : decode cX10_reckon 43 = .ok (.invokestatic 186, 3) := by decide +kernel
theorem dX10_reckon_46 : decode cX10_reckon 46 = .ok (.if_icmp .ge 62, 3) := by decide +kernel
theorem dX10_reckon_49 : decode cX10_reckon 49 = .ok (.aload_n 0, 1) := by decide +kernel
theorem dX10_reckon_50 : decode cX10_reckon 50 = .ok (.iload_n 1, 1) := by decide +kernel
theorem dX10_reckon_51 : decode cX10_reckon 51 = .ok (.iload_n 3, 1) := by decide +kernel
theorem dX10_reckon_52 : decode cX10_reckon 52 = .ok (.invokevirtual 193, 3) := by decide +kernel
theorem dX10_reckon_55 : decode cX10_reckon 55 = .ok (.istore 4, 2) := by decide +kernel
theorem dX10_reckon_57 : decode cX10_reckon 57 = .ok (.iconst 0, 1) := by decide +kernel
theorem dX10_reckon_58 : decode cX10_reckon 58 = .ok (.istore 5, 2) := by decide +kernel
theorem dX10_reckon_60 : decode cX10_reckon 60 = .ok (.iload 5, 2) := by decide +kernel
theorem dX10_reckon_62 : decode cX10_reckon 62 = .ok (.bipush 8, 2) := by decide +kernel
theorem dX10_reckon_64 : decode cX10_reckon 64 = .ok (.if_icmp .ge 38, 3) := by decide +kernel
theorem dX10_reckon_67 : decode cX10_reckon 67 = .ok (.aload_n 0, 1) := by decide +kernel
theorem dX10_reckon_68 : decode cX10_reckon 68 = .ok (.getfield 28, 3) := by decide +kernel
theorem dX10_reckon_71 : decode cX10_reckon 71 = .ok (.iload_n 1, 1) := by decide +kernel
theorem dX10_reckon_72 : decode cX10_reckon 72 = .ok (.iload_n 2, 1) := by decide +kernel
theorem dX10_reckon_73 : decode cX10_reckon 73 = .ok (.iload_n 3, 1) := by decide +kernel
theorem dX10_reckon_74 : decode cX10_reckon 74 = .ok (.iload 5, 2) := by decide +kernel
theorem dX10_reckon_76 : decode cX10_reckon 76 = .ok (.invokestatic 182, 3) := by decide +kernel
theorem dX10_reckon_79 : decode cX10_reckon 79 = .ok (.iload 4, 2) := by decide +kernel
theorem dX10_reckon_81 : decode cX10_reckon 81 = .ok (.iload 5, 2) := by decide +kernel
theorem dX10_reckon_83 : decode cX10_reckon 83 = .ok (.ishr, 1) := by decide +kernel
theorem dX10_reckon_84 : decode cX10_reckon 84 = .ok (.iconst 1, 1) := by decide +kernel
theorem dX10_reckon_85 : decode cX10_reckon 85 = .ok (.iand, 1) := by decide +kernel
theorem dX10_reckon_86 : decode cX10_reckon 86 = .ok (.iconst 1, 1) := by decide +kernel
theorem dX10_reckon_87 : decode cX10_reckon 87 = .ok (.if_icmp .ne 7, 3) := by decide +kernel
theorem dX10_reckon_90 : decode cX10_reckon 90 = .ok (.iconst 0, 1) := by decide +kernel
theorem dX10_reckon_91 : decode cX10_reckon 91 = .ok (.goto 4, 3) := by decide +kernel
theorem dX10_reckon_94 : decode cX10_reckon 94 = .ok (.iconst (-1), 1) := by decide +kernel
theorem dX10_reckon_95 : decode cX10_reckon 95 = .ok (.iastore, 1) := by decide +kernel
theorem dX10_reckon_96 : decode cX10_reckon 96 = .ok (.iinc 5 1, 3) := by decide +kernel
theorem dX10_reckon_99 : decode cX10_reckon 99 = .ok (.goto (-39), 3) := by decide +kernel
theorem dX10_reckon_102 : decode cX10_reckon 102 = .ok (.iinc 3 1, 3) := by decide +kernel
theorem dX10_reckon_105 : decode cX10_reckon 105 = .ok (.goto (-64), 3) := by decide +kernel
theorem dX10_reckon_108 : decode cX10_reckon 108 = .ok (.iconst 1, 1) := by decide +kernel
theorem dX10_reckon_109 : decode cX10_reckon 109 = .ok (.istore_n 3, 1) := by decide +kernel
theorem dX10_reckon_110 : decode cX10_reckon 110 = .ok (.iconst 1, 1) := by decide +kernel
theorem dX10_reckon_111 : decode cX10_reckon 111 = .ok (.istore 4, 2) := by decide +kernel
theorem dX10_reckon_113 : decode cX10_reckon 113 = .ok (.iload_n 3, 1) := by decide +kernel
theorem dX10_reckon_114 : decode cX10_reckon 114 = .ok (.ifCond .eq 127, 3) := by decide +kernel
theorem dX10_reckon_117 : decode cX10_reckon 117 = .ok (.iconst 0, 1) := by decide +kernel
theorem dX10_reckon_118 : decode cX10_reckon 118 = .ok (.istore_n 3, 1) := by decide +kernel
theorem dX10_reckon_119 : decode cX10_reckon 119 = .ok (.aload_n 0, 1) := by decide +kernel
theorem dX10_reckon_120 : decode cX10_reckon 120 = .ok (.iload_n 1, 1) := by decide +kernel
theorem dX10_reckon_121 : decode cX10_reckon 121 = .ok (.iload_n 2, 1) := by decide +kernel
theorem dX10_reckon_122 : decode cX10_reckon 122 = .ok (.iload 4, 2) := by decide +kernel
theorem dX10_reckon_124 : decode cX10_reckon 124 = .ok (.iconst 1, 1) := by decide +kernel
theorem dX10_reckon_125 : decode cX10_reckon 125 = .ok (.isub, 1) := by decide +kernel
theorem dX10_reckon_126 : decode cX10_reckon 126 = .ok (.invokevirtual 210, 3) := by decide +kernel
theorem dX10_reckon_129 : decode cX10_reckon 129 = .ok (.iconst 0, 1) := by decide +kernel
theorem dX10_reckon_130 : decode cX10_reckon 130 = .ok (.istore 5, 2) := by decide +kernel
theorem dX10_reckon_132 : decode cX10_reckon 132 = .ok (.iload 5, 2) := by decide +kernel
theorem dX10_reckon_134 : decode cX10_reckon 134 = .ok (.iload_n 1, 1) := by decide +kernel
theorem dX10_reckon_135 : decode cX10_reckon 135 = .ok (.invokestatic 186, 3) := by decide +kernel
theorem dX10_reckon_138 : decode cX10_reckon 138 = .ok (.if_icmp .ge 97, 3) := by decide +kernel
theorem dX10_reckon_141 : decode cX10_reckon 141 = .ok (.aload_n 0, 1) := by decide +kernel
theorem dX10_reckon_142 : decode cX10_reckon 142 = .ok (.iload_n 1, 1) := by decide +kernel
theorem dX10_reckon_143 : decode cX10_reckon 143 = .ok (.iload 5, 2) := by decide +kernel
theorem dX10_reckon_145 : decode cX10_reckon 145 = .ok (.invokevirtual 189, 3) := by decide +kernel
theorem dX10_reckon_148 : decode cX10_reckon 148 = .ok (.ifCond .eq 13, 3) := by decide +kernel
theorem dX10_reckon_151 : decode cX10_reckon 151 = .ok (.aload_n 0, 1) := by decide +kernel
theorem dX10_reckon_152 : decode cX10_reckon 152 = .ok (.iload_n 1, 1) := by decide +kernel
theorem dX10_reckon_153 : decode cX10_reckon 153 = .ok (.iload 5, 2) := by decide +kernel
theorem dX10_reckon_155 : decode cX10_reckon 155 = .ok (.invokevirtual 214, 3) := by decide +kernel
theorem dX10_reckon_158 : decode cX10_reckon 158 = .ok (.goto 4, 3) := by decide +kernel
theorem dX10_reckon_161 : decode cX10_reckon 161 = .ok (.iconst 0, 1) := by decide +kernel
theorem dX10_reckon_162 : decode cX10_reckon 162 = .ok (.istore 6, 2) := by decide +kernel
theorem dX10_reckon_164 : decode cX10_reckon 164 = .ok (.iconst 0, 1) := by decide +kernel
theorem dX10_reckon_165 : decode cX10_reckon 165 = .ok (.istore 7, 2) := by decide +kernel
theorem dX10_reckon_167 : decode cX10_reckon 167 = .ok (.iload 7, 2) := by decide +kernel
theorem dX10_reckon_169 : decode cX10_reckon 169 = .ok (.aload_n 0, 1) := by decide +kernel
theorem dX10_reckon_170 : decode cX10_reckon 170 = .ok (.getfield 7, 3) := by decide +kernel
theorem dX10_reckon_173 : decode cX10_reckon 173 = .ok (.if_icmp .ge 56, 3) := by decide +kernel
theorem dX10_reckon_176 : decode cX10_reckon 176 = .ok (.iload 6, 2) := by decide +kernel
theorem dX10_reckon_178 : decode cX10_reckon 178 = .ok (.iload 7, 2) := by decide +kernel
theorem dX10_reckon_180 : decode cX10_reckon 180 = .ok (.ishr, 1) := by decide +kernel
theorem dX10_reckon_181 : decode cX10_reckon 181 = .ok (.iconst 1, 1) := by decide +kernel
theorem dX10_reckon_182 : decode cX10_reckon 182 = .ok (.iand, 1) := by decide +kernel
theorem dX10_reckon_183 : decode cX10_reckon 183 = .ok (.iconst 1, 1) := by decide +kernel
theorem dX10_reckon_184 : decode cX10_reckon 184 = .ok (.if_icmp .ne 39, 3) := by decide +kernel
theorem dX10_reckon_187 : decode cX10_reckon 187 = .ok (.aload_n 0, 1) := by decide +kernel
theorem dX10_reckon_188 : decode cX10_reckon 188 = .ok (.getfield 28, 3) := by decide +kernel
theorem dX10_reckon_191 : decode cX10_reckon 191 = .ok (.iload_n 1, 1) := by decide +kernel
theorem dX10_reckon_192 : decode cX10_reckon 192 = .ok (.iload_n 2, 1) := by decide +kernel
theorem dX10_reckon_193 : decode cX10_reckon 193 = .ok (.iload 5, 2) := by decide +kernel
theorem dX10_reckon_195 : decode cX10_reckon 195 = .ok (.iload 7, 2) := by decide +kernel
theorem dX10_reckon_197 : decode cX10_reckon 197 = .ok (.invokestatic 182, 3) := by decide +kernel
theorem dX10_reckon_200 : decode cX10_reckon 200 = .ok (.iaload, 1) := by decide +kernel
theorem dX10_reckon_201 : decode cX10_reckon 201 = .ok (.iconst (-1), 1) := by decide +kernel
theorem dX10_reckon_202 : decode cX10_reckon 202 = .ok (.if_icmp .ne 21, 3) := by decide +kernel
theorem dX10_reckon_205 : decode cX10_reckon 205 = .ok (.aload_n 0, 1) := by decide +kernel
theorem dX10_reckon_206 : decode cX10_reckon 206 = .ok (.getfield 28, 3) := by decide +kernel
theorem dX10_reckon_209 : decode cX10_reckon 209 = .ok (.iload_n 1, 1) := by decide +kernel
theorem dX10_reckon_210 : decode cX10_reckon 210 = .ok (.iload_n 2, 1) := by decide +kernel
theorem dX10_reckon_211 : decode cX10_reckon 211 = .ok (.iload 5, 2) := by decide +kernel
theorem dX10_reckon_213 : decode cX10_reckon 213 = .ok (.iload 7, 2) := by decide +kernel
theorem dX10_reckon_215 : decode cX10_reckon 215 = .ok (.invokestatic 182, 3) := by decide +kernel
theorem dX10_reckon_218 : decode cX10_reckon 218 = .ok (.iload 4, 2) := by decide +kernel
theorem dX10_reckon_220 : decode cX10_reckon 220 = .ok (.iastore, 1) := by decide +kernel
theorem dX10_reckon_221 : decode cX10_reckon 221 = .ok (.iconst 1, 1) := by decide +kernel
theorem dX10_reckon_222 : decode cX10_reckon 222 = .ok (.istore_n 3, 1) := by decide +kernel
theorem dX10_reckon_223 : decode cX10_reckon 223 = .ok (.iinc 7 1, 3) := by decide +kernel
theorem dX10_reckon_226 : decode cX10_reckon 226 = .ok (.goto (-59), 3) := by decide +kernel
theorem dX10_reckon_229 : decode cX10_reckon 229 = .ok (.iinc 5 1, 3) := by decide +kernel
theorem dX10_reckon_232 : decode cX10_reckon 232 = .ok (.goto (-100), 3) := by decide +kernel
theorem dX10_reckon_235 : decode cX10_reckon 235 = .ok (.iinc 4 1, 3) := by decide +kernel
theorem dX10_reckon_238 : decode cX10_reckon 238 = .ok (.goto (-125), 3) := by decide +kernel
theorem dX10_reckon_241 : decode cX10_reckon 241 = .ok (.return_, 1) := by decide +kernel
def f_X10_reckon (σ : St) (v1 : Int32) (v2 : Int32) : Option (Unit × St) :=
  cal (f_X10_findFlights σ v1 v2) fun _ s1 =>
    ck ((((3 : Int32) * (v1 - (1 : Int32))) + v2) - (1 : Int32)) 9 <|
      (if (s1.1 104 ((((3 : Int32) * (v1 - (1 : Int32))) + v2) - (1 : Int32)).toNatClampNeg) = 0 then
        ck ((((3 : Int32) * (v1 - (1 : Int32))) + v2) - (1 : Int32)) 9 <|
          bd (setI s1 104 ((((3 : Int32) * (v1 - (1 : Int32))) + v2) - (1 : Int32)).toNatClampNeg (1 : Int32)) fun s2 =>
            lo2 FU (fun rec5 (s3 : St) (x4 : Int32) =>
              calP (f_X10_powerOf s3 v1) fun r7 =>
                (if x4 < r7 then
                  cal (f_X10_placesOf s3 v1 x4) fun r8 s9 =>
                    lo2 FU (fun rec12 (s10 : St) (x11 : Int32) =>
                      (if x11 < (8 : Int32) then
                        calP (f_X10_at s10 v1 v2 x4 x11) fun r14 =>
                          (if ((r8 >>> (x11 &&& 31)) &&& (1 : Int32)) = (1 : Int32) then
                            ck r14 36864 <|
                              bd (setI s10 105 r14.toNatClampNeg (0 : Int32)) fun s15 =>
                                rec12 s15 (x11 + 1)
                             else
                            ck r14 36864 <|
                              bd (setI s10 105 r14.toNatClampNeg (-1 : Int32)) fun s16 =>
                                rec12 s16 (x11 + 1))
                         else
                        rec5 s10 (x4 + 1))) s9 (0 : Int32)
                   else
                  lo3 FU (fun rec20 (s17 : St) (x18 : Int32) (x19 : Int32) =>
                    (if x18 = 0 then
                      some ((), s17)
                       else
                      cal (f_X10_findGood s17 v1 v2 (x19 - (1 : Int32))) fun _ s22 =>
                        lo3 FU (fun rec26 (s23 : St) (x24 : Int32) (x25 : Int32) =>
                          calP (f_X10_powerOf s23 v1) fun r28 =>
                            (if x25 < r28 then
                              cal (f_X10_isSetting s23 v1 x25) fun r29 s30 =>
                                jn2 (fun jk33 =>
                                  (if r29 = 0 then
                                    jk33 s30 (0 : Int32)
                                     else
                                    cal (f_X10_leavable s30 v1 x25) fun r42 s43 =>
                                      jk33 s43 r42))
                                  (fun (s31 : St) (x32 : Int32) => 
                                  lo3 FU (fun rec37 (s34 : St) (x35 : Int32) (x36 : Int32) =>
                                      (if x36 < (s34.1 100 0) then
                                        (if ((x32 >>> (x36 &&& 31)) &&& (1 : Int32)) = (1 : Int32) then
                                          calP (f_X10_at s34 v1 v2 x25 x36) fun r39 =>
                                            ck r39 36864 <|
                                              (if (s34.1 105 r39.toNatClampNeg) = (-1 : Int32) then
                                                calP (f_X10_at s34 v1 v2 x25 x36) fun r40 =>
                                                  ck r40 36864 <|
                                                    bd (setI s34 105 r40.toNatClampNeg x19) fun s41 =>
                                                      rec37 s41 (1 : Int32) (x36 + 1)
                                                 else
                                                rec37 s34 x35 (x36 + 1))
                                           else
                                          rec37 s34 x35 (x36 + 1))
                                         else
                                        rec26 s34 x35 (x25 + 1))) s31 x24 (0 : Int32))
                               else
                              rec20 s23 x24 (x19 + 1))) s22 (0 : Int32) (0 : Int32))) s3 (1 : Int32) (1 : Int32))) s2 (0 : Int32)
         else
        some ((), s1))
set_option maxHeartbeats 4000000 in
set_option maxRecDepth 100000 in
theorem c_X10_reckon (l : Launch) (E : Ev) (hF : Full E) (σ : St) (v1 : Int32) (v2 : Int32) : Ctr l (en2 enV) (fun q => q.2) E md_X10_reckon [rV E 100, .int v1, .int v2] σ (f_X10_reckon σ v1 v2) := by
  refine ctr_of rfl (Nat.le_of_ble_eq_true rfl) (fun Γ => ?_)
  show Sim _ Γ _ E md_X10_reckon σ 0 [(0, rV E 100), (1, .int v1), (2, .int v2)] [] _
  unfold f_X10_reckon
  refine s_aload_n dX10_reckon_0 0 rfl rfl ?_
  refine s_iload_n dX10_reckon_1 1 rfl rfl ?_
  refine s_iload_n dX10_reckon_2 2 rfl rfl ?_
  refine s_callVwV (As := [.int v1, .int v2]) mf_X10_findFlights vf_X10_findFlights ml_X10_207 (c_X10_findFlights _ E hF σ v1 v2) (m100 hF) k100 (by decide) rfl rfl rfl rfl (Nat.le_of_ble_eq_true rfl) rfl dX10_reckon_3 (fun _ s1 => ?_)
  refine s_aload_n dX10_reckon_6 0 rfl rfl ?_
  refine s_getr (b := 104) gf_X10_23 rfl (m100 hF) k100 (ft_of k100 rfl) (hF.2 _ _) rfl dX10_reckon_7 ?_
  refine s_iconst (v := 3) dX10_reckon_10 (by decide) ?_
  refine s_iload_n dX10_reckon_11 1 rfl rfl ?_
  refine s_iconst (v := 1) dX10_reckon_12 (by decide) ?_
  refine s_isub dX10_reckon_13 ?_
  refine s_imul dX10_reckon_14 ?_
  refine s_iload_n dX10_reckon_15 2 rfl rfl ?_
  refine s_iadd dX10_reckon_16 ?_
  refine s_iconst (v := 1) dX10_reckon_17 (by decide) ?_
  refine s_isub dX10_reckon_18 ?_
  refine s_zald (m104 hF) k104 l104 dX10_reckon_19 ?_
  refine s_if_eq 24 dX10_reckon_20 (by decide) ?_ ?_
  · skip
    refine s_aload_n dX10_reckon_24 0 rfl rfl ?_
    refine s_getr (b := 104) gf_X10_23 rfl (m100 hF) k100 (ft_of k100 rfl) (hF.2 _ _) rfl dX10_reckon_25 ?_
    refine s_iconst (v := 3) dX10_reckon_28 (by decide) ?_
    refine s_iload_n dX10_reckon_29 1 rfl rfl ?_
    refine s_iconst (v := 1) dX10_reckon_30 (by decide) ?_
    refine s_isub dX10_reckon_31 ?_
    refine s_imul dX10_reckon_32 ?_
    refine s_iload_n dX10_reckon_33 2 rfl rfl ?_
    refine s_iadd dX10_reckon_34 ?_
    refine s_iconst (v := 1) dX10_reckon_35 (by decide) ?_
    refine s_isub dX10_reckon_36 ?_
    refine s_iconst (v := 1) dX10_reckon_37 (by decide) ?_
    refine s_zast (m104 hF) k104 l104 (by decide) dX10_reckon_38 (fun s2 => ?_)
    refine s_iconst (v := 0) dX10_reckon_39 (by decide) ?_
    refine s_istore_n [(3, .int (0 : Int32)), (0, rV E 100), (1, .int v1), (2, .int v2)] dX10_reckon_40 rfl (by decide) rfl ?_
    refine s_sub (lv' := [(0, rV E 100), (1, .int v1), (2, .int v2), (3, .int (0 : Int32))]) [1, 2, 3, 0] rfl ?_
    refine s_lo2 (σf := fun s3 x4 => s3) (lvf := fun s3 x4 => [(0, rV E 100), (1, .int v1), (2, .int v2), (3, .int x4)]) (fun rec5 ih6 s3 x4 => ?_)
    refine s_iload_n dX10_reckon_41 3 rfl rfl ?_
    refine s_iload_n dX10_reckon_42 1 rfl rfl ?_
    refine s_callSpI (As := [.int v1]) mf_X10_powerOf vf_X10_powerOf ml_X10_186 (c_X10_powerOf _ E hF s3 v1) rfl rfl (Nat.le_of_ble_eq_true rfl) rfl dX10_reckon_43 (fun r7 => ?_)
    refine s_icmp_ge 108 dX10_reckon_46 (by decide) ?_ ?_
    · skip
      refine s_aload_n dX10_reckon_49 0 rfl rfl ?_
      refine s_iload_n dX10_reckon_50 1 rfl rfl ?_
      refine s_iload_n dX10_reckon_51 3 rfl rfl ?_
      refine s_callVwI (As := [.int v1, .int x4]) mf_X10_placesOf vf_X10_placesOf ml_X10_193 (c_X10_placesOf _ E hF s3 v1 x4) (m100 hF) k100 (by decide) rfl rfl rfl rfl (Nat.le_of_ble_eq_true rfl) rfl dX10_reckon_52 (fun r8 s9 => ?_)
      refine s_istore [(4, .int r8), (0, rV E 100), (1, .int v1), (2, .int v2), (3, .int x4)] dX10_reckon_55 (by decide) rfl ?_
      refine s_iconst (v := 0) dX10_reckon_57 (by decide) ?_
      refine s_istore [(5, .int (0 : Int32)), (4, .int r8), (0, rV E 100), (1, .int v1), (2, .int v2), (3, .int x4)] dX10_reckon_58 (by decide) rfl ?_
      refine s_sub (lv' := [(0, rV E 100), (1, .int v1), (2, .int v2), (3, .int x4), (4, .int r8), (5, .int (0 : Int32))]) [2, 3, 4, 5, 1, 0] rfl ?_
      refine s_lo2 (σf := fun s10 x11 => s10) (lvf := fun s10 x11 => [(0, rV E 100), (1, .int v1), (2, .int v2), (3, .int x4), (4, .int r8), (5, .int x11)]) (fun rec12 ih13 s10 x11 => ?_)
      refine s_iload dX10_reckon_60 5 rfl ?_
      refine s_bipush (v := 8) dX10_reckon_62 (by decide) ?_
      refine s_icmp_ge 102 dX10_reckon_64 (by decide) ?_ ?_
      · skip
        refine s_aload_n dX10_reckon_67 0 rfl rfl ?_
        refine s_getr (b := 105) gf_X10_28 rfl (m100 hF) k100 (ft_of k100 rfl) (hF.2 _ _) rfl dX10_reckon_68 ?_
        refine s_iload_n dX10_reckon_71 1 rfl rfl ?_
        refine s_iload_n dX10_reckon_72 2 rfl rfl ?_
        refine s_iload_n dX10_reckon_73 3 rfl rfl ?_
        refine s_iload dX10_reckon_74 5 rfl ?_
        refine s_callSpI (As := [.int v1, .int v2, .int x4, .int x11]) mf_X10_at vf_X10_at ml_X10_182 (c_X10_at _ E hF s10 v1 v2 x4 x11) rfl rfl (Nat.le_of_ble_eq_true rfl) rfl dX10_reckon_76 (fun r14 => ?_)
        refine s_iload dX10_reckon_79 4 rfl ?_
        refine s_iload dX10_reckon_81 5 rfl ?_
        refine s_ishr dX10_reckon_83 ?_
        refine s_iconst (v := 1) dX10_reckon_84 (by decide) ?_
        refine s_iand dX10_reckon_85 ?_
        refine s_iconst (v := 1) dX10_reckon_86 (by decide) ?_
        refine s_icmp_ne 94 dX10_reckon_87 (by decide) ?_ ?_
        · skip
          refine s_iconst (v := 0) dX10_reckon_90 (by decide) ?_
          refine s_goto 95 dX10_reckon_91 (by decide) ?_
          refine s_iast (m105 hF) k105 l105 dX10_reckon_95 (fun s15 => ?_)
          refine s_iinc [(5, .int (x11 + 1)), (0, rV E 100), (1, .int v1), (2, .int v2), (3, .int x4), (4, .int r8)] dX10_reckon_96 5 rfl rfl (by decide) rfl ?_
          refine s_goto 60 dX10_reckon_99 (by decide) ?_
          refine s_sub [1, 2, 3, 4, 5, 0] rfl ?_
          exact ih13 s15 (x11 + 1)
        · skip
          refine s_iconst (v := -1) dX10_reckon_94 (by decide) ?_
          refine s_iast (m105 hF) k105 l105 dX10_reckon_95 (fun s16 => ?_)
          refine s_iinc [(5, .int (x11 + 1)), (0, rV E 100), (1, .int v1), (2, .int v2), (3, .int x4), (4, .int r8)] dX10_reckon_96 5 rfl rfl (by decide) rfl ?_
          refine s_goto 60 dX10_reckon_99 (by decide) ?_
          refine s_sub [1, 2, 3, 4, 5, 0] rfl ?_
          exact ih13 s16 (x11 + 1)
      · skip
        refine s_iinc [(3, .int (x4 + 1)), (0, rV E 100), (1, .int v1), (2, .int v2), (4, .int r8), (5, .int x11)] dX10_reckon_102 3 rfl rfl (by decide) rfl ?_
        refine s_goto 41 dX10_reckon_105 (by decide) ?_
        refine s_sub [1, 2, 3, 0] rfl ?_
        exact ih6 s10 (x4 + 1)
    · skip
      refine s_iconst (v := 1) dX10_reckon_108 (by decide) ?_
      refine s_istore_n [(3, .int (1 : Int32)), (0, rV E 100), (1, .int v1), (2, .int v2)] dX10_reckon_109 rfl (by decide) rfl ?_
      refine s_iconst (v := 1) dX10_reckon_110 (by decide) ?_
      refine s_istore [(4, .int (1 : Int32)), (3, .int (1 : Int32)), (0, rV E 100), (1, .int v1), (2, .int v2)] dX10_reckon_111 (by decide) rfl ?_
      refine s_sub (lv' := [(0, rV E 100), (1, .int v1), (2, .int v2), (3, .int (1 : Int32)), (4, .int (1 : Int32))]) [2, 3, 4, 1, 0] rfl ?_
      refine s_lo3 (σf := fun s17 x18 x19 => s17) (lvf := fun s17 x18 x19 => [(0, rV E 100), (1, .int v1), (2, .int v2), (3, .int x18), (4, .int x19)]) (fun rec20 ih21 s17 x18 x19 => ?_)
      refine s_iload_n dX10_reckon_113 3 rfl rfl ?_
      refine s_if_eq 241 dX10_reckon_114 (by decide) ?_ ?_
      · skip
        exact s_return rfl rfl rfl dX10_reckon_241
      · skip
        refine s_iconst (v := 0) dX10_reckon_117 (by decide) ?_
        refine s_istore_n [(3, .int (0 : Int32)), (0, rV E 100), (1, .int v1), (2, .int v2), (4, .int x19)] dX10_reckon_118 rfl (by decide) rfl ?_
        refine s_aload_n dX10_reckon_119 1 rfl rfl ?_
        refine s_iload_n dX10_reckon_120 2 rfl rfl ?_
        refine s_iload_n dX10_reckon_121 3 rfl rfl ?_
        refine s_iload dX10_reckon_122 4 rfl ?_
        refine s_iconst (v := 1) dX10_reckon_124 (by decide) ?_
        refine s_isub dX10_reckon_125 ?_
        refine s_callVwV (As := [.int v1, .int v2, .int (x19 - (1 : Int32))]) mf_X10_findGood vf_X10_findGood ml_X10_210 (c_X10_findGood _ E hF s17 v1 v2 (x19 - (1 : Int32))) (m100 hF) k100 (by decide) rfl rfl rfl rfl (Nat.le_of_ble_eq_true rfl) rfl dX10_reckon_126 (fun _ s22 => ?_)
        refine s_iconst (v := 0) dX10_reckon_129 (by decide) ?_
        refine s_istore [(5, .int (0 : Int32)), (3, .int (0 : Int32)), (0, rV E 100), (1, .int v1), (2, .int v2), (4, .int x19)] dX10_reckon_130 (by decide) rfl ?_
        refine s_sub (lv' := [(0, rV E 100), (1, .int v1), (2, .int v2), (3, .int (0 : Int32)), (4, .int x19), (5, .int (0 : Int32))]) [2, 3, 4, 1, 5, 0] rfl ?_
        refine s_lo3 (σf := fun s23 x24 x25 => s23) (lvf := fun s23 x24 x25 => [(0, rV E 100), (1, .int v1), (2, .int v2), (3, .int x24), (4, .int x19), (5, .int x25)]) (fun rec26 ih27 s23 x24 x25 => ?_)
        refine s_iload dX10_reckon_132 5 rfl ?_
        refine s_iload_n dX10_reckon_134 1 rfl rfl ?_
        refine s_callSpI (As := [.int v1]) mf_X10_powerOf vf_X10_powerOf ml_X10_186 (c_X10_powerOf _ E hF s23 v1) rfl rfl (Nat.le_of_ble_eq_true rfl) rfl dX10_reckon_135 (fun r28 => ?_)
        refine s_icmp_ge 235 dX10_reckon_138 (by decide) ?_ ?_
        · skip
          refine s_aload_n dX10_reckon_141 0 rfl rfl ?_
          refine s_iload_n dX10_reckon_142 1 rfl rfl ?_
          refine s_iload dX10_reckon_143 5 rfl ?_
          refine s_callVwI (As := [.int v1, .int x25]) mf_X10_isSetting vf_X10_isSetting ml_X10_189 (c_X10_isSetting _ E hF s23 v1 x25) (m100 hF) k100 (by decide) rfl rfl rfl rfl (Nat.le_of_ble_eq_true rfl) rfl dX10_reckon_145 (fun r29 s30 => ?_)
          refine s_jn2 162 (fun s31 x32 => s31) (fun s31 x32 => [(0, rV E 100), (1, .int v1), (2, .int v2), (3, .int x24), (4, .int x19), (5, .int x25)]) (fun s31 x32 => [.int x32]) ?_ ?_
          · intro s31 x32
            refine s_istore [(6, .int x32), (0, rV E 100), (1, .int v1), (2, .int v2), (3, .int x24), (4, .int x19), (5, .int x25)] dX10_reckon_162 (by decide) rfl ?_
            refine s_iconst (v := 0) dX10_reckon_164 (by decide) ?_
            refine s_istore [(7, .int (0 : Int32)), (6, .int x32), (0, rV E 100), (1, .int v1), (2, .int v2), (3, .int x24), (4, .int x19), (5, .int x25)] dX10_reckon_165 (by decide) rfl ?_
            refine s_sub (lv' := [(0, rV E 100), (1, .int v1), (2, .int v2), (3, .int x24), (4, .int x19), (5, .int x25), (6, .int x32), (7, .int (0 : Int32))]) [2, 3, 4, 5, 6, 7, 1, 0] rfl ?_
            refine s_lo3 (σf := fun s34 x35 x36 => s34) (lvf := fun s34 x35 x36 => [(0, rV E 100), (1, .int v1), (2, .int v2), (3, .int x35), (4, .int x19), (5, .int x25), (6, .int x32), (7, .int x36)]) (fun rec37 ih38 s34 x35 x36 => ?_)
            refine s_iload dX10_reckon_167 7 rfl ?_
            refine s_aload_n dX10_reckon_169 0 rfl rfl ?_
            refine s_geti gf_X10_7 rfl (m100 hF) k100 (ft_of k100 rfl) dX10_reckon_170 ?_
            refine s_icmp_ge 229 dX10_reckon_173 (by decide) ?_ ?_
            · skip
              refine s_iload dX10_reckon_176 6 rfl ?_
              refine s_iload dX10_reckon_178 7 rfl ?_
              refine s_ishr dX10_reckon_180 ?_
              refine s_iconst (v := 1) dX10_reckon_181 (by decide) ?_
              refine s_iand dX10_reckon_182 ?_
              refine s_iconst (v := 1) dX10_reckon_183 (by decide) ?_
              refine s_icmp_ne 223 dX10_reckon_184 (by decide) ?_ ?_
              · skip
                refine s_aload_n dX10_reckon_187 0 rfl rfl ?_
                refine s_getr (b := 105) gf_X10_28 rfl (m100 hF) k100 (ft_of k100 rfl) (hF.2 _ _) rfl dX10_reckon_188 ?_
                refine s_iload_n dX10_reckon_191 1 rfl rfl ?_
                refine s_iload_n dX10_reckon_192 2 rfl rfl ?_
                refine s_iload dX10_reckon_193 5 rfl ?_
                refine s_iload dX10_reckon_195 7 rfl ?_
                refine s_callSpI (As := [.int v1, .int v2, .int x25, .int x36]) mf_X10_at vf_X10_at ml_X10_182 (c_X10_at _ E hF s34 v1 v2 x25 x36) rfl rfl (Nat.le_of_ble_eq_true rfl) rfl dX10_reckon_197 (fun r39 => ?_)
                refine s_iald (m105 hF) k105 l105 dX10_reckon_200 ?_
                refine s_iconst (v := -1) dX10_reckon_201 (by decide) ?_
                refine s_icmp_ne 223 dX10_reckon_202 (by decide) ?_ ?_
                · skip
                  refine s_aload_n dX10_reckon_205 0 rfl rfl ?_
                  refine s_getr (b := 105) gf_X10_28 rfl (m100 hF) k100 (ft_of k100 rfl) (hF.2 _ _) rfl dX10_reckon_206 ?_
                  refine s_iload_n dX10_reckon_209 1 rfl rfl ?_
                  refine s_iload_n dX10_reckon_210 2 rfl rfl ?_
                  refine s_iload dX10_reckon_211 5 rfl ?_
                  refine s_iload dX10_reckon_213 7 rfl ?_
                  refine s_callSpI (As := [.int v1, .int v2, .int x25, .int x36]) mf_X10_at vf_X10_at ml_X10_182 (c_X10_at _ E hF s34 v1 v2 x25 x36) rfl rfl (Nat.le_of_ble_eq_true rfl) rfl dX10_reckon_215 (fun r40 => ?_)
                  refine s_iload dX10_reckon_218 4 rfl ?_
                  refine s_iast (m105 hF) k105 l105 dX10_reckon_220 (fun s41 => ?_)
                  refine s_iconst (v := 1) dX10_reckon_221 (by decide) ?_
                  refine s_istore_n [(3, .int (1 : Int32)), (0, rV E 100), (1, .int v1), (2, .int v2), (4, .int x19), (5, .int x25), (6, .int x32), (7, .int x36)] dX10_reckon_222 rfl (by decide) rfl ?_
                  refine s_iinc [(7, .int (x36 + 1)), (3, .int (1 : Int32)), (0, rV E 100), (1, .int v1), (2, .int v2), (4, .int x19), (5, .int x25), (6, .int x32)] dX10_reckon_223 7 rfl rfl (by decide) rfl ?_
                  refine s_goto 167 dX10_reckon_226 (by decide) ?_
                  refine s_sub [2, 3, 4, 1, 5, 6, 7, 0] rfl ?_
                  exact ih38 s41 (1 : Int32) (x36 + 1)
                · skip
                  refine s_iinc [(7, .int (x36 + 1)), (0, rV E 100), (1, .int v1), (2, .int v2), (3, .int x35), (4, .int x19), (5, .int x25), (6, .int x32)] dX10_reckon_223 7 rfl rfl (by decide) rfl ?_
                  refine s_goto 167 dX10_reckon_226 (by decide) ?_
                  refine s_sub [1, 2, 3, 4, 5, 6, 7, 0] rfl ?_
                  exact ih38 s34 x35 (x36 + 1)
              · skip
                refine s_iinc [(7, .int (x36 + 1)), (0, rV E 100), (1, .int v1), (2, .int v2), (3, .int x35), (4, .int x19), (5, .int x25), (6, .int x32)] dX10_reckon_223 7 rfl rfl (by decide) rfl ?_
                refine s_goto 167 dX10_reckon_226 (by decide) ?_
                refine s_sub [1, 2, 3, 4, 5, 6, 7, 0] rfl ?_
                exact ih38 s34 x35 (x36 + 1)
            · skip
              refine s_iinc [(5, .int (x25 + 1)), (0, rV E 100), (1, .int v1), (2, .int v2), (3, .int x35), (4, .int x19), (6, .int x32), (7, .int x36)] dX10_reckon_229 5 rfl rfl (by decide) rfl ?_
              refine s_goto 132 dX10_reckon_232 (by decide) ?_
              refine s_sub [1, 2, 3, 4, 5, 0] rfl ?_
              exact ih27 s34 x35 (x25 + 1)
          · intro jk33 hjk33
            refine s_if_eq 161 dX10_reckon_148 (by decide) ?_ ?_
            · skip
              refine s_iconst (v := 0) dX10_reckon_161 (by decide) ?_
              exact hjk33 s30 (0 : Int32)
            · skip
              refine s_aload_n dX10_reckon_151 0 rfl rfl ?_
              refine s_iload_n dX10_reckon_152 1 rfl rfl ?_
              refine s_iload dX10_reckon_153 5 rfl ?_
              refine s_callVwI (As := [.int v1, .int x25]) mf_X10_leavable vf_X10_leavable ml_X10_214 (c_X10_leavable _ E hF s30 v1 x25) (m100 hF) k100 (by decide) rfl rfl rfl rfl (Nat.le_of_ble_eq_true rfl) rfl dX10_reckon_155 (fun r42 s43 => ?_)
              refine s_goto 162 dX10_reckon_158 (by decide) ?_
              exact hjk33 s43 r42
        · skip
          refine s_iinc [(4, .int (x19 + 1)), (0, rV E 100), (1, .int v1), (2, .int v2), (3, .int x24), (5, .int x25)] dX10_reckon_235 4 rfl rfl (by decide) rfl ?_
          refine s_goto 113 dX10_reckon_238 (by decide) ?_
          refine s_sub [1, 2, 3, 4, 0] rfl ?_
          exact ih21 s23 x24 (x19 + 1)
  · skip
    exact s_return rfl rfl rfl dX10_reckon_23
theorem dX10_isChase_0 : decode cX10_isChase 0 = .ok (.iload_n 0, 1) := by decide +kernel
theorem dX10_isChase_1 : decode cX10_isChase 1 = .ok (.iconst 1, 1) := by decide +kernel
theorem dX10_isChase_2 : decode cX10_isChase 2 = .ok (.iconst 3, 1) := by decide +kernel
theorem dX10_isChase_3 : decode cX10_isChase 3 = .ok (.invokestatic 83, 3) := by decide +kernel
theorem dX10_isChase_6 : decode cX10_isChase 6 = .ok (.ifCond .eq 16, 3) := by decide +kernel
theorem dX10_isChase_9 : decode cX10_isChase 9 = .ok (.iload_n 1, 1) := by decide +kernel
theorem dX10_isChase_10 : decode cX10_isChase 10 = .ok (.iconst 1, 1) := by decide +kernel
theorem dX10_isChase_11 : decode cX10_isChase 11 = .ok (.iconst 3, 1) := by decide +kernel
theorem dX10_isChase_12 : decode cX10_isChase 12 = .ok (.invokestatic 83, 3) := by decide +kernel
theorem dX10_isChase_15 : decode cX10_isChase 15 = .ok (.ifCond .eq 7, 3) := by decide +kernel
theorem dX10_isChase_18 : decode cX10_isChase 18 = .ok (.iconst 1, 1) := by decide +kernel
theorem dX10_isChase_19 : decode cX10_isChase 19 = .ok (.goto 4, 3) := by decide +kernel
theorem dX10_isChase_22 : decode cX10_isChase 22 = .ok (.iconst 0, 1) := by decide +kernel
theorem dX10_isChase_23 : decode cX10_isChase 23 = .ok (.ireturn, 1) := by decide +kernel
def f_X10_isChase (σ : St) (v0 : Int32) (v1 : Int32) : Option Int32 :=
  calP (f_X10_in σ v0 (1 : Int32) (3 : Int32)) fun r1 =>
    (if r1 = 0 then
      some (0 : Int32)
       else
      calP (f_X10_in σ v1 (1 : Int32) (3 : Int32)) fun r2 =>
        (if r2 = 0 then
          some (0 : Int32)
           else
          some (1 : Int32)))
set_option maxHeartbeats 4000000 in
set_option maxRecDepth 100000 in
theorem c_X10_isChase (l : Launch) (E : Ev) (hF : Full E) (σ : St) (v0 : Int32) (v1 : Int32) : Ctr l enI (fun _ => σ) E md_X10_isChase [.int v0, .int v1] σ (f_X10_isChase σ v0 v1) := by
  refine ctr_of rfl (Nat.le_of_ble_eq_true rfl) (fun Γ => ?_)
  show Sim _ Γ _ E md_X10_isChase σ 0 [(0, .int v0), (1, .int v1)] [] _
  unfold f_X10_isChase
  refine s_iload_n dX10_isChase_0 0 rfl rfl ?_
  refine s_iconst (v := 1) dX10_isChase_1 (by decide) ?_
  refine s_iconst (v := 3) dX10_isChase_2 (by decide) ?_
  refine s_callSpI (As := [.int v0, .int (1 : Int32), .int (3 : Int32)]) mf_X10_in vf_X10_in ml_X10_83 (c_X10_in _ E hF σ v0 (1 : Int32) (3 : Int32)) rfl rfl (Nat.le_of_ble_eq_true rfl) rfl dX10_isChase_3 (fun r1 => ?_)
  refine s_if_eq 22 dX10_isChase_6 (by decide) ?_ ?_
  · skip
    refine s_iconst (v := 0) dX10_isChase_22 (by decide) ?_
    exact s_zreturn rfl (by decide) rfl rfl dX10_isChase_23
  · skip
    refine s_iload_n dX10_isChase_9 1 rfl rfl ?_
    refine s_iconst (v := 1) dX10_isChase_10 (by decide) ?_
    refine s_iconst (v := 3) dX10_isChase_11 (by decide) ?_
    refine s_callSpI (As := [.int v1, .int (1 : Int32), .int (3 : Int32)]) mf_X10_in vf_X10_in ml_X10_83 (c_X10_in _ E hF σ v1 (1 : Int32) (3 : Int32)) rfl rfl (Nat.le_of_ble_eq_true rfl) rfl dX10_isChase_12 (fun r2 => ?_)
    refine s_if_eq 22 dX10_isChase_15 (by decide) ?_ ?_
    · skip
      refine s_iconst (v := 0) dX10_isChase_22 (by decide) ?_
      exact s_zreturn rfl (by decide) rfl rfl dX10_isChase_23
    · skip
      refine s_iconst (v := 1) dX10_isChase_18 (by decide) ?_
      refine s_goto 23 dX10_isChase_19 (by decide) ?_
      exact s_zreturn rfl (by decide) rfl rfl dX10_isChase_23
theorem dX10_told_0 : decode cX10_told 0 = .ok (.iconst 1, 1) := by decide +kernel
theorem dX10_told_1 : decode cX10_told 1 = .ok (.istore_n 3, 1) := by decide +kernel
theorem dX10_told_2 : decode cX10_told 2 = .ok (.iconst 0, 1) := by decide +kernel
theorem dX10_told_3 : decode cX10_told 3 = .ok (.istore 4, 2) := by decide +kernel
theorem dX10_told_5 : decode cX10_told 5 = .ok (.iload 4, 2) := by decide +kernel
theorem dX10_told_7 : decode cX10_told 7 = .ok (.iload_n 1, 1) := by decide +kernel
theorem dX10_told_8 : decode cX10_told 8 = .ok (.if_icmp .ge 49, 3) := by decide +kernel
theorem dX10_told_11 : decode cX10_told 11 = .ok (.aload_n 0, 1) := by decide +kernel
theorem dX10_told_12 : decode cX10_told 12 = .ok (.getfield 40, 3) := by decide +kernel
theorem dX10_told_15 : decode cX10_told 15 = .ok (.iload 4, 2) := by decide +kernel
theorem dX10_told_17 : decode cX10_told 17 = .ok (.iload_n 2, 1) := by decide +kernel
theorem dX10_told_18 : decode cX10_told 18 = .ok (.iconst 4, 1) := by decide +kernel
theorem dX10_told_19 : decode cX10_told 19 = .ok (.iload 4, 2) := by decide +kernel
theorem dX10_told_21 : decode cX10_told 21 = .ok (.imul, 1) := by decide +kernel
theorem dX10_told_22 : decode cX10_told 22 = .ok (.ishr, 1) := by decide +kernel
theorem dX10_told_23 : decode cX10_told 23 = .ok (.bipush 15, 2) := by decide +kernel
theorem dX10_told_25 : decode cX10_told 25 = .ok (.iand, 1) := by decide +kernel
theorem dX10_told_26 : decode cX10_told 26 = .ok (.iastore, 1) := by decide +kernel
theorem dX10_told_27 : decode cX10_told 27 = .ok (.iload_n 3, 1) := by decide +kernel
theorem dX10_told_28 : decode cX10_told 28 = .ok (.ifCond .eq 21, 3) := by decide +kernel
theorem dX10_told_31 : decode cX10_told 31 = .ok (.aload_n 0, 1) := by decide +kernel
theorem dX10_told_32 : decode cX10_told 32 = .ok (.getfield 40, 3) := by decide +kernel
theorem dX10_told_35 : decode cX10_told 35 = .ok (.iload 4, 2) := by decide +kernel
theorem dX10_told_37 : decode cX10_told 37 = .ok (.iaload, 1) := by decide +kernel
theorem dX10_told_38 : decode cX10_told 38 = .ok (.aload_n 0, 1) := by decide +kernel
theorem dX10_told_39 : decode cX10_told 39 = .ok (.getfield 7, 3) := by decide +kernel
theorem dX10_told_42 : decode cX10_told 42 = .ok (.if_icmp .ge 7, 3) := by decide +kernel
theorem dX10_told_45 : decode cX10_told 45 = .ok (.iconst 1, 1) := by decide +kernel
theorem dX10_told_46 : decode cX10_told 46 = .ok (.goto 4, 3) := by decide +kernel
theorem dX10_told_49 : decode cX10_told 49 = .ok (.iconst 0, 1) := by decide +kernel
theorem dX10_told_50 : decode cX10_told 50 = .ok (.istore_n 3, 1) := by decide +kernel
theorem dX10_told_51 : decode cX10_told 51 = .ok (.iinc 4 1, 3) := by decide +kernel
theorem dX10_told_54 : decode cX10_told 54 = .ok (.goto (-49), 3) := by decide +kernel
theorem dX10_told_57 : decode cX10_told 57 = .ok (.iload_n 3, 1) := by decide +kernel
theorem dX10_told_58 : decode cX10_told 58 = .ok (.ifCond .eq 11, 3) := by decide +kernel
theorem dX10_told_61 : decode cX10_told 61 = .ok (.aload_n 0, 1) := by decide +kernel
theorem dX10_told_62 : decode cX10_told 62 = .ok (.iload_n 1, 1) := by decide +kernel
theorem dX10_told_63 : decode cX10_told 63 = .ok (.invokevirtual 179, 3) := by decide +kernel
theorem dX10_told_66 : decode cX10_told 66 = .ok (.goto 4, 3) := by decide +kernel
theorem dX10_told_69 : decode cX10_told 69 = .ok (.iconst (-1), 1) := by decide +kernel
theorem dX10_told_70 : decode cX10_told 70 = .ok (.ireturn, 1) := by decide +kernel
def f_X10_told (σ : St) (v1 : Int32) (v2 : Int32) : Option (Int32 × St) :=
  lo3 FU (fun rec4 (s1 : St) (x2 : Int32) (x3 : Int32) =>
    (if x3 < v1 then
      ck x3 3 <|
        bd (setI s1 109 x3.toNatClampNeg ((v2 >>> (((4 : Int32) * x3) &&& 31)) &&& (15 : Int32))) fun s6 =>
          (if x2 = 0 then
            rec4 s6 (0 : Int32) (x3 + 1)
             else
            ck x3 3 <|
              (if (s6.1 109 x3.toNatClampNeg) < (s6.1 100 0) then
                rec4 s6 (1 : Int32) (x3 + 1)
                 else
                rec4 s6 (0 : Int32) (x3 + 1)))
       else
      (if x2 = 0 then
        some ((-1 : Int32), s1)
         else
        cal (f_X10_settled s1 v1) fun r7 s8 =>
          some (r7, s8)))) σ (1 : Int32) (0 : Int32)
set_option maxHeartbeats 4000000 in
set_option maxRecDepth 100000 in
theorem c_X10_told (l : Launch) (E : Ev) (hF : Full E) (σ : St) (v1 : Int32) (v2 : Int32) : Ctr l (en2 enI) (fun q => q.2) E md_X10_told [rV E 100, .int v1, .int v2] σ (f_X10_told σ v1 v2) := by
  refine ctr_of rfl (Nat.le_of_ble_eq_true rfl) (fun Γ => ?_)
  show Sim _ Γ _ E md_X10_told σ 0 [(0, rV E 100), (1, .int v1), (2, .int v2)] [] _
  unfold f_X10_told
  refine s_iconst (v := 1) dX10_told_0 (by decide) ?_
  refine s_istore_n [(3, .int (1 : Int32)), (0, rV E 100), (1, .int v1), (2, .int v2)] dX10_told_1 rfl (by decide) rfl ?_
  refine s_iconst (v := 0) dX10_told_2 (by decide) ?_
  refine s_istore [(4, .int (0 : Int32)), (3, .int (1 : Int32)), (0, rV E 100), (1, .int v1), (2, .int v2)] dX10_told_3 (by decide) rfl ?_
  refine s_sub (lv' := [(0, rV E 100), (1, .int v1), (2, .int v2), (3, .int (1 : Int32)), (4, .int (0 : Int32))]) [2, 3, 4, 1, 0] rfl ?_
  refine s_lo3 (σf := fun s1 x2 x3 => s1) (lvf := fun s1 x2 x3 => [(0, rV E 100), (1, .int v1), (2, .int v2), (3, .int x2), (4, .int x3)]) (fun rec4 ih5 s1 x2 x3 => ?_)
  refine s_iload dX10_told_5 4 rfl ?_
  refine s_iload_n dX10_told_7 1 rfl rfl ?_
  refine s_icmp_ge 57 dX10_told_8 (by decide) ?_ ?_
  · skip
    refine s_aload_n dX10_told_11 0 rfl rfl ?_
    refine s_getr (b := 109) gf_X10_40 rfl (m100 hF) k100 (ft_of k100 rfl) (hF.2 _ _) rfl dX10_told_12 ?_
    refine s_iload dX10_told_15 4 rfl ?_
    refine s_iload_n dX10_told_17 2 rfl rfl ?_
    refine s_iconst (v := 4) dX10_told_18 (by decide) ?_
    refine s_iload dX10_told_19 4 rfl ?_
    refine s_imul dX10_told_21 ?_
    refine s_ishr dX10_told_22 ?_
    refine s_bipush (v := 15) dX10_told_23 (by decide) ?_
    refine s_iand dX10_told_25 ?_
    refine s_iast (m109 hF) k109 l109 dX10_told_26 (fun s6 => ?_)
    refine s_iload_n dX10_told_27 3 rfl rfl ?_
    refine s_if_eq 49 dX10_told_28 (by decide) ?_ ?_
    · skip
      refine s_iconst (v := 0) dX10_told_49 (by decide) ?_
      refine s_istore_n [(3, .int (0 : Int32)), (0, rV E 100), (1, .int v1), (2, .int v2), (4, .int x3)] dX10_told_50 rfl (by decide) rfl ?_
      refine s_iinc [(4, .int (x3 + 1)), (3, .int (0 : Int32)), (0, rV E 100), (1, .int v1), (2, .int v2)] dX10_told_51 4 rfl rfl (by decide) rfl ?_
      refine s_goto 5 dX10_told_54 (by decide) ?_
      refine s_sub [2, 3, 4, 1, 0] rfl ?_
      exact ih5 s6 (0 : Int32) (x3 + 1)
    · skip
      refine s_aload_n dX10_told_31 0 rfl rfl ?_
      refine s_getr (b := 109) gf_X10_40 rfl (m100 hF) k100 (ft_of k100 rfl) (hF.2 _ _) rfl dX10_told_32 ?_
      refine s_iload dX10_told_35 4 rfl ?_
      refine s_iald (m109 hF) k109 l109 dX10_told_37 ?_
      refine s_aload_n dX10_told_38 0 rfl rfl ?_
      refine s_geti gf_X10_7 rfl (m100 hF) k100 (ft_of k100 rfl) dX10_told_39 ?_
      refine s_icmp_ge 49 dX10_told_42 (by decide) ?_ ?_
      · skip
        refine s_iconst (v := 1) dX10_told_45 (by decide) ?_
        refine s_goto 50 dX10_told_46 (by decide) ?_
        refine s_istore_n [(3, .int (1 : Int32)), (0, rV E 100), (1, .int v1), (2, .int v2), (4, .int x3)] dX10_told_50 rfl (by decide) rfl ?_
        refine s_iinc [(4, .int (x3 + 1)), (3, .int (1 : Int32)), (0, rV E 100), (1, .int v1), (2, .int v2)] dX10_told_51 4 rfl rfl (by decide) rfl ?_
        refine s_goto 5 dX10_told_54 (by decide) ?_
        refine s_sub [2, 3, 4, 1, 0] rfl ?_
        exact ih5 s6 (1 : Int32) (x3 + 1)
      · skip
        refine s_iconst (v := 0) dX10_told_49 (by decide) ?_
        refine s_istore_n [(3, .int (0 : Int32)), (0, rV E 100), (1, .int v1), (2, .int v2), (4, .int x3)] dX10_told_50 rfl (by decide) rfl ?_
        refine s_iinc [(4, .int (x3 + 1)), (3, .int (0 : Int32)), (0, rV E 100), (1, .int v1), (2, .int v2)] dX10_told_51 4 rfl rfl (by decide) rfl ?_
        refine s_goto 5 dX10_told_54 (by decide) ?_
        refine s_sub [2, 3, 4, 1, 0] rfl ?_
        exact ih5 s6 (0 : Int32) (x3 + 1)
  · skip
    refine s_iload_n dX10_told_57 3 rfl rfl ?_
    refine s_if_eq 69 dX10_told_58 (by decide) ?_ ?_
    · skip
      refine s_iconst (v := -1) dX10_told_69 (by decide) ?_
      exact s_ireturn rfl rfl rfl dX10_told_70
    · skip
      refine s_aload_n dX10_told_61 0 rfl rfl ?_
      refine s_iload_n dX10_told_62 1 rfl rfl ?_
      refine s_callVwI (As := [.int v1]) mf_X10_settled vf_X10_settled ml_X10_179 (c_X10_settled _ E hF s1 v1) (m100 hF) k100 (by decide) rfl rfl rfl rfl (Nat.le_of_ble_eq_true rfl) rfl dX10_told_63 (fun r7 s8 => ?_)
      refine s_goto 70 dX10_told_66 (by decide) ?_
      exact s_ireturn rfl rfl rfl dX10_told_70
