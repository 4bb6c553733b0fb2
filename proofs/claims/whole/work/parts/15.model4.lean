theorem dX10_spreadOf_0 : decode cX10_spreadOf 0 = .ok (.aload_n 0, 1) := by decide +kernel
theorem dX10_spreadOf_1 : decode cX10_spreadOf 1 = .ok (.iload_n 2, 1) := by decide +kernel
theorem dX10_spreadOf_2 : decode cX10_spreadOf 2 = .ok (.iload_n 1, 1) := by decide +kernel
theorem dX10_spreadOf_3 : decode cX10_spreadOf 3 = .ok (.iconst (-1), 1) := by decide +kernel
theorem dX10_spreadOf_4 : decode cX10_spreadOf 4 = .ok (.ixor, 1) := by decide +kernel
theorem dX10_spreadOf_5 : decode cX10_spreadOf 5 = .ok (.iand, 1) := by decide +kernel
theorem dX10_spreadOf_6 : decode cX10_spreadOf 6 = .ok (.invokevirtual 172, 3) := by decide +kernel
theorem dX10_spreadOf_9 : decode cX10_spreadOf 9 = .ok (.iload_n 1, 1) := by decide +kernel
theorem dX10_spreadOf_10 : decode cX10_spreadOf 10 = .ok (.iconst (-1), 1) := by decide +kernel
theorem dX10_spreadOf_11 : decode cX10_spreadOf 11 = .ok (.ixor, 1) := by decide +kernel
theorem dX10_spreadOf_12 : decode cX10_spreadOf 12 = .ok (.iand, 1) := by decide +kernel
theorem dX10_spreadOf_13 : decode cX10_spreadOf 13 = .ok (.ireturn, 1) := by decide +kernel
def f_X10_spreadOf (σ : St) (v1 : Int32) (v2 : Int32) : Option Int32 :=
  calP (f_X10_stepped σ (v2 &&& (v1 ^^^ (-1 : Int32)))) fun r1 =>
    some (r1 &&& (v1 ^^^ (-1 : Int32)))
set_option maxHeartbeats 4000000 in
set_option maxRecDepth 100000 in
theorem c_X10_spreadOf (l : Launch) (E : Ev) (hF : Full E) (σ : St) (v1 : Int32) (v2 : Int32) : Ctr l enI (fun _ => σ) E md_X10_spreadOf [rV E 100, .int v1, .int v2] σ (f_X10_spreadOf σ v1 v2) := by
  refine ctr_of rfl (Nat.le_of_ble_eq_true rfl) (fun Γ => ?_)
  show Sim _ Γ _ E md_X10_spreadOf σ 0 [(0, rV E 100), (1, .int v1), (2, .int v2)] [] _
  unfold f_X10_spreadOf
  refine s_aload_n dX10_spreadOf_0 0 rfl rfl ?_
  refine s_iload_n dX10_spreadOf_1 2 rfl rfl ?_
  refine s_iload_n dX10_spreadOf_2 1 rfl rfl ?_
  refine s_iconst (v := -1) dX10_spreadOf_3 (by decide) ?_
  refine s_ixor dX10_spreadOf_4 ?_
  refine s_iand dX10_spreadOf_5 ?_
  refine s_callVpI (As := [.int (v2 &&& (v1 ^^^ (-1 : Int32)))]) mf_X10_stepped vf_X10_stepped ml_X10_172 (c_X10_stepped _ E hF σ (v2 &&& (v1 ^^^ (-1 : Int32)))) (m100 hF) k100 (by decide) rfl rfl rfl rfl (Nat.le_of_ble_eq_true rfl) rfl dX10_spreadOf_6 (fun r1 => ?_)
  refine s_iload_n dX10_spreadOf_9 1 rfl rfl ?_
  refine s_iconst (v := -1) dX10_spreadOf_10 (by decide) ?_
  refine s_ixor dX10_spreadOf_11 ?_
  refine s_iand dX10_spreadOf_12 ?_
  exact s_ireturn rfl rfl rfl dX10_spreadOf_13
theorem dX10_isSet_0 : decode cX10_isSet 0 = .ok (.iload_n 1, 1) := by decide +kernel
theorem dX10_isSet_1 : decode cX10_isSet 1 = .ok (.iconst 0, 1) := by decide +kernel
theorem dX10_isSet_2 : decode cX10_isSet 2 = .ok (.iconst 1, 1) := by decide +kernel
theorem dX10_isSet_3 : decode cX10_isSet 3 = .ok (.aload_n 0, 1) := by decide +kernel
theorem dX10_isSet_4 : decode cX10_isSet 4 = .ok (.getfield 7, 3) := by decide +kernel
theorem dX10_isSet_7 : decode cX10_isSet 7 = .ok (.ishl, 1) := by decide +kernel
theorem dX10_isSet_8 : decode cX10_isSet 8 = .ok (.iconst 1, 1) := by decide +kernel
theorem dX10_isSet_9 : decode cX10_isSet 9 = .ok (.isub, 1) := by decide +kernel
theorem dX10_isSet_10 : decode cX10_isSet 10 = .ok (.invokestatic 83, 3) := by decide +kernel
theorem dX10_isSet_13 : decode cX10_isSet 13 = .ok (.ireturn, 1) := by decide +kernel
def f_X10_isSet (σ : St) (v1 : Int32) : Option Int32 :=
  calP (f_X10_in σ v1 (0 : Int32) (((1 : Int32) <<< ((σ.1 100 0) &&& 31)) - (1 : Int32))) fun r1 =>
    ckZ r1 <|
      some r1
set_option maxHeartbeats 4000000 in
set_option maxRecDepth 100000 in
theorem c_X10_isSet (l : Launch) (E : Ev) (hF : Full E) (σ : St) (v1 : Int32) : Ctr l enI (fun _ => σ) E md_X10_isSet [rV E 100, .int v1] σ (f_X10_isSet σ v1) := by
  refine ctr_of rfl (Nat.le_of_ble_eq_true rfl) (fun Γ => ?_)
  show Sim _ Γ _ E md_X10_isSet σ 0 [(0, rV E 100), (1, .int v1)] [] _
  unfold f_X10_isSet
  refine s_iload_n dX10_isSet_0 1 rfl rfl ?_
  refine s_iconst (v := 0) dX10_isSet_1 (by decide) ?_
  refine s_iconst (v := 1) dX10_isSet_2 (by decide) ?_
  refine s_aload_n dX10_isSet_3 0 rfl rfl ?_
  refine s_geti gf_X10_7 rfl (m100 hF) k100 (ft_of k100 rfl) dX10_isSet_4 ?_
  refine s_ishl dX10_isSet_7 ?_
  refine s_iconst (v := 1) dX10_isSet_8 (by decide) ?_
  refine s_isub dX10_isSet_9 ?_
  refine s_callSpI (As := [.int v1, .int (0 : Int32), .int (((1 : Int32) <<< ((σ.1 100 0) &&& 31)) - (1 : Int32))]) mf_X10_in vf_X10_in ml_X10_83 (c_X10_in _ E hF σ v1 (0 : Int32) (((1 : Int32) <<< ((σ.1 100 0) &&& 31)) - (1 : Int32))) rfl rfl (Nat.le_of_ble_eq_true rfl) rfl dX10_isSet_10 (fun r1 => ?_)
  refine s_ckZ (fun hz2 => ?_)
  exact s_zreturn rfl hz2 rfl rfl dX10_isSet_13
theorem dX10_spread_0 : decode cX10_spread 0 = .ok (.iload_n 1, 1) := by decide +kernel
theorem dX10_spread_1 : decode cX10_spread 1 = .ok (.iconst 1, 1) := by decide +kernel
theorem dX10_spread_2 : decode cX10_spread 2 = .ok (.iconst 2, 1) := by decide +kernel
theorem dX10_spread_3 : decode cX10_spread 3 = .ok (.invokestatic 83, 3) := by decide +kernel
theorem dX10_spread_6 : decode cX10_spread 6 = .ok (.ifCond .eq 11, 3) := by decide +kernel
theorem dX10_spread_9 : decode cX10_spread 9 = .ok (.aload_n 0, 1) := by decide +kernel
theorem dX10_spread_10 : decode cX10_spread 10 = .ok (.iload_n 3, 1) := by decide +kernel
theorem dX10_spread_11 : decode cX10_spread 11 = .ok (.invokevirtual 253, 3) := by decide +kernel
theorem dX10_spread_14 : decode cX10_spread 14 = .ok (.ifCond .ne 6, 3) := by decide +kernel
theorem dX10_spread_17 : decode cX10_spread 17 = .ok (.bipush (-3), 2) := by decide +kernel
theorem dX10_spread_19 : decode cX10_spread 19 = .ok (.ireturn, 1) := by decide +kernel
theorem dX10_spread_20 : decode cX10_spread 20 = .ok (.aload_n 0, 1) := by decide +kernel
theorem dX10_spread_21 : decode cX10_spread 21 = .ok (.iload_n 1, 1) := by decide +kernel
theorem dX10_spread_22 : decode cX10_spread 22 = .ok (.iload_n 2, 1) := by decide +kernel
theorem dX10_spread_23 : decode cX10_spread 23 = .ok (.invokevirtual 220, 3) := by decide +kernel
theorem dX10_spread_26 : decode cX10_spread 26 = .ok (.istore 4, 2) := by decide +kernel
theorem dX10_spread_28 : decode cX10_spread 28 = .ok (.iload 4, 2) := by decide +kernel
theorem dX10_spread_30 : decode cX10_spread 30 = .ok (.iconst (-1), 1) := by decide +kernel
theorem dX10_spread_31 : decode cX10_spread 31 = .ok (.if_icmp .ne 8, 3) := by decide +kernel
theorem dX10_spread_34 : decode cX10_spread 34 = .ok (.bipush (-2), 2) := by decide +kernel
theorem dX10_spread_36 : decode cX10_spread 36 = .ok (.goto 15, 3) := by decide +kernel
theorem dX10_spread_39 : decode cX10_spread 39 = .ok (.aload_n 0, 1) := by decide +kernel
theorem dX10_spread_40 : decode cX10_spread 40 = .ok (.aload_n 0, 1) := by decide +kernel
theorem dX10_spread_41 : decode cX10_spread 41 = .ok (.iload_n 1, 1) := by decide +kernel
theorem dX10_spread_42 : decode cX10_spread 42 = .ok (.iload 4, 2) := by decide +kernel
theorem dX10_spread_44 : decode cX10_spread 44 = .ok (.invokevirtual 193, 3) := by decide +kernel
theorem dX10_spread_47 : decode cX10_spread 47 = .ok (.iload_n 3, 1) := by decide +kernel
theorem dX10_spread_48 : decode cX10_spread 48 = .ok (.invokevirtual 256, 3) := by decide +kernel
theorem dX10_spread_51 : decode cX10_spread 51 = .ok (.ireturn, 1) := by decide +kernel
def f_X10_spread (σ : St) (v1 : Int32) (v2 : Int32) (v3 : Int32) : Option (Int32 × St) :=
  calP (f_X10_in σ v1 (1 : Int32) (2 : Int32)) fun r1 =>
    (if r1 = 0 then
      some ((-3 : Int32), σ)
       else
      calP (f_X10_isSet σ v3) fun r2 =>
        (if r2 = 0 then
          some ((-3 : Int32), σ)
           else
          cal (f_X10_told σ v1 v2) fun r3 s4 =>
            (if r3 = (-1 : Int32) then
              some ((-2 : Int32), s4)
               else
              cal (f_X10_placesOf s4 v1 r3) fun r5 s6 =>
                calP (f_X10_spreadOf s6 r5 v3) fun r7 =>
                  some (r7, s6))))
set_option maxHeartbeats 4000000 in
set_option maxRecDepth 100000 in
theorem c_X10_spread (l : Launch) (E : Ev) (hF : Full E) (σ : St) (v1 : Int32) (v2 : Int32) (v3 : Int32) : Ctr l (en2 enI) (fun q => q.2) E md_X10_spread [rV E 100, .int v1, .int v2, .int v3] σ (f_X10_spread σ v1 v2 v3) := by
  refine ctr_of rfl (Nat.le_of_ble_eq_true rfl) (fun Γ => ?_)
  show Sim _ Γ _ E md_X10_spread σ 0 [(0, rV E 100), (1, .int v1), (2, .int v2), (3, .int v3)] [] _
  unfold f_X10_spread
  refine s_iload_n dX10_spread_0 1 rfl rfl ?_
  refine s_iconst (v := 1) dX10_spread_1 (by decide) ?_
  refine s_iconst (v := 2) dX10_spread_2 (by decide) ?_
  refine s_callSpI (As := [.int v1, .int (1 : Int32), .int (2 : Int32)]) mf_X10_in vf_X10_in ml_X10_83 (c_X10_in _ E hF σ v1 (1 : Int32) (2 : Int32)) rfl rfl (Nat.le_of_ble_eq_true rfl) rfl dX10_spread_3 (fun r1 => ?_)
  refine s_if_eq 17 dX10_spread_6 (by decide) ?_ ?_
  · skip
    refine s_bipush (v := -3) dX10_spread_17 (by decide) ?_
    exact s_ireturn rfl rfl rfl dX10_spread_19
  · skip
    refine s_aload_n dX10_spread_9 0 rfl rfl ?_
    refine s_iload_n dX10_spread_10 3 rfl rfl ?_
    refine s_callVpI (As := [.int v3]) mf_X10_isSet vf_X10_isSet ml_X10_253 (c_X10_isSet _ E hF σ v3) (m100 hF) k100 (by decide) rfl rfl rfl rfl (Nat.le_of_ble_eq_true rfl) rfl dX10_spread_11 (fun r2 => ?_)
    refine s_if_ne 20 dX10_spread_14 (by decide) ?_ ?_
    · skip
      refine s_bipush (v := -3) dX10_spread_17 (by decide) ?_
      exact s_ireturn rfl rfl rfl dX10_spread_19
    · skip
      refine s_aload_n dX10_spread_20 0 rfl rfl ?_
      refine s_iload_n dX10_spread_21 1 rfl rfl ?_
      refine s_iload_n dX10_spread_22 2 rfl rfl ?_
      refine s_callVwI (As := [.int v1, .int v2]) mf_X10_told vf_X10_told ml_X10_220 (c_X10_told _ E hF σ v1 v2) (m100 hF) k100 (by decide) rfl rfl rfl rfl (Nat.le_of_ble_eq_true rfl) rfl dX10_spread_23 (fun r3 s4 => ?_)
      refine s_istore [(4, .int r3), (0, rV E 100), (1, .int v1), (2, .int v2), (3, .int v3)] dX10_spread_26 (by decide) rfl ?_
      refine s_iload dX10_spread_28 0 rfl ?_
      refine s_iconst (v := -1) dX10_spread_30 (by decide) ?_
      refine s_icmp_ne 39 dX10_spread_31 (by decide) ?_ ?_
      · skip
        refine s_bipush (v := -2) dX10_spread_34 (by decide) ?_
        refine s_goto 51 dX10_spread_36 (by decide) ?_
        exact s_ireturn rfl rfl rfl dX10_spread_51
      · skip
        refine s_aload_n dX10_spread_39 1 rfl rfl ?_
        refine s_aload_n dX10_spread_40 1 rfl rfl ?_
        refine s_iload_n dX10_spread_41 2 rfl rfl ?_
        refine s_iload dX10_spread_42 0 rfl ?_
        refine s_callVwI (As := [.int v1, .int r3]) mf_X10_placesOf vf_X10_placesOf ml_X10_193 (c_X10_placesOf _ E hF s4 v1 r3) (m100 hF) k100 (by decide) rfl rfl rfl rfl (Nat.le_of_ble_eq_true rfl) rfl dX10_spread_44 (fun r5 s6 => ?_)
        refine s_iload_n dX10_spread_47 4 rfl rfl ?_
        refine s_callVpI (As := [.int r5, .int v3]) mf_X10_spreadOf vf_X10_spreadOf ml_X10_256 (c_X10_spreadOf _ E hF s6 r5 v3) (m100 hF) k100 (by decide) rfl rfl rfl rfl (Nat.le_of_ble_eq_true rfl) rfl dX10_spread_48 (fun r7 => ?_)
        exact s_ireturn rfl rfl rfl dX10_spread_51
theorem dX10_canStep_0 : decode cX10_canStep 0 = .ok (.iload_n 1, 1) := by decide +kernel
theorem dX10_canStep_1 : decode cX10_canStep 1 = .ok (.iconst 1, 1) := by decide +kernel
theorem dX10_canStep_2 : decode cX10_canStep 2 = .ok (.if_icmp .ne 22, 3) := by decide +kernel
theorem dX10_canStep_5 : decode cX10_canStep 5 = .ok (.aload_n 0, 1) := by decide +kernel
theorem dX10_canStep_6 : decode cX10_canStep 6 = .ok (.iload_n 2, 1) := by decide +kernel
theorem dX10_canStep_7 : decode cX10_canStep 7 = .ok (.invokevirtual 168, 3) := by decide +kernel
theorem dX10_canStep_10 : decode cX10_canStep 10 = .ok (.iload_n 3, 1) := by decide +kernel
theorem dX10_canStep_11 : decode cX10_canStep 11 = .ok (.ishr, 1) := by decide +kernel
theorem dX10_canStep_12 : decode cX10_canStep 12 = .ok (.iconst 1, 1) := by decide +kernel
theorem dX10_canStep_13 : decode cX10_canStep 13 = .ok (.iand, 1) := by decide +kernel
theorem dX10_canStep_14 : decode cX10_canStep 14 = .ok (.iconst 1, 1) := by decide +kernel
theorem dX10_canStep_15 : decode cX10_canStep 15 = .ok (.if_icmp .ne 7, 3) := by decide +kernel
theorem dX10_canStep_18 : decode cX10_canStep 18 = .ok (.iconst 1, 1) := by decide +kernel
theorem dX10_canStep_19 : decode cX10_canStep 19 = .ok (.goto 4, 3) := by decide +kernel
theorem dX10_canStep_22 : decode cX10_canStep 22 = .ok (.iconst 0, 1) := by decide +kernel
theorem dX10_canStep_23 : decode cX10_canStep 23 = .ok (.ireturn, 1) := by decide +kernel
theorem dX10_canStep_24 : decode cX10_canStep 24 = .ok (.aload_n 0, 1) := by decide +kernel
theorem dX10_canStep_25 : decode cX10_canStep 25 = .ok (.iload_n 2, 1) := by decide +kernel
theorem dX10_canStep_26 : decode cX10_canStep 26 = .ok (.bipush 8, 2) := by decide +kernel
theorem dX10_canStep_28 : decode cX10_canStep 28 = .ok (.idiv, 1) := by decide +kernel
theorem dX10_canStep_29 : decode cX10_canStep 29 = .ok (.invokevirtual 168, 3) := by decide +kernel
theorem dX10_canStep_32 : decode cX10_canStep 32 = .ok (.istore 4, 2) := by decide +kernel
theorem dX10_canStep_34 : decode cX10_canStep 34 = .ok (.aload_n 0, 1) := by decide +kernel
theorem dX10_canStep_35 : decode cX10_canStep 35 = .ok (.iload_n 2, 1) := by decide +kernel
theorem dX10_canStep_36 : decode cX10_canStep 36 = .ok (.bipush 8, 2) := by decide +kernel
theorem dX10_canStep_38 : decode cX10_canStep 38 = .ok (.irem, 1) := by decide +kernel
theorem dX10_canStep_39 : decode cX10_canStep 39 = .ok (.invokevirtual 168, 3) := by decide +kernel
theorem dX10_canStep_42 : decode cX10_canStep 42 = .ok (.istore 5, 2) := by decide +kernel
theorem dX10_canStep_44 : decode cX10_canStep 44 = .ok (.iload_n 3, 1) := by decide +kernel
theorem dX10_canStep_45 : decode cX10_canStep 45 = .ok (.bipush 8, 2) := by decide +kernel
theorem dX10_canStep_47 : decode cX10_canStep 47 = .ok (.idiv, 1) := by decide +kernel
theorem dX10_canStep_48 : decode cX10_canStep 48 = .ok (.istore 6, 2) := by decide +kernel
theorem dX10_canStep_50 : decode cX10_canStep 50 = .ok (.iload_n 3, 1) := by decide +kernel
theorem dX10_canStep_51 : decode cX10_canStep 51 = .ok (.bipush 8, 2) := by decide +kernel
theorem dX10_canStep_53 : decode cX10_canStep 53 = .ok (.irem, 1) := by decide +kernel
theorem dX10_canStep_54 : decode cX10_canStep 54 = .ok (.istore 7, 2) := by decide +kernel
theorem dX10_canStep_56 : decode cX10_canStep 56 = .ok (.iload 4, 2) := by decide +kernel
theorem dX10_canStep_58 : decode cX10_canStep 58 = .ok (.iload 6, 2) := by decide +kernel
theorem dX10_canStep_60 : decode cX10_canStep 60 = .ok (.ishr, 1) := by decide +kernel
theorem dX10_canStep_61 : decode cX10_canStep 61 = .ok (.iconst 1, 1) := by decide +kernel
theorem dX10_canStep_62 : decode cX10_canStep 62 = .ok (.iand, 1) := by decide +kernel
theorem dX10_canStep_63 : decode cX10_canStep 63 = .ok (.iconst 1, 1) := by decide +kernel
theorem dX10_canStep_64 : decode cX10_canStep 64 = .ok (.if_icmp .ne 14, 3) := by decide +kernel
theorem dX10_canStep_67 : decode cX10_canStep 67 = .ok (.iload 5, 2) := by decide +kernel
theorem dX10_canStep_69 : decode cX10_canStep 69 = .ok (.iload 7, 2) := by decide +kernel
theorem dX10_canStep_71 : decode cX10_canStep 71 = .ok (.ishr, 1) := by decide +kernel
theorem dX10_canStep_72 : decode cX10_canStep 72 = .ok (.iconst 1, 1) := by decide +kernel
theorem dX10_canStep_73 : decode cX10_canStep 73 = .ok (.iand, 1) := by decide +kernel
theorem dX10_canStep_74 : decode cX10_canStep 74 = .ok (.iconst 1, 1) := by decide +kernel
theorem dX10_canStep_75 : decode cX10_canStep 75 = .ok (.if_icmp .eq 25, 3) := by decide +kernel
theorem dX10_canStep_78 : decode cX10_canStep 78 = .ok (.iload 4, 2) := by decide +kernel
theorem dX10_canStep_80 : decode cX10_canStep 80 = .ok (.iload 7, 2) := by decide +kernel
theorem dX10_canStep_82 : decode cX10_canStep 82 = .ok (.ishr, 1) := by decide +kernel
theorem dX10_canStep_83 : decode cX10_canStep 83 = .ok (.iconst 1, 1) := by decide +kernel
theorem dX10_canStep_84 : decode cX10_canStep 84 = .ok (.iand, 1) := by decide +kernel
theorem dX10_canStep_85 : decode cX10_canStep 85 = .ok (.iconst 1, 1) := by decide +kernel
theorem dX10_canStep_86 : decode cX10_canStep 86 = .ok (.if_icmp .ne 18, 3) := by decide +kernel
theorem dX10_canStep_89 : decode cX10_canStep 89 = .ok (.iload 5, 2) := by decide +kernel
theorem dX10_canStep_91 : decode cX10_canStep 91 = .ok (.iload 6, 2) := by decide +kernel
theorem dX10_canStep_93 : decode cX10_canStep 93 = .ok (.ishr, 1) := by decide +kernel
theorem dX10_canStep_94 : decode cX10_canStep 94 = .ok (.iconst 1, 1) := by decide +kernel
theorem dX10_canStep_95 : decode cX10_canStep 95 = .ok (.iand, 1) := by decide +kernel
theorem dX10_canStep_96 : decode cX10_canStep 96 = .ok (.iconst 1, 1) := by decide +kernel
theorem dX10_canStep_97 : decode cX10_canStep 97 = .ok (.if_icmp .ne 7, 3) := by decide +kernel
theorem dX10_canStep_100 : decode cX10_canStep 100 = .ok (.iconst 1, 1) := by decide +kernel
theorem dX10_canStep_101 : decode cX10_canStep 101 = .ok (.goto 4, 3) := by decide +kernel
theorem dX10_canStep_104 : decode cX10_canStep 104 = .ok (.iconst 0, 1) := by decide +kernel
theorem dX10_canStep_105 : decode cX10_canStep 105 = .ok (.ireturn, 1) := by decide +kernel
def f_X10_canStep (σ : St) (v1 : Int32) (v2 : Int32) (v3 : Int32) : Option Int32 :=
  (if v1 = (1 : Int32) then
    calP (f_X10_stepsOf σ v2) fun r1 =>
      (if ((r1 >>> (v3 &&& 31)) &&& (1 : Int32)) = (1 : Int32) then
        some (1 : Int32)
         else
        some (0 : Int32))
     else
    calP (f_X10_stepsOf σ (v2 / (8 : Int32))) fun r2 =>
      calP (f_X10_stepsOf σ (v2 - v2 / (8 : Int32) * (8 : Int32))) fun r3 =>
        bd (v3 / (8 : Int32)) fun x4 =>
          bd (v3 - v3 / (8 : Int32) * (8 : Int32)) fun x5 =>
            jn0 (fun jk6 =>
              (if ((r2 >>> (x4 &&& 31)) &&& (1 : Int32)) = (1 : Int32) then
                (if ((r3 >>> (x5 &&& 31)) &&& (1 : Int32)) = (1 : Int32) then
                  some (1 : Int32)
                   else
                  jk6)
                 else
                jk6))
              (
              (if ((r2 >>> (x5 &&& 31)) &&& (1 : Int32)) = (1 : Int32) then
                  (if ((r3 >>> (x4 &&& 31)) &&& (1 : Int32)) = (1 : Int32) then
                    some (1 : Int32)
                     else
                    some (0 : Int32))
                   else
                  some (0 : Int32))))
set_option maxHeartbeats 4000000 in
set_option maxRecDepth 100000 in
theorem c_X10_canStep (l : Launch) (E : Ev) (hF : Full E) (σ : St) (v1 : Int32) (v2 : Int32) (v3 : Int32) : Ctr l enI (fun _ => σ) E md_X10_canStep [rV E 100, .int v1, .int v2, .int v3] σ (f_X10_canStep σ v1 v2 v3) := by
  refine ctr_of rfl (Nat.le_of_ble_eq_true rfl) (fun Γ => ?_)
  show Sim _ Γ _ E md_X10_canStep σ 0 [(0, rV E 100), (1, .int v1), (2, .int v2), (3, .int v3)] [] _
  unfold f_X10_canStep
  refine s_iload_n dX10_canStep_0 1 rfl rfl ?_
  refine s_iconst (v := 1) dX10_canStep_1 (by decide) ?_
  refine s_icmp_ne 24 dX10_canStep_2 (by decide) ?_ ?_
  · skip
    refine s_aload_n dX10_canStep_5 0 rfl rfl ?_
    refine s_iload_n dX10_canStep_6 2 rfl rfl ?_
    refine s_callVpI (As := [.int v2]) mf_X10_stepsOf vf_X10_stepsOf ml_X10_168 (c_X10_stepsOf _ E hF σ v2) (m100 hF) k100 (by decide) rfl rfl rfl rfl (Nat.le_of_ble_eq_true rfl) rfl dX10_canStep_7 (fun r1 => ?_)
    refine s_iload_n dX10_canStep_10 3 rfl rfl ?_
    refine s_ishr dX10_canStep_11 ?_
    refine s_iconst (v := 1) dX10_canStep_12 (by decide) ?_
    refine s_iand dX10_canStep_13 ?_
    refine s_iconst (v := 1) dX10_canStep_14 (by decide) ?_
    refine s_icmp_ne 22 dX10_canStep_15 (by decide) ?_ ?_
    · skip
      refine s_iconst (v := 1) dX10_canStep_18 (by decide) ?_
      refine s_goto 23 dX10_canStep_19 (by decide) ?_
      exact s_zreturn rfl (by decide) rfl rfl dX10_canStep_23
    · skip
      refine s_iconst (v := 0) dX10_canStep_22 (by decide) ?_
      exact s_zreturn rfl (by decide) rfl rfl dX10_canStep_23
  · skip
    refine s_aload_n dX10_canStep_24 0 rfl rfl ?_
    refine s_iload_n dX10_canStep_25 2 rfl rfl ?_
    refine s_bipush (v := 8) dX10_canStep_26 (by decide) ?_
    refine s_idiv dX10_canStep_28 (by decide) ?_
    refine s_callVpI (As := [.int (v2 / (8 : Int32))]) mf_X10_stepsOf vf_X10_stepsOf ml_X10_168 (c_X10_stepsOf _ E hF σ (v2 / (8 : Int32))) (m100 hF) k100 (by decide) rfl rfl rfl rfl (Nat.le_of_ble_eq_true rfl) rfl dX10_canStep_29 (fun r2 => ?_)
    refine s_istore [(4, .int r2), (0, rV E 100), (1, .int v1), (2, .int v2), (3, .int v3)] dX10_canStep_32 (by decide) rfl ?_
    refine s_aload_n dX10_canStep_34 1 rfl rfl ?_
    refine s_iload_n dX10_canStep_35 3 rfl rfl ?_
    refine s_bipush (v := 8) dX10_canStep_36 (by decide) ?_
    refine s_irem dX10_canStep_38 (by decide) ?_
    refine s_callVpI (As := [.int (v2 - v2 / (8 : Int32) * (8 : Int32))]) mf_X10_stepsOf vf_X10_stepsOf ml_X10_168 (c_X10_stepsOf _ E hF σ (v2 - v2 / (8 : Int32) * (8 : Int32))) (m100 hF) k100 (by decide) rfl rfl rfl rfl (Nat.le_of_ble_eq_true rfl) rfl dX10_canStep_39 (fun r3 => ?_)
    refine s_istore [(5, .int r3), (4, .int r2), (0, rV E 100), (1, .int v1), (2, .int v2), (3, .int v3)] dX10_canStep_42 (by decide) rfl ?_
    refine s_iload_n dX10_canStep_44 5 rfl rfl ?_
    refine s_bipush (v := 8) dX10_canStep_45 (by decide) ?_
    refine s_idiv dX10_canStep_47 (by decide) ?_
    refine s_istoreB (fun x4 => [(6, .int x4), (5, .int r3), (4, .int r2), (0, rV E 100), (1, .int v1), (2, .int v2), (3, .int v3)]) dX10_canStep_48 (by decide) (fun _ => rfl) (fun x4 => ?_)
    refine s_iload_n dX10_canStep_50 6 rfl rfl ?_
    refine s_bipush (v := 8) dX10_canStep_51 (by decide) ?_
    refine s_irem dX10_canStep_53 (by decide) ?_
    refine s_istoreB (fun x5 => [(7, .int x5), (6, .int x4), (5, .int r3), (4, .int r2), (0, rV E 100), (1, .int v1), (2, .int v2), (3, .int v3)]) dX10_canStep_54 (by decide) (fun _ => rfl) (fun x5 => ?_)
    refine s_iload dX10_canStep_56 3 rfl ?_
    refine s_iload dX10_canStep_58 1 rfl ?_
    refine s_ishr dX10_canStep_60 ?_
    refine s_iconst (v := 1) dX10_canStep_61 (by decide) ?_
    refine s_iand dX10_canStep_62 ?_
    refine s_iconst (v := 1) dX10_canStep_63 (by decide) ?_
    refine s_jn0 σ 78 [(4, .int r2), (5, .int r3), (6, .int x4), (7, .int x5)] [] ?_ ?_
    · skip
      refine s_iload dX10_canStep_78 0 rfl ?_
      refine s_iload dX10_canStep_80 3 rfl ?_
      refine s_ishr dX10_canStep_82 ?_
      refine s_iconst (v := 1) dX10_canStep_83 (by decide) ?_
      refine s_iand dX10_canStep_84 ?_
      refine s_iconst (v := 1) dX10_canStep_85 (by decide) ?_
      refine s_icmp_ne 104 dX10_canStep_86 (by decide) ?_ ?_
      · skip
        refine s_iload dX10_canStep_89 1 rfl ?_
        refine s_iload dX10_canStep_91 2 rfl ?_
        refine s_ishr dX10_canStep_93 ?_
        refine s_iconst (v := 1) dX10_canStep_94 (by decide) ?_
        refine s_iand dX10_canStep_95 ?_
        refine s_iconst (v := 1) dX10_canStep_96 (by decide) ?_
        refine s_icmp_ne 104 dX10_canStep_97 (by decide) ?_ ?_
        · skip
          refine s_iconst (v := 1) dX10_canStep_100 (by decide) ?_
          refine s_goto 105 dX10_canStep_101 (by decide) ?_
          exact s_zreturn rfl (by decide) rfl rfl dX10_canStep_105
        · skip
          refine s_iconst (v := 0) dX10_canStep_104 (by decide) ?_
          exact s_zreturn rfl (by decide) rfl rfl dX10_canStep_105
      · skip
        refine s_iconst (v := 0) dX10_canStep_104 (by decide) ?_
        exact s_zreturn rfl (by decide) rfl rfl dX10_canStep_105
    · intro jk6 hjk6
      refine s_icmp_ne 78 dX10_canStep_64 (by decide) ?_ ?_
      · skip
        refine s_iload dX10_canStep_67 2 rfl ?_
        refine s_iload dX10_canStep_69 0 rfl ?_
        refine s_ishr dX10_canStep_71 ?_
        refine s_iconst (v := 1) dX10_canStep_72 (by decide) ?_
        refine s_iand dX10_canStep_73 ?_
        refine s_iconst (v := 1) dX10_canStep_74 (by decide) ?_
        refine s_icmp_eq 100 dX10_canStep_75 (by decide) ?_ ?_
        · skip
          refine s_iconst (v := 1) dX10_canStep_100 (by decide) ?_
          refine s_goto 105 dX10_canStep_101 (by decide) ?_
          exact s_zreturn rfl (by decide) rfl rfl dX10_canStep_105
        · skip
          refine s_sub [3, 2, 1, 0] rfl ?_
          exact hjk6
      · skip
        refine s_sub [3, 2, 1, 0] rfl ?_
        exact hjk6
theorem dX10_findClear_0 : decode cX10_findClear 0 = .ok (.iconst 0, 1) := by decide +kernel
theorem dX10_findClear_1 : decode cX10_findClear 1 = .ok (.istore_n 3, 1) := by decide +kernel
theorem dX10_findClear_2 : decode cX10_findClear 2 = .ok (.iload_n 3, 1) := by decide +kernel
theorem dX10_findClear_3 : decode cX10_findClear 3 = .ok (.sipush 16384, 3) := by decide +kernel
theorem dX10_findClear_6 : decode cX10_findClear 6 = .ok (.if_icmp .ge 17, 3) := by decide +kernel
theorem dX10_findClear_9 : decode cX10_findClear 9 = .ok (.aload_n 0, 1) := by decide +kernel
theorem dX10_findClear_10 : decode cX10_findClear 10 = .ok (.getfield 43, 3) := by decide +kernel
theorem dX10_findClear_13 : decode cX10_findClear 13 = .ok (.iload_n 3, 1) := by decide +kernel
theorem dX10_findClear_14 : decode cX10_findClear 14 = .ok (.bipush (-2), 2) := by decide +kernel
theorem dX10_findClear_16 : decode cX10_findClear 16 = .ok (.iastore, 1) := by decide +kernel
theorem dX10_findClear_17 : decode cX10_findClear 17 = .ok (.iinc 3 1, 3) := by decide +kernel
theorem dX10_findClear_20 : decode cX10_findClear 20 = .ok (.goto (-18), 3) := by decide +kernel
theorem dX10_findClear_23 : decode cX10_findClear 23 = .ok (.sipush 256, 3) := by decide +kernel
theorem dX10_findClear_26 : decode cX10_findClear 26 = .ok (.iload_n 2, 1) := by decide +kernel
theorem dX10_findClear_27 : decode cX10_findClear 27 = .ok (.imul, 1) := by decide +kernel
theorem dX10_findClear_28 : decode cX10_findClear 28 = .ok (.iconst 1, 1) := by decide +kernel
theorem dX10_findClear_29 : decode cX10_findClear 29 = .ok (.aload_n 0, 1) := by decide +kernel
theorem dX10_findClear_30 : decode cX10_findClear 30 = .ok (.getfield 7, 3) := by decide +kernel
theorem dX10_findClear_33 : decode cX10_findClear 33 = .ok (.ishl, 1) := by decide +kernel
theorem dX10_findClear_34 : decode cX10_findClear 34 = .ok (.iconst 1, 1) := by decide +kernel
theorem dX10_findClear_35 : decode cX10_findClear 35 = .ok (.isub, 1) := by decide +kernel
theorem dX10_findClear_36 : decode cX10_findClear 36 = .ok (.aload_n 0, 1) := by decide +kernel
theorem dX10_findClear_37 : decode cX10_findClear 37 = .ok (.iload_n 1, 1) := by decide +kernel
theorem dX10_findClear_38 : decode cX10_findClear 38 = .ok (.iload_n 2, 1) := by decide +kernel
theorem dX10_findClear_39 : decode cX10_findClear 39 = .ok (.invokevirtual 193, 3) := by decide +kernel
theorem dX10_findClear_42 : decode cX10_findClear 42 = .ok (.iconst (-1), 1) := by decide +kernel
theorem dX10_findClear_43 : decode cX10_findClear 43 = .ok (.ixor, 1) := by decide +kernel
theorem dX10_findClear_44 : decode cX10_findClear 44 = .ok (.iand, 1) := by decide +kernel
theorem dX10_findClear_45 : decode cX10_findClear 45 = .ok (.iadd, 1) := by decide +kernel
theorem dX10_findClear_46 : decode cX10_findClear 46 = .ok (.istore_n 3, 1) := by decide +kernel
theorem dX10_findClear_47 : decode cX10_findClear 47 = .ok (.iconst 1, 1) := by decide +kernel
theorem dX10_findClear_48 : decode cX10_findClear 48 = .ok (.istore 4, 2) := by decide +kernel
theorem dX10_findClear_50 : decode cX10_findClear 50 = .ok (.aload_n 0, 1) := by decide +kernel
theorem dX10_findClear_51 : decode cX10_findClear 51 = .ok (.getfield 46, 3) := by decide +kernel
theorem dX10_findClear_54 : decode cX10_findClear 54 = .ok (.iconst 0, 1) := by decide +kernel
theorem dX10_findClear_55 : decode cX10_findClear 55 = .ok (.iload_n 3, 1) := by decide +kernel
theorem dX10_findClear_56 : decode cX10_findClear 56 = .ok (.iastore, 1) := by decide +kernel
theorem dX10_findClear_57 : decode cX10_findClear 57 = .ok (.aload_n 0, 1) := by decide +kernel
theorem dX10_findClear_58 : decode cX10_findClear 58 = .ok (.getfield 43, 3) := by decide +kernel
theorem dX10_findClear_61 : decode cX10_findClear 61 = .ok (.iload_n 3, 1) := by decide +kernel
theorem dX10_findClear_62 : decode cX10_findClear 62 = .ok (.iconst (-1), 1) := by decide +kernel
theorem dX10_findClear_63 : decode cX10_findClear 63 = .ok (.iastore, 1) := by decide +kernel
theorem dX10_findClear_64 : decode cX10_findClear 64 = .ok (.aload_n 0, 1) := by decide +kernel
theorem dX10_findClear_65 : decode cX10_findClear 65 = .ok (.iload_n 3, 1) := by decide +kernel
theorem dX10_findClear_66 : decode cX10_findClear 66 = .ok (.sipush 256, 3) := by decide +kernel
theorem dX10_findClear_69 : decode cX10_findClear 69 = .ok (.irem, 1) := by decide +kernel
theorem dX10_findClear_70 : decode cX10_findClear 70 = .ok (.ifCond .ne 7, 3) := by decide +kernel
theorem dX10_findClear_73 : decode cX10_findClear 73 = .ok (.iload_n 3, 1) := by decide +kernel
theorem dX10_findClear_74 : decode cX10_findClear 74 = .ok (.goto 4, 3) := by decide +kernel
theorem dX10_findClear_77 : decode cX10_findClear 77 = .ok (.iconst (-1), 1) := by decide +kernel
theorem dX10_findClear_78 : decode cX10_findClear 78 = .ok (.putfield 259, 3) := by decide +kernel
theorem dX10_findClear_81 : decode cX10_findClear 81 = .ok (.iconst 0, 1) := by decide +kernel
theorem dX10_findClear_82 : decode cX10_findClear 82 = .ok (.istore 5, 2) := by decide +kernel
theorem dX10_findClear_84 : decode cX10_findClear 84 = .ok (.iload 5, 2) := by decide +kernel
theorem dX10_findClear_86 : decode cX10_findClear 86 = .ok (.iload 4, 2) := by decide +kernel
theorem dX10_findClear_88 : decode cX10_findClear 88 = .ok (.if_icmp .ge 170, 3) := by decide +kernel
theorem dX10_findClear_91 : decode cX10_findClear 91 = .ok (.aload_n 0, 1) := by decide +kernel
theorem dX10_findClear_92 : decode cX10_findClear 92 = .ok (.getfield 259, 3) := by decide +kernel
theorem dX10_findClear_95 : decode cX10_findClear 95 = .ok (.iconst (-1), 1) := by decide +kernel
theorem dX10_findClear_96 : decode cX10_findClear 96 = .ok (.if_icmp .ne 162, 3) := by decide +kernel
theorem dX10_findClear_99 : decode cX10_findClear 99 = .ok (.aload_n 0, 1) := by decide +kernel
theorem dX10_findClear_100 : decode cX10_findClear 100 = .ok (.getfield 46, 3) := by decide +kernel
theorem dX10_findClear_103 : decode cX10_findClear 103 = .ok (.iload 5, 2) := by decide +kernel
theorem dX10_findClear_105 : decode cX10_findClear 105 = .ok (.iaload, 1) := by decide +kernel
theorem dX10_findClear_106 : decode cX10_findClear 106 = .ok (.sipush 256, 3) := by decide +kernel
theorem dX10_findClear_109 : decode cX10_findClear 109 = .ok (.idiv, 1) := by decide +kernel
theorem dX10_findClear_110 : decode cX10_findClear 110 = .ok (.istore 6, 2) := by decide +kernel
theorem dX10_findClear_112 : decode cX10_findClear 112 = .ok (.aload_n 0, 1) := by decide +kernel
theorem dX10_findClear_113 : decode cX10_findClear 113 = .ok (.getfield 46, 3) := by decide +kernel
theorem dX10_findClear_116 : decode cX10_findClear 116 = .ok (.iload 5, 2) := by decide +kernel
theorem dX10_findClear_118 : decode cX10_findClear 118 = .ok (.iaload, 1) := by decide +kernel
theorem dX10_findClear_119 : decode cX10_findClear 119 = .ok (.sipush 256, 3) := by decide +kernel
theorem dX10_findClear_122 : decode cX10_findClear 122 = .ok (.irem, 1) := by decide +kernel
theorem dX10_findClear_123 : decode cX10_findClear 123 = .ok (.istore 7, 2) := by decide +kernel
theorem dX10_findClear_125 : decode cX10_findClear 125 = .ok (.iconst 0, 1) := by decide +kernel
theorem dX10_findClear_126 : decode cX10_findClear 126 = .ok (.istore 8, 2) := by decide +kernel
theorem dX10_findClear_128 : decode cX10_findClear 128 = .ok (.iload 8, 2) := by decide +kernel
theorem dX10_findClear_130 : decode cX10_findClear 130 = .ok (.iload_n 1, 1) := by decide +kernel
theorem dX10_findClear_131 : decode cX10_findClear 131 = .ok (.invokestatic 186, 3) := by decide +kernel
theorem dX10_findClear_134 : decode cX10_findClear 134 = .ok (.if_icmp .ge 118, 3) := by decide +kernel
theorem dX10_findClear_137 : decode cX10_findClear 137 = .ok (.aload_n 0, 1) := by decide +kernel
theorem dX10_findClear_138 : decode cX10_findClear 138 = .ok (.getfield 259, 3) := by decide +kernel
theorem dX10_findClear_141 : decode cX10_findClear 141 = .ok (.iconst (-1), 1) := by decide +kernel
theorem dX10_findClear_142 : decode cX10_findClear 142 = .ok (.if_icmp .ne 110, 3) := by decide +kernel
theorem dX10_findClear_145 : decode cX10_findClear 145 = .ok (.aload_n 0, 1) := by decide +kernel
theorem dX10_findClear_146 : decode cX10_findClear 146 = .ok (.iload_n 1, 1) := by decide +kernel
theorem dX10_findClear_147 : decode cX10_findClear 147 = .ok (.iload 8, 2) := by decide +kernel
theorem dX10_findClear_149 : decode cX10_findClear 149 = .ok (.invokevirtual 189, 3) := by decide +kernel
theorem dX10_findClear_152 : decode cX10_findClear 152 = .ok (.ifCond .eq 94, 3) := by decide +kernel
theorem dX10_findClear_155 : decode cX10_findClear 155 = .ok (.aload_n 0, 1) := by decide +kernel
theorem dX10_findClear_156 : decode cX10_findClear 156 = .ok (.iload_n 1, 1) := by decide +kernel
theorem dX10_findClear_157 : decode cX10_findClear 157 = .ok (.iload 6, 2) := by decide +kernel
theorem dX10_findClear_159 : decode cX10_findClear 159 = .ok (.iload 8, 2) := by decide +kernel
theorem dX10_findClear_161 : decode cX10_findClear 161 = .ok (.invokevirtual 262, 3) := by decide +kernel
theorem dX10_findClear_164 : decode cX10_findClear 164 = .ok (.ifCond .eq 82, 3) := by decide +kernel
theorem dX10_findClear_167 : decode cX10_findClear 167 = .ok (.sipush 256, 3) := by decide +kernel
theorem dX10_findClear_170 : decode cX10_findClear 170 = .ok (.iload 8, 2) := by decide +kernel
theorem dX10_findClear_172 : decode cX10_findClear 172 = .ok (.imul, 1) := by decide +kernel
theorem dX10_findClear_173 : decode cX10_findClear 173 = .ok (.aload_n 0, 1) := by decide +kernel
theorem dX10_findClear_174 : decode cX10_findClear 174 = .ok (.aload_n 0, 1) := by decide +kernel
theorem dX10_findClear_175 : decode cX10_findClear 175 = .ok (.iload_n 1, 1) := by decide +kernel
theorem dX10_findClear_176 : decode cX10_findClear 176 = .ok (.iload 8, 2) := by decide +kernel
theorem dX10_findClear_178 : decode cX10_findClear 178 = .ok (.invokevirtual 193, 3) := by decide +kernel
theorem dX10_findClear_181 : decode cX10_findClear 181 = .ok (.iload 7, 2) := by decide +kernel
theorem dX10_findClear_183 : decode cX10_findClear 183 = .ok (.invokevirtual 256, 3) := by decide +kernel
theorem dX10_findClear_186 : decode cX10_findClear 186 = .ok (.iadd, 1) := by decide +kernel
theorem dX10_findClear_187 : decode cX10_findClear 187 = .ok (.istore 9, 2) := by decide +kernel
theorem dX10_findClear_189 : decode cX10_findClear 189 = .ok (.aload_n 0, 1) := by decide +kernel
theorem dX10_findClear_190 : decode cX10_findClear 190 = .ok (.getfield 43, 3) := by decide +kernel
theorem dX10_findClear_193 : decode cX10_findClear 193 = .ok (.iload 9, 2) := by decide +kernel
theorem dX10_findClear_195 : decode cX10_findClear 195 = .ok (.iaload, 1) := by decide +kernel
theorem dX10_findClear_196 : decode cX10_findClear 196 = .ok (.bipush (-2), 2) := by decide +kernel
theorem dX10_findClear_198 : decode cX10_findClear 198 = .ok (.if_icmp .ne 48, 3) := by decide +kernel
theorem dX10_findClear_201 : decode cX10_findClear 201 = .ok (.aload_n 0, 1) := by decide +kernel
theorem dX10_findClear_202 : decode cX10_findClear 202 = .ok (.getfield 43, 3) := by decide +kernel
theorem dX10_findClear_205 : decode cX10_findClear 205 = .ok (.iload 9, 2) := by decide +kernel
theorem dX10_findClear_207 : decode cX10_findClear 207 = .ok (.aload_n 0, 1) := by decide +kernel
theorem dX10_findClear_208 : decode cX10_findClear 208 = .ok (.getfield 46, 3) := by decide +kernel
theorem dX10_findClear_211 : decode cX10_findClear 211 = .ok (.iload 5, 2) := by decide +kernel
theorem dX10_findClear_213 : decode cX10_findClear 213 = .ok (.iaload, 1) := by decide +kernel
theorem dX10_findClear_214 : decode cX10_findClear 214 = .ok (.iastore, 1) := by decide +kernel
theorem dX10_findClear_215 : decode cX10_findClear 215 = .ok (.aload_n 0, 1) := by decide +kernel
theorem dX10_findClear_216 : decode cX10_findClear 216 = .ok (.getfield 46, 3) := by decide +kernel
theorem dX10_findClear_219 : decode cX10_findClear 219 = .ok (.iload 4, 2) := by decide +kernel
theorem dX10_findClear_221 : decode cX10_findClear 221 = .ok (.iload 9, 2) := by decide +kernel
theorem dX10_findClear_223 : decode cX10_findClear 223 = .ok (.iastore, 1) := by decide +kernel
theorem dX10_findClear_224 : decode cX10_findClear 224 = .ok (.iinc 4 1, 3) := by decide +kernel
theorem dX10_findClear_227 : decode cX10_findClear 227 = .ok (.aload_n 0, 1) := by decide +kernel
theorem dX10_findClear_228 : decode cX10_findClear 228 = .ok (.iload 9, 2) := by decide +kernel
theorem dX10_findClear_230 : decode cX10_findClear 230 = .ok (.sipush 256, 3) := by decide +kernel
theorem dX10_findClear_233 : decode cX10_findClear 233 = .ok (.irem, 1) := by decide +kernel
theorem dX10_findClear_234 : decode cX10_findClear 234 = .ok (.ifCond .ne 8, 3) := by decide +kernel
theorem dX10_findClear_237 : decode cX10_findClear 237 = .ok (.iload 9, 2) := by decide +kernel
theorem dX10_findClear_239 : decode cX10_findClear 239 = .ok (.goto 4, 3) := by decide +kernel
theorem dX10_findClear_242 : decode cX10_findClear 242 = .ok (.iconst (-1), 1) := by decide +kernel
theorem dX10_findClear_243 : decode cX10_findClear 243 = .ok (.putfield 259, 3) := by decide +kernel
theorem dX10_findClear_246 : decode cX10_findClear 246 = .ok (.iinc 8 1, 3) := by decide +kernel
theorem dX10_findClear_249 : decode cX10_findClear 249 = .ok (.goto (-121), 3) := by decide +kernel
theorem dX10_findClear_252 : decode cX10_findClear 252 = .ok (.iinc 5 1, 3) := by decide +kernel
theorem dX10_findClear_255 : decode cX10_findClear 255 = .ok (.goto (-171), 3) := by decide +kernel
theorem dX10_findClear_258 : decode cX10_findClear 258 = .ok (.return_, 1) := by decide +kernel
def f_X10_findClear (σ : St) (v1 : Int32) (v2 : Int32) : Option (Unit × St) :=
  lo2 FU (fun rec3 (s1 : St) (x2 : Int32) =>
    (if x2 < (16384 : Int32) then
      ck x2 16384 <|
        bd (setI s1 110 x2.toNatClampNeg (-2 : Int32)) fun s5 =>
          rec3 s5 (x2 + 1)
       else
      cal (f_X10_placesOf s1 v1 v2) fun r6 s7 =>
        bd (((256 : Int32) * v2) + ((((1 : Int32) <<< ((s1.1 100 0) &&& 31)) - (1 : Int32)) &&& (r6 ^^^ (-1 : Int32)))) fun x8 =>
          ck (0 : Int32) 16384 <|
            bd (setI s7 111 (0 : Int32).toNatClampNeg x8) fun s9 =>
              ck x8 16384 <|
                bd (setI s9 110 x8.toNatClampNeg (-1 : Int32)) fun s10 =>
                  bd (if (x8 - x8 / (256 : Int32) * (256 : Int32)) = 0 then x8 else (-1 : Int32)) fun x11 =>
                    bd (setI s10 100 27 x11) fun s13 =>
                      lo3 FU (fun rec17 (s14 : St) (x15 : Int32) (x16 : Int32) =>
                        (if x16 < x15 then
                          (if (s14.1 100 27) = (-1 : Int32) then
                            ck x16 16384 <|
                              bd ((s14.1 111 x16.toNatClampNeg) / (256 : Int32)) fun x19 =>
                                ck x16 16384 <|
                                  bd ((s14.1 111 x16.toNatClampNeg) - (s14.1 111 x16.toNatClampNeg) / (256 : Int32) * (256 : Int32)) fun x20 =>
                                    lo3 FU (fun rec24 (s21 : St) (x22 : Int32) (x23 : Int32) =>
                                      calP (f_X10_powerOf s21 v1) fun r26 =>
                                        (if x23 < r26 then
                                          (if (s21.1 100 27) = (-1 : Int32) then
                                            cal (f_X10_isSetting s21 v1 x23) fun r27 s28 =>
                                              (if r27 = 0 then
                                                rec24 s28 x22 (x23 + 1)
                                                 else
                                                calP (f_X10_canStep s28 v1 x19 x23) fun r29 =>
                                                  (if r29 = 0 then
                                                    rec24 s28 x22 (x23 + 1)
                                                     else
                                                    cal (f_X10_placesOf s28 v1 x23) fun r30 s31 =>
                                                      calP (f_X10_spreadOf s31 r30 x20) fun r32 =>
                                                        bd (((256 : Int32) * x23) + r32) fun x33 =>
                                                          ck x33 16384 <|
                                                            (if (s31.1 110 x33.toNatClampNeg) = (-2 : Int32) then
                                                              ck x16 16384 <|
                                                                ck x33 16384 <|
                                                                  bd (setI s31 110 x33.toNatClampNeg (s31.1 111 x16.toNatClampNeg)) fun s34 =>
                                                                    ck x22 16384 <|
                                                                      bd (setI s34 111 x22.toNatClampNeg x33) fun s35 =>
                                                                        (if (x33 - x33 / (256 : Int32) * (256 : Int32)) = 0 then
                                                                          bd (setI s35 100 27 x33) fun s36 =>
                                                                            rec24 s36 (x22 + 1) (x23 + 1)
                                                                           else
                                                                          bd (setI s35 100 27 (-1 : Int32)) fun s37 =>
                                                                            rec24 s37 (x22 + 1) (x23 + 1))
                                                               else
                                                              rec24 s31 x22 (x23 + 1))))
                                             else
                                            rec17 s21 x22 (x16 + 1))
                                           else
                                          rec17 s21 x22 (x16 + 1))) s14 x15 (0 : Int32)
                             else
                            some ((), s14))
                           else
                          some ((), s14))) s13 (1 : Int32) (0 : Int32))) σ (0 : Int32)
set_option maxHeartbeats 4000000 in
set_option maxRecDepth 100000 in
theorem c_X10_findClear (l : Launch) (E : Ev) (hF : Full E) (σ : St) (v1 : Int32) (v2 : Int32) : Ctr l (en2 enV) (fun q => q.2) E md_X10_findClear [rV E 100, .int v1, .int v2] σ (f_X10_findClear σ v1 v2) := by
  refine ctr_of rfl (Nat.le_of_ble_eq_true rfl) (fun Γ => ?_)
  show Sim _ Γ _ E md_X10_findClear σ 0 [(0, rV E 100), (1, .int v1), (2, .int v2)] [] _
  unfold f_X10_findClear
  refine s_iconst (v := 0) dX10_findClear_0 (by decide) ?_
  refine s_istore_n [(3, .int (0 : Int32)), (0, rV E 100), (1, .int v1), (2, .int v2)] dX10_findClear_1 rfl (by decide) rfl ?_
  refine s_sub (lv' := [(0, rV E 100), (1, .int v1), (2, .int v2), (3, .int (0 : Int32))]) [1, 2, 3, 0] rfl ?_
  refine s_lo2 (σf := fun s1 x2 => s1) (lvf := fun s1 x2 => [(0, rV E 100), (1, .int v1), (2, .int v2), (3, .int x2)]) (fun rec3 ih4 s1 x2 => ?_)
  refine s_iload_n dX10_findClear_2 3 rfl rfl ?_
  refine s_sipush (v := 16384) dX10_findClear_3 (by decide) ?_
  refine s_icmp_ge 23 dX10_findClear_6 (by decide) ?_ ?_
  · skip
    refine s_aload_n dX10_findClear_9 0 rfl rfl ?_
    refine s_getr (b := 110) gf_X10_43 rfl (m100 hF) k100 (ft_of k100 rfl) (hF.2 _ _) rfl dX10_findClear_10 ?_
    refine s_iload_n dX10_findClear_13 3 rfl rfl ?_
    refine s_bipush (v := -2) dX10_findClear_14 (by decide) ?_
    refine s_iast (m110 hF) k110 l110 dX10_findClear_16 (fun s5 => ?_)
    refine s_iinc [(3, .int (x2 + 1)), (0, rV E 100), (1, .int v1), (2, .int v2)] dX10_findClear_17 3 rfl rfl (by decide) rfl ?_
    refine s_goto 2 dX10_findClear_20 (by decide) ?_
    refine s_sub [1, 2, 3, 0] rfl ?_
    exact ih4 s5 (x2 + 1)
  · skip
    refine s_sipush (v := 256) dX10_findClear_23 (by decide) ?_
    refine s_iload_n dX10_findClear_26 2 rfl rfl ?_
    refine s_imul dX10_findClear_27 ?_
    refine s_iconst (v := 1) dX10_findClear_28 (by decide) ?_
    refine s_aload_n dX10_findClear_29 0 rfl rfl ?_
    refine s_geti gf_X10_7 rfl (m100 hF) k100 (ft_of k100 rfl) dX10_findClear_30 ?_
    refine s_ishl dX10_findClear_33 ?_
    refine s_iconst (v := 1) dX10_findClear_34 (by decide) ?_
    refine s_isub dX10_findClear_35 ?_
    refine s_aload_n dX10_findClear_36 0 rfl rfl ?_
    refine s_iload_n dX10_findClear_37 1 rfl rfl ?_
    refine s_iload_n dX10_findClear_38 2 rfl rfl ?_
    refine s_callVwI (As := [.int v1, .int v2]) mf_X10_placesOf vf_X10_placesOf ml_X10_193 (c_X10_placesOf _ E hF s1 v1 v2) (m100 hF) k100 (by decide) rfl rfl rfl rfl (Nat.le_of_ble_eq_true rfl) rfl dX10_findClear_39 (fun r6 s7 => ?_)
    refine s_iconst (v := -1) dX10_findClear_42 (by decide) ?_
    refine s_ixor dX10_findClear_43 ?_
    refine s_iand dX10_findClear_44 ?_
    refine s_iadd dX10_findClear_45 ?_
    refine s_istore_nB (fun x8 => [(3, .int x8), (0, rV E 100), (1, .int v1), (2, .int v2)]) dX10_findClear_46 rfl (by decide) (fun _ => rfl) (fun x8 => ?_)
    refine s_iconst (v := 1) dX10_findClear_47 (by decide) ?_
    refine s_istore [(4, .int (1 : Int32)), (3, .int x8), (0, rV E 100), (1, .int v1), (2, .int v2)] dX10_findClear_48 (by decide) rfl ?_
    refine s_aload_n dX10_findClear_50 2 rfl rfl ?_
    refine s_getr (b := 111) gf_X10_46 rfl (m100 hF) k100 (ft_of k100 rfl) (hF.2 _ _) rfl dX10_findClear_51 ?_
    refine s_iconst (v := 0) dX10_findClear_54 (by decide) ?_
    refine s_iload_n dX10_findClear_55 1 rfl rfl ?_
    refine s_iast (m111 hF) k111 l111 dX10_findClear_56 (fun s9 => ?_)
    refine s_aload_n dX10_findClear_57 2 rfl rfl ?_
    refine s_getr (b := 110) gf_X10_43 rfl (m100 hF) k100 (ft_of k100 rfl) (hF.2 _ _) rfl dX10_findClear_58 ?_
    refine s_iload_n dX10_findClear_61 1 rfl rfl ?_
    refine s_iconst (v := -1) dX10_findClear_62 (by decide) ?_
    refine s_iast (m110 hF) k110 l110 dX10_findClear_63 (fun s10 => ?_)
    refine s_aload_n dX10_findClear_64 2 rfl rfl ?_
    refine s_iload_n dX10_findClear_65 1 rfl rfl ?_
    refine s_sipush (v := 256) dX10_findClear_66 (by decide) ?_
    refine s_irem dX10_findClear_69 (by decide) ?_
    refine s_bd 78 (fun x11 => [(0, rV E 100), (1, .int v1), (4, .int (1 : Int32))]) (fun x11 => [.int x11, rV E 100]) (fun jk12 => (if (x8 - x8 / (256 : Int32) * (256 : Int32)) = 0 then jk12 x8 else jk12 (-1 : Int32))) (fun jk12 => (j_ite rfl rfl)) ?_ ?_
    · intro x11
      refine s_puti gf_X10_259 rfl (m100 hF) k100 (ft_of k100 rfl) dX10_findClear_78 (fun s13 => ?_)
      refine s_iconst (v := 0) dX10_findClear_81 (by decide) ?_
      refine s_istore [(5, .int (0 : Int32)), (0, rV E 100), (1, .int v1), (4, .int (1 : Int32))] dX10_findClear_82 (by decide) rfl ?_
      refine s_sub (lv' := [(0, rV E 100), (1, .int v1), (4, .int (1 : Int32)), (5, .int (0 : Int32))]) [1, 2, 3, 0] rfl ?_
      refine s_lo3 (σf := fun s14 x15 x16 => s14) (lvf := fun s14 x15 x16 => [(0, rV E 100), (1, .int v1), (4, .int x15), (5, .int x16)]) (fun rec17 ih18 s14 x15 x16 => ?_)
      refine s_iload dX10_findClear_84 3 rfl ?_
      refine s_iload dX10_findClear_86 2 rfl ?_
      refine s_icmp_ge 258 dX10_findClear_88 (by decide) ?_ ?_
      · skip
        refine s_aload_n dX10_findClear_91 0 rfl rfl ?_
        refine s_geti gf_X10_259 rfl (m100 hF) k100 (ft_of k100 rfl) dX10_findClear_92 ?_
        refine s_iconst (v := -1) dX10_findClear_95 (by decide) ?_
        refine s_icmp_ne 258 dX10_findClear_96 (by decide) ?_ ?_
        · skip
          refine s_aload_n dX10_findClear_99 0 rfl rfl ?_
          refine s_getr (b := 111) gf_X10_46 rfl (m100 hF) k100 (ft_of k100 rfl) (hF.2 _ _) rfl dX10_findClear_100 ?_
          refine s_iload dX10_findClear_103 3 rfl ?_
          refine s_iald (m111 hF) k111 l111 dX10_findClear_105 ?_
          refine s_sipush (v := 256) dX10_findClear_106 (by decide) ?_
          refine s_idiv dX10_findClear_109 (by decide) ?_
          refine s_istoreB (fun x19 => [(6, .int x19), (0, rV E 100), (1, .int v1), (4, .int x15), (5, .int x16)]) dX10_findClear_110 (by decide) (fun _ => rfl) (fun x19 => ?_)
          refine s_aload_n dX10_findClear_112 1 rfl rfl ?_
          refine s_getr (b := 111) gf_X10_46 rfl (m100 hF) k100 (ft_of k100 rfl) (hF.2 _ _) rfl dX10_findClear_113 ?_
          refine s_iload dX10_findClear_116 4 rfl ?_
          refine s_iald (m111 hF) k111 l111 dX10_findClear_118 ?_
          refine s_sipush (v := 256) dX10_findClear_119 (by decide) ?_
          refine s_irem dX10_findClear_122 (by decide) ?_
          refine s_istoreB (fun x20 => [(7, .int x20), (6, .int x19), (0, rV E 100), (1, .int v1), (4, .int x15), (5, .int x16)]) dX10_findClear_123 (by decide) (fun _ => rfl) (fun x20 => ?_)
          refine s_iconst (v := 0) dX10_findClear_125 (by decide) ?_
          refine s_istore [(8, .int (0 : Int32)), (7, .int x20), (6, .int x19), (0, rV E 100), (1, .int v1), (4, .int x15), (5, .int x16)] dX10_findClear_126 (by decide) rfl ?_
          refine s_sub (lv' := [(0, rV E 100), (1, .int v1), (4, .int x15), (5, .int x16), (6, .int x19), (7, .int x20), (8, .int (0 : Int32))]) [3, 4, 5, 6, 2, 1, 0] rfl ?_
          refine s_lo3 (σf := fun s21 x22 x23 => s21) (lvf := fun s21 x22 x23 => [(0, rV E 100), (1, .int v1), (4, .int x22), (5, .int x16), (6, .int x19), (7, .int x20), (8, .int x23)]) (fun rec24 ih25 s21 x22 x23 => ?_)
          refine s_iload dX10_findClear_128 6 rfl ?_
          refine s_iload_n dX10_findClear_130 1 rfl rfl ?_
          refine s_callSpI (As := [.int v1]) mf_X10_powerOf vf_X10_powerOf ml_X10_186 (c_X10_powerOf _ E hF s21 v1) rfl rfl (Nat.le_of_ble_eq_true rfl) rfl dX10_findClear_131 (fun r26 => ?_)
          refine s_icmp_ge 252 dX10_findClear_134 (by decide) ?_ ?_
          · skip
            refine s_aload_n dX10_findClear_137 0 rfl rfl ?_
            refine s_geti gf_X10_259 rfl (m100 hF) k100 (ft_of k100 rfl) dX10_findClear_138 ?_
            refine s_iconst (v := -1) dX10_findClear_141 (by decide) ?_
            refine s_icmp_ne 252 dX10_findClear_142 (by decide) ?_ ?_
            · skip
              refine s_aload_n dX10_findClear_145 0 rfl rfl ?_
              refine s_iload_n dX10_findClear_146 1 rfl rfl ?_
              refine s_iload dX10_findClear_147 6 rfl ?_
              refine s_callVwI (As := [.int v1, .int x23]) mf_X10_isSetting vf_X10_isSetting ml_X10_189 (c_X10_isSetting _ E hF s21 v1 x23) (m100 hF) k100 (by decide) rfl rfl rfl rfl (Nat.le_of_ble_eq_true rfl) rfl dX10_findClear_149 (fun r27 s28 => ?_)
              refine s_if_eq 246 dX10_findClear_152 (by decide) ?_ ?_
              · skip
                refine s_iinc [(8, .int (x23 + 1)), (0, rV E 100), (1, .int v1), (4, .int x22), (5, .int x16), (6, .int x19), (7, .int x20)] dX10_findClear_246 6 rfl rfl (by decide) rfl ?_
                refine s_goto 128 dX10_findClear_249 (by decide) ?_
                refine s_sub [1, 2, 3, 4, 5, 6, 0] rfl ?_
                exact ih25 s28 x22 (x23 + 1)
              · skip
                refine s_aload_n dX10_findClear_155 0 rfl rfl ?_
                refine s_iload_n dX10_findClear_156 1 rfl rfl ?_
                refine s_iload dX10_findClear_157 4 rfl ?_
                refine s_iload dX10_findClear_159 6 rfl ?_
                refine s_callVpI (As := [.int v1, .int x19, .int x23]) mf_X10_canStep vf_X10_canStep ml_X10_262 (c_X10_canStep _ E hF s28 v1 x19 x23) (m100 hF) k100 (by decide) rfl rfl rfl rfl (Nat.le_of_ble_eq_true rfl) rfl dX10_findClear_161 (fun r29 => ?_)
                refine s_if_eq 246 dX10_findClear_164 (by decide) ?_ ?_
                · skip
                  refine s_iinc [(8, .int (x23 + 1)), (0, rV E 100), (1, .int v1), (4, .int x22), (5, .int x16), (6, .int x19), (7, .int x20)] dX10_findClear_246 6 rfl rfl (by decide) rfl ?_
                  refine s_goto 128 dX10_findClear_249 (by decide) ?_
                  refine s_sub [1, 2, 3, 4, 5, 6, 0] rfl ?_
                  exact ih25 s28 x22 (x23 + 1)
                · skip
                  refine s_sipush (v := 256) dX10_findClear_167 (by decide) ?_
                  refine s_iload dX10_findClear_170 6 rfl ?_
                  refine s_imul dX10_findClear_172 ?_
                  refine s_aload_n dX10_findClear_173 0 rfl rfl ?_
                  refine s_aload_n dX10_findClear_174 0 rfl rfl ?_
                  refine s_iload_n dX10_findClear_175 1 rfl rfl ?_
                  refine s_iload dX10_findClear_176 6 rfl ?_
                  refine s_callVwI (As := [.int v1, .int x23]) mf_X10_placesOf vf_X10_placesOf ml_X10_193 (c_X10_placesOf _ E hF s28 v1 x23) (m100 hF) k100 (by decide) rfl rfl rfl rfl (Nat.le_of_ble_eq_true rfl) rfl dX10_findClear_178 (fun r30 s31 => ?_)
                  refine s_iload dX10_findClear_181 5 rfl ?_
                  refine s_callVpI (As := [.int r30, .int x20]) mf_X10_spreadOf vf_X10_spreadOf ml_X10_256 (c_X10_spreadOf _ E hF s31 r30 x20) (m100 hF) k100 (by decide) rfl rfl rfl rfl (Nat.le_of_ble_eq_true rfl) rfl dX10_findClear_183 (fun r32 => ?_)
                  refine s_iadd dX10_findClear_186 ?_
                  refine s_istoreB (fun x33 => [(9, .int x33), (0, rV E 100), (1, .int v1), (4, .int x22), (5, .int x16), (6, .int x19), (7, .int x20), (8, .int x23)]) dX10_findClear_187 (by decide) (fun _ => rfl) (fun x33 => ?_)
                  refine s_aload_n dX10_findClear_189 1 rfl rfl ?_
                  refine s_getr (b := 110) gf_X10_43 rfl (m100 hF) k100 (ft_of k100 rfl) (hF.2 _ _) rfl dX10_findClear_190 ?_
                  refine s_iload dX10_findClear_193 0 rfl ?_
                  refine s_iald (m110 hF) k110 l110 dX10_findClear_195 ?_
                  refine s_bipush (v := -2) dX10_findClear_196 (by decide) ?_
                  refine s_icmp_ne 246 dX10_findClear_198 (by decide) ?_ ?_
                  · skip
                    refine s_aload_n dX10_findClear_201 1 rfl rfl ?_
                    refine s_getr (b := 110) gf_X10_43 rfl (m100 hF) k100 (ft_of k100 rfl) (hF.2 _ _) rfl dX10_findClear_202 ?_
                    refine s_iload dX10_findClear_205 0 rfl ?_
                    refine s_aload_n dX10_findClear_207 1 rfl rfl ?_
                    refine s_getr (b := 111) gf_X10_46 rfl (m100 hF) k100 (ft_of k100 rfl) (hF.2 _ _) rfl dX10_findClear_208 ?_
                    refine s_iload dX10_findClear_211 4 rfl ?_
                    refine s_iald (m111 hF) k111 l111 dX10_findClear_213 ?_
                    refine s_iast (m110 hF) k110 l110 dX10_findClear_214 (fun s34 => ?_)
                    refine s_aload_n dX10_findClear_215 1 rfl rfl ?_
                    refine s_getr (b := 111) gf_X10_46 rfl (m100 hF) k100 (ft_of k100 rfl) (hF.2 _ _) rfl dX10_findClear_216 ?_
                    refine s_iload dX10_findClear_219 3 rfl ?_
                    refine s_iload dX10_findClear_221 0 rfl ?_
                    refine s_iast (m111 hF) k111 l111 dX10_findClear_223 (fun s35 => ?_)
                    refine s_iinc [(4, .int (x22 + 1)), (9, .int x33), (0, rV E 100), (1, .int v1), (5, .int x16), (6, .int x19), (7, .int x20), (8, .int x23)] dX10_findClear_224 3 rfl rfl (by decide) rfl ?_
                    refine s_aload_n dX10_findClear_227 2 rfl rfl ?_
                    refine s_iload dX10_findClear_228 1 rfl ?_
                    refine s_sipush (v := 256) dX10_findClear_230 (by decide) ?_
                    refine s_irem dX10_findClear_233 (by decide) ?_
                    refine s_if_ne 242 dX10_findClear_234 (by decide) ?_ ?_
                    · skip
                      refine s_iload dX10_findClear_237 1 rfl ?_
                      refine s_goto 243 dX10_findClear_239 (by decide) ?_
                      refine s_puti gf_X10_259 rfl (m100 hF) k100 (ft_of k100 rfl) dX10_findClear_243 (fun s36 => ?_)
                      refine s_iinc [(8, .int (x23 + 1)), (4, .int (x22 + 1)), (9, .int x33), (0, rV E 100), (1, .int v1), (5, .int x16), (6, .int x19), (7, .int x20)] dX10_findClear_246 7 rfl rfl (by decide) rfl ?_
                      refine s_goto 128 dX10_findClear_249 (by decide) ?_
                      refine s_sub [3, 4, 1, 5, 6, 7, 0] rfl ?_
                      exact ih25 s36 (x22 + 1) (x23 + 1)
                    · skip
                      refine s_iconst (v := -1) dX10_findClear_242 (by decide) ?_
                      refine s_puti gf_X10_259 rfl (m100 hF) k100 (ft_of k100 rfl) dX10_findClear_243 (fun s37 => ?_)
                      refine s_iinc [(8, .int (x23 + 1)), (4, .int (x22 + 1)), (9, .int x33), (0, rV E 100), (1, .int v1), (5, .int x16), (6, .int x19), (7, .int x20)] dX10_findClear_246 7 rfl rfl (by decide) rfl ?_
                      refine s_goto 128 dX10_findClear_249 (by decide) ?_
                      refine s_sub [3, 4, 1, 5, 6, 7, 0] rfl ?_
                      exact ih25 s37 (x22 + 1) (x23 + 1)
                  · skip
                    refine s_iinc [(8, .int (x23 + 1)), (9, .int x33), (0, rV E 100), (1, .int v1), (4, .int x22), (5, .int x16), (6, .int x19), (7, .int x20)] dX10_findClear_246 7 rfl rfl (by decide) rfl ?_
                    refine s_goto 128 dX10_findClear_249 (by decide) ?_
                    refine s_sub [2, 3, 4, 5, 6, 7, 0] rfl ?_
                    exact ih25 s31 x22 (x23 + 1)
            · skip
              refine s_iinc [(5, .int (x16 + 1)), (0, rV E 100), (1, .int v1), (4, .int x22), (6, .int x19), (7, .int x20), (8, .int x23)] dX10_findClear_252 3 rfl rfl (by decide) rfl ?_
              refine s_goto 84 dX10_findClear_255 (by decide) ?_
              refine s_sub [1, 2, 3, 0] rfl ?_
              exact ih18 s21 x22 (x16 + 1)
          · skip
            refine s_iinc [(5, .int (x16 + 1)), (0, rV E 100), (1, .int v1), (4, .int x22), (6, .int x19), (7, .int x20), (8, .int x23)] dX10_findClear_252 3 rfl rfl (by decide) rfl ?_
            refine s_goto 84 dX10_findClear_255 (by decide) ?_
            refine s_sub [1, 2, 3, 0] rfl ?_
            exact ih18 s21 x22 (x16 + 1)
        · skip
          exact s_return rfl rfl rfl dX10_findClear_258
      · skip
        exact s_return rfl rfl rfl dX10_findClear_258
    · intro jk12 hjk12
      refine s_if_ne 77 dX10_findClear_70 (by decide) ?_ ?_
      · skip
        refine s_iload_n dX10_findClear_73 1 rfl rfl ?_
        refine s_goto 78 dX10_findClear_74 (by decide) ?_
        refine s_sub [2, 3, 0] rfl ?_
        exact hjk12 x8
      · skip
        refine s_iconst (v := -1) dX10_findClear_77 (by decide) ?_
        refine s_sub [2, 3, 0] rfl ?_
        exact hjk12 (-1 : Int32)
theorem dX10_lengthFound_0 : decode cX10_lengthFound 0 = .ok (.iconst 0, 1) := by decide +kernel
theorem dX10_lengthFound_1 : decode cX10_lengthFound 1 = .ok (.istore_n 1, 1) := by decide +kernel
theorem dX10_lengthFound_2 : decode cX10_lengthFound 2 = .ok (.aload_n 0, 1) := by decide +kernel
theorem dX10_lengthFound_3 : decode cX10_lengthFound 3 = .ok (.getfield 259, 3) := by decide +kernel
theorem dX10_lengthFound_6 : decode cX10_lengthFound 6 = .ok (.istore_n 2, 1) := by decide +kernel
theorem dX10_lengthFound_7 : decode cX10_lengthFound 7 = .ok (.aload_n 0, 1) := by decide +kernel
theorem dX10_lengthFound_8 : decode cX10_lengthFound 8 = .ok (.getfield 43, 3) := by decide +kernel
theorem dX10_lengthFound_11 : decode cX10_lengthFound 11 = .ok (.iload_n 2, 1) := by decide +kernel
theorem dX10_lengthFound_12 : decode cX10_lengthFound 12 = .ok (.iaload, 1) := by decide +kernel
theorem dX10_lengthFound_13 : decode cX10_lengthFound 13 = .ok (.iconst (-1), 1) := by decide +kernel
theorem dX10_lengthFound_14 : decode cX10_lengthFound 14 = .ok (.if_icmp .eq 16, 3) := by decide +kernel
theorem dX10_lengthFound_17 : decode cX10_lengthFound 17 = .ok (.iinc 1 1, 3) := by decide +kernel
theorem dX10_lengthFound_20 : decode cX10_lengthFound 20 = .ok (.aload_n 0, 1) := by decide +kernel
theorem dX10_lengthFound_21 : decode cX10_lengthFound 21 = .ok (.getfield 43, 3) := by decide +kernel
theorem dX10_lengthFound_24 : decode cX10_lengthFound 24 = .ok (.iload_n 2, 1) := by decide +kernel
theorem dX10_lengthFound_25 : decode cX10_lengthFound 25 = .ok (.iaload, 1) := by decide +kernel
theorem dX10_lengthFound_26 : decode cX10_lengthFound 26 = .ok (.istore_n 2, 1) := by decide +kernel
theorem dX10_lengthFound_27 : decode cX10_lengthFound 27 = .ok (.goto (-20), 3) := by decide +kernel
theorem dX10_lengthFound_30 : decode cX10_lengthFound 30 = .ok (.iload_n 1, 1) := by decide +kernel
theorem dX10_lengthFound_31 : decode cX10_lengthFound 31 = .ok (.ireturn, 1) := by decide +kernel
def f_X10_lengthFound (σ : St) : Option Int32 :=
  bd (σ.1 100 27) fun x1 =>
    lo2 FU (fun rec4 (x2 : Int32) (x3 : Int32) =>
      ck x3 16384 <|
        (if (σ.1 110 x3.toNatClampNeg) = (-1 : Int32) then
          some x2
           else
          ck x3 16384 <|
            bd (σ.1 110 x3.toNatClampNeg) fun x6 =>
              rec4 (x2 + 1) x6)) (0 : Int32) x1
set_option maxHeartbeats 4000000 in
set_option maxRecDepth 100000 in
theorem c_X10_lengthFound (l : Launch) (E : Ev) (hF : Full E) (σ : St) : Ctr l enI (fun _ => σ) E md_X10_lengthFound [rV E 100] σ (f_X10_lengthFound σ) := by
  refine ctr_of rfl (Nat.le_of_ble_eq_true rfl) (fun Γ => ?_)
  show Sim _ Γ _ E md_X10_lengthFound σ 0 [(0, rV E 100)] [] _
  unfold f_X10_lengthFound
  refine s_iconst (v := 0) dX10_lengthFound_0 (by decide) ?_
  refine s_istore_n [(1, .int (0 : Int32)), (0, rV E 100)] dX10_lengthFound_1 rfl (by decide) rfl ?_
  refine s_aload_n dX10_lengthFound_2 1 rfl rfl ?_
  refine s_geti gf_X10_259 rfl (m100 hF) k100 (ft_of k100 rfl) dX10_lengthFound_3 ?_
  refine s_istore_nB (fun x1 => [(2, .int x1), (1, .int (0 : Int32)), (0, rV E 100)]) dX10_lengthFound_6 rfl (by decide) (fun _ => rfl) (fun x1 => ?_)
  refine s_sub (lv' := [(0, rV E 100), (1, .int (0 : Int32)), (2, .int x1)]) [2, 1, 0] rfl ?_
  refine s_lo2 (σf := fun x2 x3 => σ) (lvf := fun x2 x3 => [(0, rV E 100), (1, .int x2), (2, .int x3)]) (fun rec4 ih5 x2 x3 => ?_)
  refine s_aload_n dX10_lengthFound_7 0 rfl rfl ?_
  refine s_getr (b := 110) gf_X10_43 rfl (m100 hF) k100 (ft_of k100 rfl) (hF.2 _ _) rfl dX10_lengthFound_8 ?_
  refine s_iload_n dX10_lengthFound_11 2 rfl rfl ?_
  refine s_iald (m110 hF) k110 l110 dX10_lengthFound_12 ?_
  refine s_iconst (v := -1) dX10_lengthFound_13 (by decide) ?_
  refine s_icmp_eq 30 dX10_lengthFound_14 (by decide) ?_ ?_
  · skip
    refine s_iload_n dX10_lengthFound_30 1 rfl rfl ?_
    exact s_ireturn rfl rfl rfl dX10_lengthFound_31
  · skip
    refine s_iinc [(1, .int (x2 + 1)), (0, rV E 100), (2, .int x3)] dX10_lengthFound_17 1 rfl rfl (by decide) rfl ?_
    refine s_aload_n dX10_lengthFound_20 1 rfl rfl ?_
    refine s_getr (b := 110) gf_X10_43 rfl (m100 hF) k100 (ft_of k100 rfl) (hF.2 _ _) rfl dX10_lengthFound_21 ?_
    refine s_iload_n dX10_lengthFound_24 2 rfl rfl ?_
    refine s_iald (m110 hF) k110 l110 dX10_lengthFound_25 ?_
    refine s_istore_nB (fun x6 => [(2, .int x6), (1, .int (x2 + 1)), (0, rV E 100)]) dX10_lengthFound_26 rfl (by decide) (fun _ => rfl) (fun x6 => ?_)
    refine s_goto 7 dX10_lengthFound_27 (by decide) ?_
    refine s_sub [2, 1, 0] rfl ?_
    exact ih5 (x2 + 1) x6
theorem dX10_clear_0 : decode cX10_clear 0 = .ok (.iload_n 1, 1) := by decide +kernel
theorem dX10_clear_1 : decode cX10_clear 1 = .ok (.iconst 1, 1) := by decide +kernel
theorem dX10_clear_2 : decode cX10_clear 2 = .ok (.iconst 2, 1) := by decide +kernel
theorem dX10_clear_3 : decode cX10_clear 3 = .ok (.invokestatic 83, 3) := by decide +kernel
theorem dX10_clear_6 : decode cX10_clear 6 = .ok (.ifCond .eq 8, 3) := by decide +kernel
theorem dX10_clear_9 : decode cX10_clear 9 = .ok (.iload_n 3, 1) := by decide +kernel
theorem dX10_clear_10 : decode cX10_clear 10 = .ok (.iconst (-1), 1) := by decide +kernel
theorem dX10_clear_11 : decode cX10_clear 11 = .ok (.if_icmp .ge 6, 3) := by decide +kernel
theorem dX10_clear_14 : decode cX10_clear 14 = .ok (.bipush (-3), 2) := by decide +kernel
theorem dX10_clear_16 : decode cX10_clear 16 = .ok (.ireturn, 1) := by decide +kernel
theorem dX10_clear_17 : decode cX10_clear 17 = .ok (.aload_n 0, 1) := by decide +kernel
theorem dX10_clear_18 : decode cX10_clear 18 = .ok (.iload_n 1, 1) := by decide +kernel
theorem dX10_clear_19 : decode cX10_clear 19 = .ok (.iload_n 2, 1) := by decide +kernel
theorem dX10_clear_20 : decode cX10_clear 20 = .ok (.invokevirtual 220, 3) := by decide +kernel
theorem dX10_clear_23 : decode cX10_clear 23 = .ok (.istore 4, 2) := by decide +kernel
theorem dX10_clear_25 : decode cX10_clear 25 = .ok (.iload 4, 2) := by decide +kernel
theorem dX10_clear_27 : decode cX10_clear 27 = .ok (.iconst (-1), 1) := by decide +kernel
theorem dX10_clear_28 : decode cX10_clear 28 = .ok (.if_icmp .ne 6, 3) := by decide +kernel
theorem dX10_clear_31 : decode cX10_clear 31 = .ok (.bipush (-2), 2) := by decide +kernel
theorem dX10_clear_33 : decode cX10_clear 33 = .ok (.ireturn, 1) := by decide +kernel
theorem dX10_clear_34 : decode cX10_clear 34 = .ok (.aload_n 0, 1) := by decide +kernel
theorem dX10_clear_35 : decode cX10_clear 35 = .ok (.iload_n 1, 1) := by decide +kernel
theorem dX10_clear_36 : decode cX10_clear 36 = .ok (.iload 4, 2) := by decide +kernel
theorem dX10_clear_38 : decode cX10_clear 38 = .ok (.invokevirtual 265, 3) := by decide +kernel
theorem dX10_clear_41 : decode cX10_clear 41 = .ok (.aload_n 0, 1) := by decide +kernel
theorem dX10_clear_42 : decode cX10_clear 42 = .ok (.getfield 259, 3) := by decide +kernel
theorem dX10_clear_45 : decode cX10_clear 45 = .ok (.iconst (-1), 1) := by decide +kernel
theorem dX10_clear_46 : decode cX10_clear 46 = .ok (.if_icmp .ne 5, 3) := by decide +kernel
theorem dX10_clear_49 : decode cX10_clear 49 = .ok (.iconst (-1), 1) := by decide +kernel
theorem dX10_clear_50 : decode cX10_clear 50 = .ok (.ireturn, 1) := by decide +kernel
theorem dX10_clear_51 : decode cX10_clear 51 = .ok (.aload_n 0, 1) := by decide +kernel
theorem dX10_clear_52 : decode cX10_clear 52 = .ok (.invokevirtual 268, 3) := by decide +kernel
theorem dX10_clear_55 : decode cX10_clear 55 = .ok (.istore 5, 2) := by decide +kernel
theorem dX10_clear_57 : decode cX10_clear 57 = .ok (.iload_n 3, 1) := by decide +kernel
theorem dX10_clear_58 : decode cX10_clear 58 = .ok (.iconst (-1), 1) := by decide +kernel
theorem dX10_clear_59 : decode cX10_clear 59 = .ok (.if_icmp .eq 9, 3) := by decide +kernel
theorem dX10_clear_62 : decode cX10_clear 62 = .ok (.iload_n 3, 1) := by decide +kernel
theorem dX10_clear_63 : decode cX10_clear 63 = .ok (.iload 5, 2) := by decide +kernel
theorem dX10_clear_65 : decode cX10_clear 65 = .ok (.if_icmp .le 15, 3) := by decide +kernel
theorem dX10_clear_68 : decode cX10_clear 68 = .ok (.iload_n 3, 1) := by decide +kernel
theorem dX10_clear_69 : decode cX10_clear 69 = .ok (.iconst (-1), 1) := by decide +kernel
theorem dX10_clear_70 : decode cX10_clear 70 = .ok (.if_icmp .ne 8, 3) := by decide +kernel
theorem dX10_clear_73 : decode cX10_clear 73 = .ok (.iload 5, 2) := by decide +kernel
theorem dX10_clear_75 : decode cX10_clear 75 = .ok (.goto 4, 3) := by decide +kernel
theorem dX10_clear_78 : decode cX10_clear 78 = .ok (.iconst (-1), 1) := by decide +kernel
theorem dX10_clear_79 : decode cX10_clear 79 = .ok (.ireturn, 1) := by decide +kernel
theorem dX10_clear_80 : decode cX10_clear 80 = .ok (.aload_n 0, 1) := by decide +kernel
theorem dX10_clear_81 : decode cX10_clear 81 = .ok (.getfield 259, 3) := by decide +kernel
theorem dX10_clear_84 : decode cX10_clear 84 = .ok (.istore 6, 2) := by decide +kernel
theorem dX10_clear_86 : decode cX10_clear 86 = .ok (.iload 5, 2) := by decide +kernel
theorem dX10_clear_88 : decode cX10_clear 88 = .ok (.istore 7, 2) := by decide +kernel
theorem dX10_clear_90 : decode cX10_clear 90 = .ok (.iload 7, 2) := by decide +kernel
theorem dX10_clear_92 : decode cX10_clear 92 = .ok (.iload_n 3, 1) := by decide +kernel
theorem dX10_clear_93 : decode cX10_clear 93 = .ok (.if_icmp .le 18, 3) := by decide +kernel
theorem dX10_clear_96 : decode cX10_clear 96 = .ok (.aload_n 0, 1) := by decide +kernel
theorem dX10_clear_97 : decode cX10_clear 97 = .ok (.getfield 43, 3) := by decide +kernel
theorem dX10_clear_100 : decode cX10_clear 100 = .ok (.iload 6, 2) := by decide +kernel
theorem dX10_clear_102 : decode cX10_clear 102 = .ok (.iaload, 1) := by decide +kernel
theorem dX10_clear_103 : decode cX10_clear 103 = .ok (.istore 6, 2) := by decide +kernel
theorem dX10_clear_105 : decode cX10_clear 105 = .ok (.iinc 7 (-1), 3) := by decide +kernel
theorem dX10_clear_108 : decode cX10_clear 108 = .ok (.goto (-18), 3) := by decide +kernel
theorem dX10_clear_111 : decode cX10_clear 111 = .ok (.iload 6, 2) := by decide +kernel
theorem dX10_clear_113 : decode cX10_clear 113 = .ok (.sipush 256, 3) := by decide +kernel
theorem dX10_clear_116 : decode cX10_clear 116 = .ok (.idiv, 1) := by decide +kernel
theorem dX10_clear_117 : decode cX10_clear 117 = .ok (.ireturn, 1) := by decide +kernel
def f_X10_clear (σ : St) (v1 : Int32) (v2 : Int32) (v3 : Int32) : Option (Int32 × St) :=
  calP (f_X10_in σ v1 (1 : Int32) (2 : Int32)) fun r1 =>
    (if r1 = 0 then
      some ((-3 : Int32), σ)
       else
      (if v3 < (-1 : Int32) then
        some ((-3 : Int32), σ)
         else
        cal (f_X10_told σ v1 v2) fun r2 s3 =>
          (if r2 = (-1 : Int32) then
            some ((-2 : Int32), s3)
             else
            cal (f_X10_findClear s3 v1 r2) fun _ s4 =>
              (if (s4.1 100 27) = (-1 : Int32) then
                some ((-1 : Int32), s4)
                 else
                calP (f_X10_lengthFound s4) fun r5 =>
                  jn0 (fun jk6 =>
                    (if v3 = (-1 : Int32) then
                      jk6
                       else
                      (if r5 < v3 then
                        jk6
                         else
                        bd (s4.1 100 27) fun x7 =>
                          lo2 FU (fun rec10 (x8 : Int32) (x9 : Int32) =>
                            (if v3 < x9 then
                              ck x8 16384 <|
                                bd (s4.1 110 x8.toNatClampNeg) fun x12 =>
                                  rec10 x12 (x9 + (-1))
                               else
                              some ((x8 / (256 : Int32)), s4))) x7 r5)))
                    (
                    (if v3 = (-1 : Int32) then
                        some (r5, s4)
                         else
                        some ((-1 : Int32), s4)))))))
set_option maxHeartbeats 4000000 in
set_option maxRecDepth 100000 in
theorem c_X10_clear (l : Launch) (E : Ev) (hF : Full E) (σ : St) (v1 : Int32) (v2 : Int32) (v3 : Int32) : Ctr l (en2 enI) (fun q => q.2) E md_X10_clear [rV E 100, .int v1, .int v2, .int v3] σ (f_X10_clear σ v1 v2 v3) := by
  refine ctr_of rfl (Nat.le_of_ble_eq_true rfl) (fun Γ => ?_)
  show Sim _ Γ _ E md_X10_clear σ 0 [(0, rV E 100), (1, .int v1), (2, .int v2), (3, .int v3)] [] _
  unfold f_X10_clear
  refine s_iload_n dX10_clear_0 1 rfl rfl ?_
  refine s_iconst (v := 1) dX10_clear_1 (by decide) ?_
  refine s_iconst (v := 2) dX10_clear_2 (by decide) ?_
  refine s_callSpI (As := [.int v1, .int (1 : Int32), .int (2 : Int32)]) mf_X10_in vf_X10_in ml_X10_83 (c_X10_in _ E hF σ v1 (1 : Int32) (2 : Int32)) rfl rfl (Nat.le_of_ble_eq_true rfl) rfl dX10_clear_3 (fun r1 => ?_)
  refine s_if_eq 14 dX10_clear_6 (by decide) ?_ ?_
  · skip
    refine s_bipush (v := -3) dX10_clear_14 (by decide) ?_
    exact s_ireturn rfl rfl rfl dX10_clear_16
  · skip
    refine s_iload_n dX10_clear_9 3 rfl rfl ?_
    refine s_iconst (v := -1) dX10_clear_10 (by decide) ?_
    refine s_icmp_ge 17 dX10_clear_11 (by decide) ?_ ?_
    · skip
      refine s_bipush (v := -3) dX10_clear_14 (by decide) ?_
      exact s_ireturn rfl rfl rfl dX10_clear_16
    · skip
      refine s_aload_n dX10_clear_17 0 rfl rfl ?_
      refine s_iload_n dX10_clear_18 1 rfl rfl ?_
      refine s_iload_n dX10_clear_19 2 rfl rfl ?_
      refine s_callVwI (As := [.int v1, .int v2]) mf_X10_told vf_X10_told ml_X10_220 (c_X10_told _ E hF σ v1 v2) (m100 hF) k100 (by decide) rfl rfl rfl rfl (Nat.le_of_ble_eq_true rfl) rfl dX10_clear_20 (fun r2 s3 => ?_)
      refine s_istore [(4, .int r2), (0, rV E 100), (1, .int v1), (2, .int v2), (3, .int v3)] dX10_clear_23 (by decide) rfl ?_
      refine s_iload dX10_clear_25 0 rfl ?_
      refine s_iconst (v := -1) dX10_clear_27 (by decide) ?_
      refine s_icmp_ne 34 dX10_clear_28 (by decide) ?_ ?_
      · skip
        refine s_bipush (v := -2) dX10_clear_31 (by decide) ?_
        exact s_ireturn rfl rfl rfl dX10_clear_33
      · skip
        refine s_aload_n dX10_clear_34 1 rfl rfl ?_
        refine s_iload_n dX10_clear_35 2 rfl rfl ?_
        refine s_iload dX10_clear_36 0 rfl ?_
        refine s_callVwV (As := [.int v1, .int r2]) mf_X10_findClear vf_X10_findClear ml_X10_265 (c_X10_findClear _ E hF s3 v1 r2) (m100 hF) k100 (by decide) rfl rfl rfl rfl (Nat.le_of_ble_eq_true rfl) rfl dX10_clear_38 (fun _ s4 => ?_)
        refine s_aload_n dX10_clear_41 1 rfl rfl ?_
        refine s_geti gf_X10_259 rfl (m100 hF) k100 (ft_of k100 rfl) dX10_clear_42 ?_
        refine s_iconst (v := -1) dX10_clear_45 (by decide) ?_
        refine s_icmp_ne 51 dX10_clear_46 (by decide) ?_ ?_
        · skip
          refine s_iconst (v := -1) dX10_clear_49 (by decide) ?_
          exact s_ireturn rfl rfl rfl dX10_clear_50
        · skip
          refine s_aload_n dX10_clear_51 1 rfl rfl ?_
          refine s_callVpI (As := []) mf_X10_lengthFound vf_X10_lengthFound ml_X10_268 (c_X10_lengthFound _ E hF s4) (m100 hF) k100 (by decide) rfl rfl rfl rfl (Nat.le_of_ble_eq_true rfl) rfl dX10_clear_52 (fun r5 => ?_)
          refine s_istore [(5, .int r5), (4, .int r2), (0, rV E 100), (1, .int v1), (2, .int v2), (3, .int v3)] dX10_clear_55 (by decide) rfl ?_
          refine s_iload_n dX10_clear_57 5 rfl rfl ?_
          refine s_iconst (v := -1) dX10_clear_58 (by decide) ?_
          refine s_jn0 s4 68 [(3, .int v3), (5, .int r5)] [] ?_ ?_
          · skip
            refine s_iload_n dX10_clear_68 0 rfl rfl ?_
            refine s_iconst (v := -1) dX10_clear_69 (by decide) ?_
            refine s_icmp_ne 78 dX10_clear_70 (by decide) ?_ ?_
            · skip
              refine s_iload dX10_clear_73 1 rfl ?_
              refine s_goto 79 dX10_clear_75 (by decide) ?_
              exact s_ireturn rfl rfl rfl dX10_clear_79
            · skip
              refine s_iconst (v := -1) dX10_clear_78 (by decide) ?_
              exact s_ireturn rfl rfl rfl dX10_clear_79
          · intro jk6 hjk6
            refine s_icmp_eq 68 dX10_clear_59 (by decide) ?_ ?_
            · skip
              refine s_sub [5, 0] rfl ?_
              exact hjk6
            · skip
              refine s_iload_n dX10_clear_62 5 rfl rfl ?_
              refine s_iload dX10_clear_63 0 rfl ?_
              refine s_icmp_le 80 dX10_clear_65 (by decide) ?_ ?_
              · skip
                refine s_sub [5, 0] rfl ?_
                exact hjk6
              · skip
                refine s_aload_n dX10_clear_80 2 rfl rfl ?_
                refine s_geti gf_X10_259 rfl (m100 hF) k100 (ft_of k100 rfl) dX10_clear_81 ?_
                refine s_istoreB (fun x7 => [(6, .int x7), (5, .int r5), (4, .int r2), (0, rV E 100), (1, .int v1), (2, .int v2), (3, .int v3)]) dX10_clear_84 (by decide) (fun _ => rfl) (fun x7 => ?_)
                refine s_iload dX10_clear_86 1 rfl ?_
                refine s_istore [(7, .int r5), (6, .int x7), (5, .int r5), (4, .int r2), (0, rV E 100), (1, .int v1), (2, .int v2), (3, .int v3)] dX10_clear_88 (by decide) rfl ?_
                refine s_sub (lv' := [(0, rV E 100), (3, .int v3), (6, .int x7), (7, .int r5)]) [4, 7, 1, 0] rfl ?_
                refine s_lo2 (σf := fun x8 x9 => s4) (lvf := fun x8 x9 => [(0, rV E 100), (3, .int v3), (6, .int x8), (7, .int x9)]) (fun rec10 ih11 x8 x9 => ?_)
                refine s_iload dX10_clear_90 3 rfl ?_
                refine s_iload_n dX10_clear_92 1 rfl rfl ?_
                refine s_icmp_le 111 dX10_clear_93 (by decide) ?_ ?_
                · skip
                  refine s_aload_n dX10_clear_96 0 rfl rfl ?_
                  refine s_getr (b := 110) gf_X10_43 rfl (m100 hF) k100 (ft_of k100 rfl) (hF.2 _ _) rfl dX10_clear_97 ?_
                  refine s_iload dX10_clear_100 2 rfl ?_
                  refine s_iald (m110 hF) k110 l110 dX10_clear_102 ?_
                  refine s_istoreB (fun x12 => [(6, .int x12), (0, rV E 100), (3, .int v3), (7, .int x9)]) dX10_clear_103 (by decide) (fun _ => rfl) (fun x12 => ?_)
                  refine s_iinc [(7, .int (x9 + (-1))), (6, .int x12), (0, rV E 100), (3, .int v3)] dX10_clear_105 3 rfl rfl (by decide) rfl ?_
                  refine s_goto 90 dX10_clear_108 (by decide) ?_
                  refine s_sub [2, 3, 1, 0] rfl ?_
                  exact ih11 x12 (x9 + (-1))
                · skip
                  refine s_iload dX10_clear_111 2 rfl ?_
                  refine s_sipush (v := 256) dX10_clear_113 (by decide) ?_
                  refine s_idiv dX10_clear_116 (by decide) ?_
                  exact s_ireturn rfl rfl rfl dX10_clear_117
theorem dX10_free_0 : decode cX10_free 0 = .ok (.iload_n 1, 1) := by decide +kernel
theorem dX10_free_1 : decode cX10_free 1 = .ok (.iconst 1, 1) := by decide +kernel
theorem dX10_free_2 : decode cX10_free 2 = .ok (.iconst 2, 1) := by decide +kernel
theorem dX10_free_3 : decode cX10_free 3 = .ok (.invokestatic 83, 3) := by decide +kernel
theorem dX10_free_6 : decode cX10_free 6 = .ok (.ifCond .eq 12, 3) := by decide +kernel
theorem dX10_free_9 : decode cX10_free 9 = .ok (.iload_n 2, 1) := by decide +kernel
theorem dX10_free_10 : decode cX10_free 10 = .ok (.iconst 0, 1) := by decide +kernel
theorem dX10_free_11 : decode cX10_free 11 = .ok (.iconst 1, 1) := by decide +kernel
theorem dX10_free_12 : decode cX10_free 12 = .ok (.invokestatic 83, 3) := by decide +kernel
theorem dX10_free_15 : decode cX10_free 15 = .ok (.ifCond .ne 6, 3) := by decide +kernel
theorem dX10_free_18 : decode cX10_free 18 = .ok (.bipush (-3), 2) := by decide +kernel
theorem dX10_free_20 : decode cX10_free 20 = .ok (.ireturn, 1) := by decide +kernel
theorem dX10_free_21 : decode cX10_free 21 = .ok (.aload_n 0, 1) := by decide +kernel
theorem dX10_free_22 : decode cX10_free 22 = .ok (.getfield 49, 3) := by decide +kernel
theorem dX10_free_25 : decode cX10_free 25 = .ok (.iload_n 1, 1) := by decide +kernel
theorem dX10_free_26 : decode cX10_free 26 = .ok (.baload, 1) := by decide +kernel
theorem dX10_free_27 : decode cX10_free 27 = .ok (.ifCond .ne 115, 3) := by decide +kernel
theorem dX10_free_30 : decode cX10_free 30 = .ok (.aload_n 0, 1) := by decide +kernel
theorem dX10_free_31 : decode cX10_free 31 = .ok (.getfield 49, 3) := by decide +kernel
theorem dX10_free_34 : decode cX10_free 34 = .ok (.iload_n 1, 1) := by decide +kernel
theorem dX10_free_35 : decode cX10_free 35 = .ok (.iconst 1, 1) := by decide +kernel
theorem dX10_free_36 : decode cX10_free 36 = .ok (.bastore, 1) := by decide +kernel
theorem dX10_free_37 : decode cX10_free 37 = .ok (.aload_n 0, 1) := by decide +kernel
theorem dX10_free_38 : decode cX10_free 38 = .ok (.getfield 52, 3) := by decide +kernel
theorem dX10_free_41 : decode cX10_free 41 = .ok (.iload_n 1, 1) := by decide +kernel
theorem dX10_free_42 : decode cX10_free 42 = .ok (.iconst (-1), 1) := by decide +kernel
theorem dX10_free_43 : decode cX10_free 43 = .ok (.iastore, 1) := by decide +kernel
theorem dX10_free_44 : decode cX10_free 44 = .ok (.aload_n 0, 1) := by decide +kernel
theorem dX10_free_45 : decode cX10_free 45 = .ok (.getfield 55, 3) := by decide +kernel
theorem dX10_free_48 : decode cX10_free 48 = .ok (.iload_n 1, 1) := by decide +kernel
theorem dX10_free_49 : decode cX10_free 49 = .ok (.iconst (-1), 1) := by decide +kernel
theorem dX10_free_50 : decode cX10_free 50 = .ok (.iastore, 1) := by decide +kernel
theorem dX10_free_51 : decode cX10_free 51 = .ok (.iconst 0, 1) := by decide +kernel
theorem dX10_free_52 : decode cX10_free 52 = .ok (.istore_n 3, 1) := by decide +kernel
theorem dX10_free_53 : decode cX10_free 53 = .ok (.iload_n 3, 1) := by decide +kernel
theorem dX10_free_54 : decode cX10_free 54 = .ok (.iload_n 1, 1) := by decide +kernel
theorem dX10_free_55 : decode cX10_free 55 = .ok (.invokestatic 186, 3) := by decide +kernel
theorem dX10_free_58 : decode cX10_free 58 = .ok (.if_icmp .ge 84, 3) := by decide +kernel
theorem dX10_free_61 : decode cX10_free 61 = .ok (.aload_n 0, 1) := by decide +kernel
theorem dX10_free_62 : decode cX10_free 62 = .ok (.iload_n 1, 1) := by decide +kernel
theorem dX10_free_63 : decode cX10_free 63 = .ok (.iload_n 3, 1) := by decide +kernel
theorem dX10_free_64 : decode cX10_free 64 = .ok (.invokevirtual 189, 3) := by decide +kernel
theorem dX10_free_67 : decode cX10_free 67 = .ok (.ifCond .eq 69, 3) := by decide +kernel
theorem dX10_free_70 : decode cX10_free 70 = .ok (.aload_n 0, 1) := by decide +kernel
theorem dX10_free_71 : decode cX10_free 71 = .ok (.iload_n 1, 1) := by decide +kernel
theorem dX10_free_72 : decode cX10_free 72 = .ok (.iload_n 3, 1) := by decide +kernel
theorem dX10_free_73 : decode cX10_free 73 = .ok (.invokevirtual 265, 3) := by decide +kernel
theorem dX10_free_76 : decode cX10_free 76 = .ok (.aload_n 0, 1) := by decide +kernel
theorem dX10_free_77 : decode cX10_free 77 = .ok (.getfield 259, 3) := by decide +kernel
theorem dX10_free_80 : decode cX10_free 80 = .ok (.iconst (-1), 1) := by decide +kernel
theorem dX10_free_81 : decode cX10_free 81 = .ok (.if_icmp .ne 7, 3) := by decide +kernel
theorem dX10_free_84 : decode cX10_free 84 = .ok (.iconst (-1), 1) := by decide +kernel
theorem dX10_free_85 : decode cX10_free 85 = .ok (.goto 7, 3) := by decide +kernel
theorem dX10_free_88 : decode cX10_free 88 = .ok (.aload_n 0, 1) := by decide +kernel
theorem dX10_free_89 : decode cX10_free 89 = .ok (.invokevirtual 268, 3) := by decide +kernel
theorem dX10_free_92 : decode cX10_free 92 = .ok (.istore 4, 2) := by decide +kernel
theorem dX10_free_94 : decode cX10_free 94 = .ok (.iload 4, 2) := by decide +kernel
theorem dX10_free_96 : decode cX10_free 96 = .ok (.iconst (-1), 1) := by decide +kernel
theorem dX10_free_97 : decode cX10_free 97 = .ok (.if_icmp .eq 39, 3) := by decide +kernel
theorem dX10_free_100 : decode cX10_free 100 = .ok (.aload_n 0, 1) := by decide +kernel
theorem dX10_free_101 : decode cX10_free 101 = .ok (.getfield 55, 3) := by decide +kernel
theorem dX10_free_104 : decode cX10_free 104 = .ok (.iload_n 1, 1) := by decide +kernel
theorem dX10_free_105 : decode cX10_free 105 = .ok (.iaload, 1) := by decide +kernel
theorem dX10_free_106 : decode cX10_free 106 = .ok (.iconst (-1), 1) := by decide +kernel
theorem dX10_free_107 : decode cX10_free 107 = .ok (.if_icmp .eq 14, 3) := by decide +kernel
theorem dX10_free_110 : decode cX10_free 110 = .ok (.iload 4, 2) := by decide +kernel
theorem dX10_free_112 : decode cX10_free 112 = .ok (.aload_n 0, 1) := by decide +kernel
theorem dX10_free_113 : decode cX10_free 113 = .ok (.getfield 55, 3) := by decide +kernel
theorem dX10_free_116 : decode cX10_free 116 = .ok (.iload_n 1, 1) := by decide +kernel
theorem dX10_free_117 : decode cX10_free 117 = .ok (.iaload, 1) := by decide +kernel
theorem dX10_free_118 : decode cX10_free 118 = .ok (.if_icmp .ge 18, 3) := by decide +kernel
theorem dX10_free_121 : decode cX10_free 121 = .ok (.aload_n 0, 1) := by decide +kernel
theorem dX10_free_122 : decode cX10_free 122 = .ok (.getfield 52, 3) := by decide +kernel
theorem dX10_free_125 : decode cX10_free 125 = .ok (.iload_n 1, 1) := by decide +kernel
theorem dX10_free_126 : decode cX10_free 126 = .ok (.iload_n 3, 1) := by decide +kernel
theorem dX10_free_127 : decode cX10_free 127 = .ok (.iastore, 1) := by decide +kernel
theorem dX10_free_128 : decode cX10_free 128 = .ok (.aload_n 0, 1) := by decide +kernel
theorem dX10_free_129 : decode cX10_free 129 = .ok (.getfield 55, 3) := by decide +kernel
theorem dX10_free_132 : decode cX10_free 132 = .ok (.iload_n 1, 1) := by decide +kernel
theorem dX10_free_133 : decode cX10_free 133 = .ok (.iload 4, 2) := by decide +kernel
theorem dX10_free_135 : decode cX10_free 135 = .ok (.iastore, 1) := by decide +kernel
theorem dX10_free_136 : decode cX10_free 136 = .ok (.iinc 3 1, 3) := by decide +kernel
theorem dX10_free_139 : decode cX10_free 139 = .ok (.goto (-86), 3) := by decide +kernel
theorem dX10_free_142 : decode cX10_free 142 = .ok (.iload_n 2, 1) := by decide +kernel
theorem dX10_free_143 : decode cX10_free 143 = .ok (.ifCond .ne 12, 3) := by decide +kernel
theorem dX10_free_146 : decode cX10_free 146 = .ok (.aload_n 0, 1) := by decide +kernel
theorem dX10_free_147 : decode cX10_free 147 = .ok (.getfield 52, 3) := by decide +kernel
theorem dX10_free_150 : decode cX10_free 150 = .ok (.iload_n 1, 1) := by decide +kernel
theorem dX10_free_151 : decode cX10_free 151 = .ok (.iaload, 1) := by decide +kernel
theorem dX10_free_152 : decode cX10_free 152 = .ok (.goto 9, 3) := by decide +kernel
theorem dX10_free_155 : decode cX10_free 155 = .ok (.aload_n 0, 1) := by decide +kernel
theorem dX10_free_156 : decode cX10_free 156 = .ok (.getfield 55, 3) := by decide +kernel
theorem dX10_free_159 : decode cX10_free 159 = .ok (.iload_n 1, 1) := by decide +kernel
theorem dX10_free_160 : decode cX10_free 160 = .ok (.iaload, 1) := by decide +kernel
theorem dX10_free_161 : decode cX10_free 161 = .ok (.ireturn, 1) := by decide +kernel
def f_X10_free (σ : St) (v1 : Int32) (v2 : Int32) : Option (Int32 × St) :=
  calP (f_X10_in σ v1 (1 : Int32) (2 : Int32)) fun r1 =>
    (if r1 = 0 then
      some ((-3 : Int32), σ)
       else
      calP (f_X10_in σ v2 (0 : Int32) (1 : Int32)) fun r2 =>
        (if r2 = 0 then
          some ((-3 : Int32), σ)
           else
          ck v1 3 <|
            jn1 (fun jk4 =>
              (if (σ.1 112 v1.toNatClampNeg) = 0 then
                ck v1 3 <|
                  bd (setI σ 112 v1.toNatClampNeg (1 : Int32)) fun s5 =>
                    ck v1 3 <|
                      bd (setI s5 113 v1.toNatClampNeg (-1 : Int32)) fun s6 =>
                        ck v1 3 <|
                          bd (setI s6 114 v1.toNatClampNeg (-1 : Int32)) fun s7 =>
                            lo2 FU (fun rec10 (s8 : St) (x9 : Int32) =>
                              calP (f_X10_powerOf s8 v1) fun r12 =>
                                (if x9 < r12 then
                                  cal (f_X10_isSetting s8 v1 x9) fun r13 s14 =>
                                    (if r13 = 0 then
                                      rec10 s14 (x9 + 1)
                                       else
                                      cal (f_X10_findClear s14 v1 x9) fun _ s15 =>
                                        jn1 (fun jk17 =>
                                          (if (s15.1 100 27) = (-1 : Int32) then
                                            jk17 (-1 : Int32)
                                             else
                                            calP (f_X10_lengthFound s15) fun r21 =>
                                              jk17 r21))
                                          (fun (x16 : Int32) => 
                                          (if x16 = (-1 : Int32) then
                                              rec10 s15 (x9 + 1)
                                               else
                                              ck v1 3 <|
                                                jn0 (fun jk18 =>
                                                  (if (s15.1 114 v1.toNatClampNeg) = (-1 : Int32) then
                                                    jk18
                                                     else
                                                    ck v1 3 <|
                                                      (if x16 < (s15.1 114 v1.toNatClampNeg) then
                                                        jk18
                                                         else
                                                        rec10 s15 (x9 + 1))))
                                                  (
                                                  ck v1 3 <|
                                                      bd (setI s15 113 v1.toNatClampNeg x9) fun s19 =>
                                                        ck v1 3 <|
                                                          bd (setI s19 114 v1.toNatClampNeg x16) fun s20 =>
                                                            rec10 s20 (x9 + 1)))))
                                   else
                                  jk4 s8)) s7 (0 : Int32)
                 else
                jk4 σ))
              (fun (s3 : St) => 
              (if v2 = 0 then
                  ck v1 3 <|
                    some ((s3.1 113 v1.toNatClampNeg), s3)
                   else
                  ck v1 3 <|
                    some ((s3.1 114 v1.toNatClampNeg), s3)))))
set_option maxHeartbeats 4000000 in
set_option maxRecDepth 100000 in
theorem c_X10_free (l : Launch) (E : Ev) (hF : Full E) (σ : St) (v1 : Int32) (v2 : Int32) : Ctr l (en2 enI) (fun q => q.2) E md_X10_free [rV E 100, .int v1, .int v2] σ (f_X10_free σ v1 v2) := by
  refine ctr_of rfl (Nat.le_of_ble_eq_true rfl) (fun Γ => ?_)
  show Sim _ Γ _ E md_X10_free σ 0 [(0, rV E 100), (1, .int v1), (2, .int v2)] [] _
  unfold f_X10_free
  refine s_iload_n dX10_free_0 1 rfl rfl ?_
  refine s_iconst (v := 1) dX10_free_1 (by decide) ?_
  refine s_iconst (v := 2) dX10_free_2 (by decide) ?_
  refine s_callSpI (As := [.int v1, .int (1 : Int32), .int (2 : Int32)]) mf_X10_in vf_X10_in ml_X10_83 (c_X10_in _ E hF σ v1 (1 : Int32) (2 : Int32)) rfl rfl (Nat.le_of_ble_eq_true rfl) rfl dX10_free_3 (fun r1 => ?_)
  refine s_if_eq 18 dX10_free_6 (by decide) ?_ ?_
  · skip
    refine s_bipush (v := -3) dX10_free_18 (by decide) ?_
    exact s_ireturn rfl rfl rfl dX10_free_20
  · skip
    refine s_iload_n dX10_free_9 2 rfl rfl ?_
    refine s_iconst (v := 0) dX10_free_10 (by decide) ?_
    refine s_iconst (v := 1) dX10_free_11 (by decide) ?_
    refine s_callSpI (As := [.int v2, .int (0 : Int32), .int (1 : Int32)]) mf_X10_in vf_X10_in ml_X10_83 (c_X10_in _ E hF σ v2 (0 : Int32) (1 : Int32)) rfl rfl (Nat.le_of_ble_eq_true rfl) rfl dX10_free_12 (fun r2 => ?_)
    refine s_if_ne 21 dX10_free_15 (by decide) ?_ ?_
    · skip
      refine s_bipush (v := -3) dX10_free_18 (by decide) ?_
      exact s_ireturn rfl rfl rfl dX10_free_20
    · skip
      refine s_aload_n dX10_free_21 0 rfl rfl ?_
      refine s_getr (b := 112) gf_X10_49 rfl (m100 hF) k100 (ft_of k100 rfl) (hF.2 _ _) rfl dX10_free_22 ?_
      refine s_iload_n dX10_free_25 1 rfl rfl ?_
      refine s_zald (m112 hF) k112 l112 dX10_free_26 ?_
      refine s_jn1 142 (fun s3 => s3) (fun s3 => [(0, rV E 100), (1, .int v1), (2, .int v2)]) (fun s3 => []) ?_ ?_
      · intro s3
        refine s_iload_n dX10_free_142 2 rfl rfl ?_
        refine s_if_ne 155 dX10_free_143 (by decide) ?_ ?_
        · skip
          refine s_aload_n dX10_free_146 0 rfl rfl ?_
          refine s_getr (b := 113) gf_X10_52 rfl (m100 hF) k100 (ft_of k100 rfl) (hF.2 _ _) rfl dX10_free_147 ?_
          refine s_iload_n dX10_free_150 1 rfl rfl ?_
          refine s_iald (m113 hF) k113 l113 dX10_free_151 ?_
          refine s_goto 161 dX10_free_152 (by decide) ?_
          exact s_ireturn rfl rfl rfl dX10_free_161
        · skip
          refine s_aload_n dX10_free_155 0 rfl rfl ?_
          refine s_getr (b := 114) gf_X10_55 rfl (m100 hF) k100 (ft_of k100 rfl) (hF.2 _ _) rfl dX10_free_156 ?_
          refine s_iload_n dX10_free_159 1 rfl rfl ?_
          refine s_iald (m114 hF) k114 l114 dX10_free_160 ?_
          exact s_ireturn rfl rfl rfl dX10_free_161
      · intro jk4 hjk4
        refine s_if_ne 142 dX10_free_27 (by decide) ?_ ?_
        · skip
          refine s_aload_n dX10_free_30 0 rfl rfl ?_
          refine s_getr (b := 112) gf_X10_49 rfl (m100 hF) k100 (ft_of k100 rfl) (hF.2 _ _) rfl dX10_free_31 ?_
          refine s_iload_n dX10_free_34 1 rfl rfl ?_
          refine s_iconst (v := 1) dX10_free_35 (by decide) ?_
          refine s_zast (m112 hF) k112 l112 (by decide) dX10_free_36 (fun s5 => ?_)
          refine s_aload_n dX10_free_37 0 rfl rfl ?_
          refine s_getr (b := 113) gf_X10_52 rfl (m100 hF) k100 (ft_of k100 rfl) (hF.2 _ _) rfl dX10_free_38 ?_
          refine s_iload_n dX10_free_41 1 rfl rfl ?_
          refine s_iconst (v := -1) dX10_free_42 (by decide) ?_
          refine s_iast (m113 hF) k113 l113 dX10_free_43 (fun s6 => ?_)
          refine s_aload_n dX10_free_44 0 rfl rfl ?_
          refine s_getr (b := 114) gf_X10_55 rfl (m100 hF) k100 (ft_of k100 rfl) (hF.2 _ _) rfl dX10_free_45 ?_
          refine s_iload_n dX10_free_48 1 rfl rfl ?_
          refine s_iconst (v := -1) dX10_free_49 (by decide) ?_
          refine s_iast (m114 hF) k114 l114 dX10_free_50 (fun s7 => ?_)
          refine s_iconst (v := 0) dX10_free_51 (by decide) ?_
          refine s_istore_n [(3, .int (0 : Int32)), (0, rV E 100), (1, .int v1), (2, .int v2)] dX10_free_52 rfl (by decide) rfl ?_
          refine s_sub (lv' := [(0, rV E 100), (1, .int v1), (2, .int v2), (3, .int (0 : Int32))]) [1, 2, 3, 0] rfl ?_
          refine s_lo2 (σf := fun s8 x9 => s8) (lvf := fun s8 x9 => [(0, rV E 100), (1, .int v1), (2, .int v2), (3, .int x9)]) (fun rec10 ih11 s8 x9 => ?_)
          refine s_iload_n dX10_free_53 3 rfl rfl ?_
          refine s_iload_n dX10_free_54 1 rfl rfl ?_
          refine s_callSpI (As := [.int v1]) mf_X10_powerOf vf_X10_powerOf ml_X10_186 (c_X10_powerOf _ E hF s8 v1) rfl rfl (Nat.le_of_ble_eq_true rfl) rfl dX10_free_55 (fun r12 => ?_)
          refine s_icmp_ge 142 dX10_free_58 (by decide) ?_ ?_
          · skip
            refine s_aload_n dX10_free_61 0 rfl rfl ?_
            refine s_iload_n dX10_free_62 1 rfl rfl ?_
            refine s_iload_n dX10_free_63 3 rfl rfl ?_
            refine s_callVwI (As := [.int v1, .int x9]) mf_X10_isSetting vf_X10_isSetting ml_X10_189 (c_X10_isSetting _ E hF s8 v1 x9) (m100 hF) k100 (by decide) rfl rfl rfl rfl (Nat.le_of_ble_eq_true rfl) rfl dX10_free_64 (fun r13 s14 => ?_)
            refine s_if_eq 136 dX10_free_67 (by decide) ?_ ?_
            · skip
              refine s_iinc [(3, .int (x9 + 1)), (0, rV E 100), (1, .int v1), (2, .int v2)] dX10_free_136 3 rfl rfl (by decide) rfl ?_
              refine s_goto 53 dX10_free_139 (by decide) ?_
              refine s_sub [1, 2, 3, 0] rfl ?_
              exact ih11 s14 (x9 + 1)
            · skip
              refine s_aload_n dX10_free_70 0 rfl rfl ?_
              refine s_iload_n dX10_free_71 1 rfl rfl ?_
              refine s_iload_n dX10_free_72 3 rfl rfl ?_
              refine s_callVwV (As := [.int v1, .int x9]) mf_X10_findClear vf_X10_findClear ml_X10_265 (c_X10_findClear _ E hF s14 v1 x9) (m100 hF) k100 (by decide) rfl rfl rfl rfl (Nat.le_of_ble_eq_true rfl) rfl dX10_free_73 (fun _ s15 => ?_)
              refine s_aload_n dX10_free_76 0 rfl rfl ?_
              refine s_geti gf_X10_259 rfl (m100 hF) k100 (ft_of k100 rfl) dX10_free_77 ?_
              refine s_iconst (v := -1) dX10_free_80 (by decide) ?_
              refine s_jn1 92 (fun x16 => s15) (fun x16 => [(0, rV E 100), (1, .int v1), (2, .int v2), (3, .int x9)]) (fun x16 => [.int x16]) ?_ ?_
              · intro x16
                refine s_istore [(4, .int x16), (0, rV E 100), (1, .int v1), (2, .int v2), (3, .int x9)] dX10_free_92 (by decide) rfl ?_
                refine s_iload dX10_free_94 0 rfl ?_
                refine s_iconst (v := -1) dX10_free_96 (by decide) ?_
                refine s_icmp_eq 136 dX10_free_97 (by decide) ?_ ?_
                · skip
                  refine s_iinc [(3, .int (x9 + 1)), (4, .int x16), (0, rV E 100), (1, .int v1), (2, .int v2)] dX10_free_136 4 rfl rfl (by decide) rfl ?_
                  refine s_goto 53 dX10_free_139 (by decide) ?_
                  refine s_sub [2, 3, 4, 0] rfl ?_
                  exact ih11 s15 (x9 + 1)
                · skip
                  refine s_aload_n dX10_free_100 1 rfl rfl ?_
                  refine s_getr (b := 114) gf_X10_55 rfl (m100 hF) k100 (ft_of k100 rfl) (hF.2 _ _) rfl dX10_free_101 ?_
                  refine s_iload_n dX10_free_104 2 rfl rfl ?_
                  refine s_iald (m114 hF) k114 l114 dX10_free_105 ?_
                  refine s_iconst (v := -1) dX10_free_106 (by decide) ?_
                  refine s_jn0 s15 121 [(0, rV E 100), (1, .int v1), (2, .int v2), (3, .int x9), (4, .int x16)] [] ?_ ?_
                  · skip
                    refine s_aload_n dX10_free_121 0 rfl rfl ?_
                    refine s_getr (b := 113) gf_X10_52 rfl (m100 hF) k100 (ft_of k100 rfl) (hF.2 _ _) rfl dX10_free_122 ?_
                    refine s_iload_n dX10_free_125 1 rfl rfl ?_
                    refine s_iload_n dX10_free_126 3 rfl rfl ?_
                    refine s_iast (m113 hF) k113 l113 dX10_free_127 (fun s19 => ?_)
                    refine s_aload_n dX10_free_128 0 rfl rfl ?_
                    refine s_getr (b := 114) gf_X10_55 rfl (m100 hF) k100 (ft_of k100 rfl) (hF.2 _ _) rfl dX10_free_129 ?_
                    refine s_iload_n dX10_free_132 1 rfl rfl ?_
                    refine s_iload dX10_free_133 4 rfl ?_
                    refine s_iast (m114 hF) k114 l114 dX10_free_135 (fun s20 => ?_)
                    refine s_iinc [(3, .int (x9 + 1)), (0, rV E 100), (1, .int v1), (2, .int v2), (4, .int x16)] dX10_free_136 3 rfl rfl (by decide) rfl ?_
                    refine s_goto 53 dX10_free_139 (by decide) ?_
                    refine s_sub [1, 2, 3, 0] rfl ?_
                    exact ih11 s20 (x9 + 1)
                  · intro jk18 hjk18
                    refine s_icmp_eq 121 dX10_free_107 (by decide) ?_ ?_
                    · skip
                      refine s_sub [1, 2, 3, 4, 0] rfl ?_
                      exact hjk18
                    · skip
                      refine s_iload dX10_free_110 0 rfl ?_
                      refine s_aload_n dX10_free_112 1 rfl rfl ?_
                      refine s_getr (b := 114) gf_X10_55 rfl (m100 hF) k100 (ft_of k100 rfl) (hF.2 _ _) rfl dX10_free_113 ?_
                      refine s_iload_n dX10_free_116 2 rfl rfl ?_
                      refine s_iald (m114 hF) k114 l114 dX10_free_117 ?_
                      refine s_icmp_ge 136 dX10_free_118 (by decide) ?_ ?_
                      · skip
                        refine s_sub [1, 2, 3, 4, 0] rfl ?_
                        exact hjk18
                      · skip
                        refine s_iinc [(3, .int (x9 + 1)), (4, .int x16), (0, rV E 100), (1, .int v1), (2, .int v2)] dX10_free_136 4 rfl rfl (by decide) rfl ?_
                        refine s_goto 53 dX10_free_139 (by decide) ?_
                        refine s_sub [2, 3, 4, 0] rfl ?_
                        exact ih11 s15 (x9 + 1)
              · intro jk17 hjk17
                refine s_icmp_ne 88 dX10_free_81 (by decide) ?_ ?_
                · skip
                  refine s_iconst (v := -1) dX10_free_84 (by decide) ?_
                  refine s_goto 92 dX10_free_85 (by decide) ?_
                  exact hjk17 (-1 : Int32)
                · skip
                  refine s_aload_n dX10_free_88 0 rfl rfl ?_
                  refine s_callVpI (As := []) mf_X10_lengthFound vf_X10_lengthFound ml_X10_268 (c_X10_lengthFound _ E hF s15) (m100 hF) k100 (by decide) rfl rfl rfl rfl (Nat.le_of_ble_eq_true rfl) rfl dX10_free_89 (fun r21 => ?_)
                  exact hjk17 r21
          · skip
            refine s_sub [0, 1, 2] rfl ?_
            exact hjk4 s8
        · skip
          exact hjk4 σ
theorem dX10_joinBoth_0 : decode cX10_joinBoth 0 = .ok (.iconst 0, 1) := by decide +kernel
theorem dX10_joinBoth_1 : decode cX10_joinBoth 1 = .ok (.istore_n 1, 1) := by decide +kernel
theorem dX10_joinBoth_2 : decode cX10_joinBoth 2 = .ok (.iload_n 1, 1) := by decide +kernel
theorem dX10_joinBoth_3 : decode cX10_joinBoth 3 = .ok (.bipush 8, 2) := by decide +kernel
theorem dX10_joinBoth_5 : decode cX10_joinBoth 5 = .ok (.if_icmp .ge 88, 3) := by decide +kernel
theorem dX10_joinBoth_8 : decode cX10_joinBoth 8 = .ok (.aload_n 0, 1) := by decide +kernel
theorem dX10_joinBoth_9 : decode cX10_joinBoth 9 = .ok (.getfield 58, 3) := by decide +kernel
theorem dX10_joinBoth_12 : decode cX10_joinBoth 12 = .ok (.iload_n 1, 1) := by decide +kernel
theorem dX10_joinBoth_13 : decode cX10_joinBoth 13 = .ok (.iconst 0, 1) := by decide +kernel
theorem dX10_joinBoth_14 : decode cX10_joinBoth 14 = .ok (.iastore, 1) := by decide +kernel
theorem dX10_joinBoth_15 : decode cX10_joinBoth 15 = .ok (.iconst 0, 1) := by decide +kernel
theorem dX10_joinBoth_16 : decode cX10_joinBoth 16 = .ok (.istore_n 2, 1) := by decide +kernel
theorem dX10_joinBoth_17 : decode cX10_joinBoth 17 = .ok (.iload_n 2, 1) := by decide +kernel
theorem dX10_joinBoth_18 : decode cX10_joinBoth 18 = .ok (.bipush 8, 2) := by decide +kernel
theorem dX10_joinBoth_20 : decode cX10_joinBoth 20 = .ok (.if_icmp .ge 67, 3) := by decide +kernel
theorem dX10_joinBoth_23 : decode cX10_joinBoth 23 = .ok (.aload_n 0, 1) := by decide +kernel
theorem dX10_joinBoth_24 : decode cX10_joinBoth 24 = .ok (.getfield 13, 3) := by decide +kernel
theorem dX10_joinBoth_27 : decode cX10_joinBoth 27 = .ok (.iload_n 1, 1) := by decide +kernel
theorem dX10_joinBoth_28 : decode cX10_joinBoth 28 = .ok (.iaload, 1) := by decide +kernel
theorem dX10_joinBoth_29 : decode cX10_joinBoth 29 = .ok (.iload_n 2, 1) := by decide +kernel
theorem dX10_joinBoth_30 : decode cX10_joinBoth 30 = .ok (.ishr, 1) := by decide +kernel
theorem dX10_joinBoth_31 : decode cX10_joinBoth 31 = .ok (.iconst 1, 1) := by decide +kernel
theorem dX10_joinBoth_32 : decode cX10_joinBoth 32 = .ok (.iand, 1) := by decide +kernel
theorem dX10_joinBoth_33 : decode cX10_joinBoth 33 = .ok (.iconst 1, 1) := by decide +kernel
theorem dX10_joinBoth_34 : decode cX10_joinBoth 34 = .ok (.if_icmp .eq 17, 3) := by decide +kernel
theorem dX10_joinBoth_37 : decode cX10_joinBoth 37 = .ok (.aload_n 0, 1) := by decide +kernel
theorem dX10_joinBoth_38 : decode cX10_joinBoth 38 = .ok (.getfield 13, 3) := by decide +kernel
theorem dX10_joinBoth_41 : decode cX10_joinBoth 41 = .ok (.iload_n 2, 1) := by decide +kernel
theorem dX10_joinBoth_42 : decode cX10_joinBoth 42 = .ok (.iaload, 1) := by decide +kernel
theorem dX10_joinBoth_43 : decode cX10_joinBoth 43 = .ok (.iload_n 1, 1) := by decide +kernel
theorem dX10_joinBoth_44 : decode cX10_joinBoth 44 = .ok (.ishr, 1) := by decide +kernel
theorem dX10_joinBoth_45 : decode cX10_joinBoth 45 = .ok (.iconst 1, 1) := by decide +kernel
theorem dX10_joinBoth_46 : decode cX10_joinBoth 46 = .ok (.iand, 1) := by decide +kernel
theorem dX10_joinBoth_47 : decode cX10_joinBoth 47 = .ok (.iconst 1, 1) := by decide +kernel
theorem dX10_joinBoth_48 : decode cX10_joinBoth 48 = .ok (.if_icmp .ne 7, 3) := by decide +kernel
theorem dX10_joinBoth_51 : decode cX10_joinBoth 51 = .ok (.iconst 1, 1) := by decide +kernel
theorem dX10_joinBoth_52 : decode cX10_joinBoth 52 = .ok (.goto 4, 3) := by decide +kernel
theorem dX10_joinBoth_55 : decode cX10_joinBoth 55 = .ok (.iconst 0, 1) := by decide +kernel
theorem dX10_joinBoth_56 : decode cX10_joinBoth 56 = .ok (.istore_n 3, 1) := by decide +kernel
theorem dX10_joinBoth_57 : decode cX10_joinBoth 57 = .ok (.aload_n 0, 1) := by decide +kernel
theorem dX10_joinBoth_58 : decode cX10_joinBoth 58 = .ok (.getfield 58, 3) := by decide +kernel
theorem dX10_joinBoth_61 : decode cX10_joinBoth 61 = .ok (.iload_n 1, 1) := by decide +kernel
theorem dX10_joinBoth_62 : decode cX10_joinBoth 62 = .ok (.aload_n 0, 1) := by decide +kernel
theorem dX10_joinBoth_63 : decode cX10_joinBoth 63 = .ok (.getfield 58, 3) := by decide +kernel
theorem dX10_joinBoth_66 : decode cX10_joinBoth 66 = .ok (.iload_n 1, 1) := by decide +kernel
theorem dX10_joinBoth_67 : decode cX10_joinBoth 67 = .ok (.iaload, 1) := by decide +kernel
theorem dX10_joinBoth_68 : decode cX10_joinBoth 68 = .ok (.iload_n 3, 1) := by decide +kernel
theorem dX10_joinBoth_69 : decode cX10_joinBoth 69 = .ok (.ifCond .eq 9, 3) := by decide +kernel
theorem dX10_joinBoth_72 : decode cX10_joinBoth 72 = .ok (.iconst 1, 1) := by decide +kernel
theorem dX10_joinBoth_73 : decode cX10_joinBoth 73 = .ok (.iload_n 2, 1) := by decide +kernel
theorem dX10_joinBoth_74 : decode cX10_joinBoth 74 = .ok (.ishl, 1) := by decide +kernel
theorem dX10_joinBoth_75 : decode cX10_joinBoth 75 = .ok (.goto 4, 3) := by decide +kernel
theorem dX10_joinBoth_78 : decode cX10_joinBoth 78 = .ok (.iconst 0, 1) := by decide +kernel
theorem dX10_joinBoth_79 : decode cX10_joinBoth 79 = .ok (.ior, 1) := by decide +kernel
theorem dX10_joinBoth_80 : decode cX10_joinBoth 80 = .ok (.iastore, 1) := by decide +kernel
theorem dX10_joinBoth_81 : decode cX10_joinBoth 81 = .ok (.iinc 2 1, 3) := by decide +kernel
theorem dX10_joinBoth_84 : decode cX10_joinBoth 84 = .ok (.goto (-67), 3) := by decide +kernel
theorem dX10_joinBoth_87 : decode cX10_joinBoth 87 = .ok (.iinc 1 1, 3) := by decide +kernel
theorem dX10_joinBoth_90 : decode cX10_joinBoth 90 = .ok (.goto (-88), 3) := by decide +kernel
theorem dX10_joinBoth_93 : decode cX10_joinBoth 93 = .ok (.return_, 1) := by decide +kernel
def f_X10_joinBoth (σ : St) : Option (Unit × St) :=
  lo2 FU (fun rec3 (s1 : St) (x2 : Int32) =>
    (if x2 < (8 : Int32) then
      ck x2 8 <|
        bd (setI s1 115 x2.toNatClampNeg (0 : Int32)) fun s5 =>
          lo2 FU (fun rec8 (s6 : St) (x7 : Int32) =>
            (if x7 < (8 : Int32) then
              ck x2 8 <|
                jn1 (fun jk11 =>
                  (if (((s6.1 101 x2.toNatClampNeg) >>> (x7 &&& 31)) &&& (1 : Int32)) = (1 : Int32) then
                    jk11 (1 : Int32)
                     else
                    ck x7 8 <|
                      (if (((s6.1 101 x7.toNatClampNeg) >>> (x2 &&& 31)) &&& (1 : Int32)) = (1 : Int32) then
                        jk11 (1 : Int32)
                         else
                        jk11 (0 : Int32))))
                  (fun (x10 : Int32) => 
                  ck x2 8 <|
                      (if x10 = 0 then
                        ck x2 8 <|
                          bd (setI s6 115 x2.toNatClampNeg ((s6.1 115 x2.toNatClampNeg) ||| (0 : Int32))) fun s12 =>
                            rec8 s12 (x7 + 1)
                         else
                        ck x2 8 <|
                          bd (setI s6 115 x2.toNatClampNeg ((s6.1 115 x2.toNatClampNeg) ||| ((1 : Int32) <<< (x7 &&& 31)))) fun s13 =>
                            rec8 s13 (x7 + 1)))
               else
              rec3 s6 (x2 + 1))) s5 (0 : Int32)
       else
      some ((), s1))) σ (0 : Int32)
set_option maxHeartbeats 4000000 in
set_option maxRecDepth 100000 in
theorem c_X10_joinBoth (l : Launch) (E : Ev) (hF : Full E) (σ : St) : Ctr l (en2 enV) (fun q => q.2) E md_X10_joinBoth [rV E 100] σ (f_X10_joinBoth σ) := by
  refine ctr_of rfl (Nat.le_of_ble_eq_true rfl) (fun Γ => ?_)
  show Sim _ Γ _ E md_X10_joinBoth σ 0 [(0, rV E 100)] [] _
  unfold f_X10_joinBoth
  refine s_iconst (v := 0) dX10_joinBoth_0 (by decide) ?_
  refine s_istore_n [(1, .int (0 : Int32)), (0, rV E 100)] dX10_joinBoth_1 rfl (by decide) rfl ?_
  refine s_sub (lv' := [(0, rV E 100), (1, .int (0 : Int32))]) [1, 0] rfl ?_
  refine s_lo2 (σf := fun s1 x2 => s1) (lvf := fun s1 x2 => [(0, rV E 100), (1, .int x2)]) (fun rec3 ih4 s1 x2 => ?_)
  refine s_iload_n dX10_joinBoth_2 1 rfl rfl ?_
  refine s_bipush (v := 8) dX10_joinBoth_3 (by decide) ?_
  refine s_icmp_ge 93 dX10_joinBoth_5 (by decide) ?_ ?_
  · skip
    refine s_aload_n dX10_joinBoth_8 0 rfl rfl ?_
    refine s_getr (b := 115) gf_X10_58 rfl (m100 hF) k100 (ft_of k100 rfl) (hF.2 _ _) rfl dX10_joinBoth_9 ?_
    refine s_iload_n dX10_joinBoth_12 1 rfl rfl ?_
    refine s_iconst (v := 0) dX10_joinBoth_13 (by decide) ?_
    refine s_iast (m115 hF) k115 l115 dX10_joinBoth_14 (fun s5 => ?_)
    refine s_iconst (v := 0) dX10_joinBoth_15 (by decide) ?_
    refine s_istore_n [(2, .int (0 : Int32)), (0, rV E 100), (1, .int x2)] dX10_joinBoth_16 rfl (by decide) rfl ?_
    refine s_sub (lv' := [(0, rV E 100), (1, .int x2), (2, .int (0 : Int32))]) [1, 2, 0] rfl ?_
    refine s_lo2 (σf := fun s6 x7 => s6) (lvf := fun s6 x7 => [(0, rV E 100), (1, .int x2), (2, .int x7)]) (fun rec8 ih9 s6 x7 => ?_)
    refine s_iload_n dX10_joinBoth_17 2 rfl rfl ?_
    refine s_bipush (v := 8) dX10_joinBoth_18 (by decide) ?_
    refine s_icmp_ge 87 dX10_joinBoth_20 (by decide) ?_ ?_
    · skip
      refine s_aload_n dX10_joinBoth_23 0 rfl rfl ?_
      refine s_getr (b := 101) gf_X10_13 rfl (m100 hF) k100 (ft_of k100 rfl) (hF.2 _ _) rfl dX10_joinBoth_24 ?_
      refine s_iload_n dX10_joinBoth_27 1 rfl rfl ?_
      refine s_iald (m101 hF) k101 l101 dX10_joinBoth_28 ?_
      refine s_iload_n dX10_joinBoth_29 2 rfl rfl ?_
      refine s_ishr dX10_joinBoth_30 ?_
      refine s_iconst (v := 1) dX10_joinBoth_31 (by decide) ?_
      refine s_iand dX10_joinBoth_32 ?_
      refine s_iconst (v := 1) dX10_joinBoth_33 (by decide) ?_
      refine s_jn1 56 (fun x10 => s6) (fun x10 => [(0, rV E 100), (1, .int x2), (2, .int x7)]) (fun x10 => [.int x10]) ?_ ?_
      · intro x10
        refine s_istore_n [(3, .int x10), (0, rV E 100), (1, .int x2), (2, .int x7)] dX10_joinBoth_56 rfl (by decide) rfl ?_
        refine s_aload_n dX10_joinBoth_57 1 rfl rfl ?_
        refine s_getr (b := 115) gf_X10_58 rfl (m100 hF) k100 (ft_of k100 rfl) (hF.2 _ _) rfl dX10_joinBoth_58 ?_
        refine s_iload_n dX10_joinBoth_61 2 rfl rfl ?_
        refine s_aload_n dX10_joinBoth_62 1 rfl rfl ?_
        refine s_getr (b := 115) gf_X10_58 rfl (m100 hF) k100 (ft_of k100 rfl) (hF.2 _ _) rfl dX10_joinBoth_63 ?_
        refine s_iload_n dX10_joinBoth_66 2 rfl rfl ?_
        refine s_iald (m115 hF) k115 l115 dX10_joinBoth_67 ?_
        refine s_iload_n dX10_joinBoth_68 0 rfl rfl ?_
        refine s_if_eq 78 dX10_joinBoth_69 (by decide) ?_ ?_
        · skip
          refine s_iconst (v := 0) dX10_joinBoth_78 (by decide) ?_
          refine s_ior dX10_joinBoth_79 ?_
          refine s_iast (m115 hF) k115 l115 dX10_joinBoth_80 (fun s12 => ?_)
          refine s_iinc [(2, .int (x7 + 1)), (3, .int x10), (0, rV E 100), (1, .int x2)] dX10_joinBoth_81 3 rfl rfl (by decide) rfl ?_
          refine s_goto 17 dX10_joinBoth_84 (by decide) ?_
          refine s_sub [2, 3, 0] rfl ?_
          exact ih9 s12 (x7 + 1)
        · skip
          refine s_iconst (v := 1) dX10_joinBoth_72 (by decide) ?_
          refine s_iload_n dX10_joinBoth_73 3 rfl rfl ?_
          refine s_ishl dX10_joinBoth_74 ?_
          refine s_goto 79 dX10_joinBoth_75 (by decide) ?_
          refine s_ior dX10_joinBoth_79 ?_
          refine s_iast (m115 hF) k115 l115 dX10_joinBoth_80 (fun s13 => ?_)
          refine s_iinc [(2, .int (x7 + 1)), (3, .int x10), (0, rV E 100), (1, .int x2)] dX10_joinBoth_81 3 rfl rfl (by decide) rfl ?_
          refine s_goto 17 dX10_joinBoth_84 (by decide) ?_
          refine s_sub [2, 3, 0] rfl ?_
          exact ih9 s13 (x7 + 1)
      · intro jk11 hjk11
        refine s_icmp_eq 51 dX10_joinBoth_34 (by decide) ?_ ?_
        · skip
          refine s_iconst (v := 1) dX10_joinBoth_51 (by decide) ?_
          refine s_goto 56 dX10_joinBoth_52 (by decide) ?_
          exact hjk11 (1 : Int32)
        · skip
          refine s_aload_n dX10_joinBoth_37 0 rfl rfl ?_
          refine s_getr (b := 101) gf_X10_13 rfl (m100 hF) k100 (ft_of k100 rfl) (hF.2 _ _) rfl dX10_joinBoth_38 ?_
          refine s_iload_n dX10_joinBoth_41 2 rfl rfl ?_
          refine s_iald (m101 hF) k101 l101 dX10_joinBoth_42 ?_
          refine s_iload_n dX10_joinBoth_43 1 rfl rfl ?_
          refine s_ishr dX10_joinBoth_44 ?_
          refine s_iconst (v := 1) dX10_joinBoth_45 (by decide) ?_
          refine s_iand dX10_joinBoth_46 ?_
          refine s_iconst (v := 1) dX10_joinBoth_47 (by decide) ?_
          refine s_icmp_ne 55 dX10_joinBoth_48 (by decide) ?_ ?_
          · skip
            refine s_iconst (v := 1) dX10_joinBoth_51 (by decide) ?_
            refine s_goto 56 dX10_joinBoth_52 (by decide) ?_
            exact hjk11 (1 : Int32)
          · skip
            refine s_iconst (v := 0) dX10_joinBoth_55 (by decide) ?_
            exact hjk11 (0 : Int32)
    · skip
      refine s_iinc [(1, .int (x2 + 1)), (0, rV E 100), (2, .int x7)] dX10_joinBoth_87 1 rfl rfl (by decide) rfl ?_
      refine s_goto 2 dX10_joinBoth_90 (by decide) ?_
      refine s_sub [1, 0] rfl ?_
      exact ih4 s6 (x2 + 1)
  · skip
    exact s_return rfl rfl rfl dX10_joinBoth_93
theorem dX10_costOf_0 : decode cX10_costOf 0 = .ok (.iload_n 1, 1) := by decide +kernel
theorem dX10_costOf_1 : decode cX10_costOf 1 = .ok (.ifCond .ne 70, 3) := by decide +kernel
theorem dX10_costOf_4 : decode cX10_costOf 4 = .ok (.iload_n 2, 1) := by decide +kernel
theorem dX10_costOf_5 : decode cX10_costOf 5 = .ok (.iconst 1, 1) := by decide +kernel
theorem dX10_costOf_6 : decode cX10_costOf 6 = .ok (.iload_n 3, 1) := by decide +kernel
theorem dX10_costOf_7 : decode cX10_costOf 7 = .ok (.ishl, 1) := by decide +kernel
theorem dX10_costOf_8 : decode cX10_costOf 8 = .ok (.ior, 1) := by decide +kernel
theorem dX10_costOf_9 : decode cX10_costOf 9 = .ok (.istore 4, 2) := by decide +kernel
theorem dX10_costOf_11 : decode cX10_costOf 11 = .ok (.iconst 0, 1) := by decide +kernel
theorem dX10_costOf_12 : decode cX10_costOf 12 = .ok (.istore 5, 2) := by decide +kernel
theorem dX10_costOf_14 : decode cX10_costOf 14 = .ok (.iconst 0, 1) := by decide +kernel
theorem dX10_costOf_15 : decode cX10_costOf 15 = .ok (.istore 6, 2) := by decide +kernel
theorem dX10_costOf_17 : decode cX10_costOf 17 = .ok (.iload 6, 2) := by decide +kernel
theorem dX10_costOf_19 : decode cX10_costOf 19 = .ok (.aload_n 0, 1) := by decide +kernel
theorem dX10_costOf_20 : decode cX10_costOf 20 = .ok (.getfield 7, 3) := by decide +kernel
theorem dX10_costOf_23 : decode cX10_costOf 23 = .ok (.if_icmp .ge 45, 3) := by decide +kernel
theorem dX10_costOf_26 : decode cX10_costOf 26 = .ok (.iload 5, 2) := by decide +kernel
theorem dX10_costOf_28 : decode cX10_costOf 28 = .ok (.iload 4, 2) := by decide +kernel
theorem dX10_costOf_30 : decode cX10_costOf 30 = .ok (.iload 6, 2) := by decide +kernel
theorem dX10_costOf_32 : decode cX10_costOf 32 = .ok (.ishr, 1) := by decide +kernel
theorem dX10_costOf_33 : decode cX10_costOf 33 = .ok (.iconst 1, 1) := by decide +kernel
theorem dX10_costOf_34 : decode cX10_costOf 34 = .ok (.iand, 1) := by decide +kernel
theorem dX10_costOf_35 : decode cX10_costOf 35 = .ok (.iconst 1, 1) := by decide +kernel
theorem dX10_costOf_36 : decode cX10_costOf 36 = .ok (.if_icmp .ne 22, 3) := by decide +kernel
theorem dX10_costOf_39 : decode cX10_costOf 39 = .ok (.aload_n 0, 1) := by decide +kernel
theorem dX10_costOf_40 : decode cX10_costOf 40 = .ok (.getfield 58, 3) := by decide +kernel
theorem dX10_costOf_43 : decode cX10_costOf 43 = .ok (.iload 6, 2) := by decide +kernel
theorem dX10_costOf_45 : decode cX10_costOf 45 = .ok (.iaload, 1) := by decide +kernel
theorem dX10_costOf_46 : decode cX10_costOf 46 = .ok (.iload 4, 2) := by decide +kernel
theorem dX10_costOf_48 : decode cX10_costOf 48 = .ok (.iconst (-1), 1) := by decide +kernel
theorem dX10_costOf_49 : decode cX10_costOf 49 = .ok (.ixor, 1) := by decide +kernel
theorem dX10_costOf_50 : decode cX10_costOf 50 = .ok (.iand, 1) := by decide +kernel
theorem dX10_costOf_51 : decode cX10_costOf 51 = .ok (.ifCond .eq 7, 3) := by decide +kernel
theorem dX10_costOf_54 : decode cX10_costOf 54 = .ok (.iconst 1, 1) := by decide +kernel
theorem dX10_costOf_55 : decode cX10_costOf 55 = .ok (.goto 4, 3) := by decide +kernel
theorem dX10_costOf_58 : decode cX10_costOf 58 = .ok (.iconst 0, 1) := by decide +kernel
theorem dX10_costOf_59 : decode cX10_costOf 59 = .ok (.iadd, 1) := by decide +kernel
theorem dX10_costOf_60 : decode cX10_costOf 60 = .ok (.istore 5, 2) := by decide +kernel
theorem dX10_costOf_62 : decode cX10_costOf 62 = .ok (.iinc 6 1, 3) := by decide +kernel
theorem dX10_costOf_65 : decode cX10_costOf 65 = .ok (.goto (-48), 3) := by decide +kernel
theorem dX10_costOf_68 : decode cX10_costOf 68 = .ok (.iload 5, 2) := by decide +kernel
theorem dX10_costOf_70 : decode cX10_costOf 70 = .ok (.ireturn, 1) := by decide +kernel
theorem dX10_costOf_71 : decode cX10_costOf 71 = .ok (.aload_n 0, 1) := by decide +kernel
theorem dX10_costOf_72 : decode cX10_costOf 72 = .ok (.getfield 58, 3) := by decide +kernel
theorem dX10_costOf_75 : decode cX10_costOf 75 = .ok (.iload_n 3, 1) := by decide +kernel
theorem dX10_costOf_76 : decode cX10_costOf 76 = .ok (.iaload, 1) := by decide +kernel
theorem dX10_costOf_77 : decode cX10_costOf 77 = .ok (.istore 4, 2) := by decide +kernel
theorem dX10_costOf_79 : decode cX10_costOf 79 = .ok (.iconst 0, 1) := by decide +kernel
theorem dX10_costOf_80 : decode cX10_costOf 80 = .ok (.istore 5, 2) := by decide +kernel
theorem dX10_costOf_82 : decode cX10_costOf 82 = .ok (.iload 5, 2) := by decide +kernel
theorem dX10_costOf_84 : decode cX10_costOf 84 = .ok (.bipush 8, 2) := by decide +kernel
theorem dX10_costOf_86 : decode cX10_costOf 86 = .ok (.if_icmp .ge 49, 3) := by decide +kernel
theorem dX10_costOf_89 : decode cX10_costOf 89 = .ok (.iconst 0, 1) := by decide +kernel
theorem dX10_costOf_90 : decode cX10_costOf 90 = .ok (.istore 6, 2) := by decide +kernel
theorem dX10_costOf_92 : decode cX10_costOf 92 = .ok (.iload 6, 2) := by decide +kernel
theorem dX10_costOf_94 : decode cX10_costOf 94 = .ok (.aload_n 0, 1) := by decide +kernel
theorem dX10_costOf_95 : decode cX10_costOf 95 = .ok (.getfield 7, 3) := by decide +kernel
theorem dX10_costOf_98 : decode cX10_costOf 98 = .ok (.if_icmp .ge 31, 3) := by decide +kernel
theorem dX10_costOf_101 : decode cX10_costOf 101 = .ok (.iload 4, 2) := by decide +kernel
theorem dX10_costOf_103 : decode cX10_costOf 103 = .ok (.iload 4, 2) := by decide +kernel
theorem dX10_costOf_105 : decode cX10_costOf 105 = .ok (.iload_n 2, 1) := by decide +kernel
theorem dX10_costOf_106 : decode cX10_costOf 106 = .ok (.iand, 1) := by decide +kernel
theorem dX10_costOf_107 : decode cX10_costOf 107 = .ok (.iload 6, 2) := by decide +kernel
theorem dX10_costOf_109 : decode cX10_costOf 109 = .ok (.ishr, 1) := by decide +kernel
theorem dX10_costOf_110 : decode cX10_costOf 110 = .ok (.iconst 1, 1) := by decide +kernel
theorem dX10_costOf_111 : decode cX10_costOf 111 = .ok (.iand, 1) := by decide +kernel
theorem dX10_costOf_112 : decode cX10_costOf 112 = .ok (.aload_n 0, 1) := by decide +kernel
theorem dX10_costOf_113 : decode cX10_costOf 113 = .ok (.getfield 58, 3) := by decide +kernel
theorem dX10_costOf_116 : decode cX10_costOf 116 = .ok (.iload 6, 2) := by decide +kernel
theorem dX10_costOf_118 : decode cX10_costOf 118 = .ok (.iaload, 1) := by decide +kernel
theorem dX10_costOf_119 : decode cX10_costOf 119 = .ok (.imul, 1) := by decide +kernel
theorem dX10_costOf_120 : decode cX10_costOf 120 = .ok (.ior, 1) := by decide +kernel
theorem dX10_costOf_121 : decode cX10_costOf 121 = .ok (.istore 4, 2) := by decide +kernel
theorem dX10_costOf_123 : decode cX10_costOf 123 = .ok (.iinc 6 1, 3) := by decide +kernel
theorem dX10_costOf_126 : decode cX10_costOf 126 = .ok (.goto (-34), 3) := by decide +kernel
theorem dX10_costOf_129 : decode cX10_costOf 129 = .ok (.iinc 5 1, 3) := by decide +kernel
theorem dX10_costOf_132 : decode cX10_costOf 132 = .ok (.goto (-50), 3) := by decide +kernel
theorem dX10_costOf_135 : decode cX10_costOf 135 = .ok (.iload 4, 2) := by decide +kernel
theorem dX10_costOf_137 : decode cX10_costOf 137 = .ok (.iload_n 2, 1) := by decide +kernel
theorem dX10_costOf_138 : decode cX10_costOf 138 = .ok (.iconst (-1), 1) := by decide +kernel
theorem dX10_costOf_139 : decode cX10_costOf 139 = .ok (.ixor, 1) := by decide +kernel
theorem dX10_costOf_140 : decode cX10_costOf 140 = .ok (.iand, 1) := by decide +kernel
theorem dX10_costOf_141 : decode cX10_costOf 141 = .ok (.iconst 1, 1) := by decide +kernel
theorem dX10_costOf_142 : decode cX10_costOf 142 = .ok (.iload_n 3, 1) := by decide +kernel
theorem dX10_costOf_143 : decode cX10_costOf 143 = .ok (.ishl, 1) := by decide +kernel
theorem dX10_costOf_144 : decode cX10_costOf 144 = .ok (.iconst (-1), 1) := by decide +kernel
theorem dX10_costOf_145 : decode cX10_costOf 145 = .ok (.ixor, 1) := by decide +kernel
theorem dX10_costOf_146 : decode cX10_costOf 146 = .ok (.iand, 1) := by decide +kernel
theorem dX10_costOf_147 : decode cX10_costOf 147 = .ok (.invokestatic 272, 3) := by decide +kernel
theorem dX10_costOf_150 : decode cX10_costOf 150 = .ok (.ireturn, 1) := by decide +kernel
def f_X10_costOf (σ : St) (v1 : Int32) (v2 : Int32) (v3 : Int32) : Option Int32 :=
  (if v1 = 0 then
    bd (v2 ||| ((1 : Int32) <<< (v3 &&& 31))) fun x1 =>
      lo2 FU (fun rec4 (x2 : Int32) (x3 : Int32) =>
        (if x3 < (σ.1 100 0) then
          (if ((x1 >>> (x3 &&& 31)) &&& (1 : Int32)) = (1 : Int32) then
            ck x3 8 <|
              (if ((σ.1 115 x3.toNatClampNeg) &&& (x1 ^^^ (-1 : Int32))) = 0 then
                bd (x2 + (0 : Int32)) fun x6 =>
                  rec4 x6 (x3 + 1)
                 else
                bd (x2 + (1 : Int32)) fun x7 =>
                  rec4 x7 (x3 + 1))
             else
            bd (x2 + (0 : Int32)) fun x8 =>
              rec4 x8 (x3 + 1))
           else
          some x2)) (0 : Int32) (0 : Int32)
     else
    ck v3 8 <|
      bd (σ.1 115 v3.toNatClampNeg) fun x9 =>
        lo2 FU (fun rec12 (x10 : Int32) (x11 : Int32) =>
          (if x11 < (8 : Int32) then
            lo2 FU (fun rec16 (x14 : Int32) (x15 : Int32) =>
              (if x15 < (σ.1 100 0) then
                ck x15 8 <|
                  bd (x14 ||| ((((x14 &&& v2) >>> (x15 &&& 31)) &&& (1 : Int32)) * (σ.1 115 x15.toNatClampNeg))) fun x18 =>
                    rec16 x18 (x15 + 1)
                 else
                rec12 x14 (x11 + 1))) x10 (0 : Int32)
             else
            calP (f_X10_bits σ ((x10 &&& (v2 ^^^ (-1 : Int32))) &&& (((1 : Int32) <<< (v3 &&& 31)) ^^^ (-1 : Int32)))) fun r19 =>
              some r19)) x9 (0 : Int32))
set_option maxHeartbeats 4000000 in
set_option maxRecDepth 100000 in
theorem c_X10_costOf (l : Launch) (E : Ev) (hF : Full E) (σ : St) (v1 : Int32) (v2 : Int32) (v3 : Int32) : Ctr l enI (fun _ => σ) E md_X10_costOf [rV E 100, .int v1, .int v2, .int v3] σ (f_X10_costOf σ v1 v2 v3) := by
  refine ctr_of rfl (Nat.le_of_ble_eq_true rfl) (fun Γ => ?_)
  show Sim _ Γ _ E md_X10_costOf σ 0 [(0, rV E 100), (1, .int v1), (2, .int v2), (3, .int v3)] [] _
  unfold f_X10_costOf
  refine s_iload_n dX10_costOf_0 1 rfl rfl ?_
  refine s_if_ne 71 dX10_costOf_1 (by decide) ?_ ?_
  · skip
    refine s_iload_n dX10_costOf_4 2 rfl rfl ?_
    refine s_iconst (v := 1) dX10_costOf_5 (by decide) ?_
    refine s_iload_n dX10_costOf_6 3 rfl rfl ?_
    refine s_ishl dX10_costOf_7 ?_
    refine s_ior dX10_costOf_8 ?_
    refine s_istoreB (fun x1 => [(4, .int x1), (0, rV E 100), (1, .int v1), (2, .int v2), (3, .int v3)]) dX10_costOf_9 (by decide) (fun _ => rfl) (fun x1 => ?_)
    refine s_iconst (v := 0) dX10_costOf_11 (by decide) ?_
    refine s_istore [(5, .int (0 : Int32)), (4, .int x1), (0, rV E 100), (1, .int v1), (2, .int v2), (3, .int v3)] dX10_costOf_12 (by decide) rfl ?_
    refine s_iconst (v := 0) dX10_costOf_14 (by decide) ?_
    refine s_istore [(6, .int (0 : Int32)), (5, .int (0 : Int32)), (4, .int x1), (0, rV E 100), (1, .int v1), (2, .int v2), (3, .int v3)] dX10_costOf_15 (by decide) rfl ?_
    refine s_sub (lv' := [(0, rV E 100), (4, .int x1), (5, .int (0 : Int32)), (6, .int (0 : Int32))]) [3, 2, 1, 0] rfl ?_
    refine s_lo2 (σf := fun x2 x3 => σ) (lvf := fun x2 x3 => [(0, rV E 100), (4, .int x1), (5, .int x2), (6, .int x3)]) (fun rec4 ih5 x2 x3 => ?_)
    refine s_iload dX10_costOf_17 3 rfl ?_
    refine s_aload_n dX10_costOf_19 0 rfl rfl ?_
    refine s_geti gf_X10_7 rfl (m100 hF) k100 (ft_of k100 rfl) dX10_costOf_20 ?_
    refine s_icmp_ge 68 dX10_costOf_23 (by decide) ?_ ?_
    · skip
      refine s_iload dX10_costOf_26 2 rfl ?_
      refine s_iload dX10_costOf_28 1 rfl ?_
      refine s_iload dX10_costOf_30 3 rfl ?_
      refine s_ishr dX10_costOf_32 ?_
      refine s_iconst (v := 1) dX10_costOf_33 (by decide) ?_
      refine s_iand dX10_costOf_34 ?_
      refine s_iconst (v := 1) dX10_costOf_35 (by decide) ?_
      refine s_icmp_ne 58 dX10_costOf_36 (by decide) ?_ ?_
      · skip
        refine s_aload_n dX10_costOf_39 0 rfl rfl ?_
        refine s_getr (b := 115) gf_X10_58 rfl (m100 hF) k100 (ft_of k100 rfl) (hF.2 _ _) rfl dX10_costOf_40 ?_
        refine s_iload dX10_costOf_43 3 rfl ?_
        refine s_iald (m115 hF) k115 l115 dX10_costOf_45 ?_
        refine s_iload dX10_costOf_46 1 rfl ?_
        refine s_iconst (v := -1) dX10_costOf_48 (by decide) ?_
        refine s_ixor dX10_costOf_49 ?_
        refine s_iand dX10_costOf_50 ?_
        refine s_if_eq 58 dX10_costOf_51 (by decide) ?_ ?_
        · skip
          refine s_iconst (v := 0) dX10_costOf_58 (by decide) ?_
          refine s_iadd dX10_costOf_59 ?_
          refine s_istoreB (fun x6 => [(5, .int x6), (0, rV E 100), (4, .int x1), (6, .int x3)]) dX10_costOf_60 (by decide) (fun _ => rfl) (fun x6 => ?_)
          refine s_iinc [(6, .int (x3 + 1)), (5, .int x6), (0, rV E 100), (4, .int x1)] dX10_costOf_62 3 rfl rfl (by decide) rfl ?_
          refine s_goto 17 dX10_costOf_65 (by decide) ?_
          refine s_sub [2, 3, 1, 0] rfl ?_
          exact ih5 x6 (x3 + 1)
        · skip
          refine s_iconst (v := 1) dX10_costOf_54 (by decide) ?_
          refine s_goto 59 dX10_costOf_55 (by decide) ?_
          refine s_iadd dX10_costOf_59 ?_
          refine s_istoreB (fun x7 => [(5, .int x7), (0, rV E 100), (4, .int x1), (6, .int x3)]) dX10_costOf_60 (by decide) (fun _ => rfl) (fun x7 => ?_)
          refine s_iinc [(6, .int (x3 + 1)), (5, .int x7), (0, rV E 100), (4, .int x1)] dX10_costOf_62 3 rfl rfl (by decide) rfl ?_
          refine s_goto 17 dX10_costOf_65 (by decide) ?_
          refine s_sub [2, 3, 1, 0] rfl ?_
          exact ih5 x7 (x3 + 1)
      · skip
        refine s_iconst (v := 0) dX10_costOf_58 (by decide) ?_
        refine s_iadd dX10_costOf_59 ?_
        refine s_istoreB (fun x8 => [(5, .int x8), (0, rV E 100), (4, .int x1), (6, .int x3)]) dX10_costOf_60 (by decide) (fun _ => rfl) (fun x8 => ?_)
        refine s_iinc [(6, .int (x3 + 1)), (5, .int x8), (0, rV E 100), (4, .int x1)] dX10_costOf_62 3 rfl rfl (by decide) rfl ?_
        refine s_goto 17 dX10_costOf_65 (by decide) ?_
        refine s_sub [2, 3, 1, 0] rfl ?_
        exact ih5 x8 (x3 + 1)
    · skip
      refine s_iload dX10_costOf_68 2 rfl ?_
      exact s_ireturn rfl rfl rfl dX10_costOf_70
  · skip
    refine s_aload_n dX10_costOf_71 0 rfl rfl ?_
    refine s_getr (b := 115) gf_X10_58 rfl (m100 hF) k100 (ft_of k100 rfl) (hF.2 _ _) rfl dX10_costOf_72 ?_
    refine s_iload_n dX10_costOf_75 3 rfl rfl ?_
    refine s_iald (m115 hF) k115 l115 dX10_costOf_76 ?_
    refine s_istoreB (fun x9 => [(4, .int x9), (0, rV E 100), (1, .int v1), (2, .int v2), (3, .int v3)]) dX10_costOf_77 (by decide) (fun _ => rfl) (fun x9 => ?_)
    refine s_iconst (v := 0) dX10_costOf_79 (by decide) ?_
    refine s_istore [(5, .int (0 : Int32)), (4, .int x9), (0, rV E 100), (1, .int v1), (2, .int v2), (3, .int v3)] dX10_costOf_80 (by decide) rfl ?_
    refine s_sub (lv' := [(0, rV E 100), (2, .int v2), (3, .int v3), (4, .int x9), (5, .int (0 : Int32))]) [2, 4, 5, 1, 0] rfl ?_
    refine s_lo2 (σf := fun x10 x11 => σ) (lvf := fun x10 x11 => [(0, rV E 100), (2, .int v2), (3, .int v3), (4, .int x10), (5, .int x11)]) (fun rec12 ih13 x10 x11 => ?_)
    refine s_iload dX10_costOf_82 4 rfl ?_
    refine s_bipush (v := 8) dX10_costOf_84 (by decide) ?_
    refine s_icmp_ge 135 dX10_costOf_86 (by decide) ?_ ?_
    · skip
      refine s_iconst (v := 0) dX10_costOf_89 (by decide) ?_
      refine s_istore [(6, .int (0 : Int32)), (0, rV E 100), (2, .int v2), (3, .int v3), (4, .int x10), (5, .int x11)] dX10_costOf_90 (by decide) rfl ?_
      refine s_sub (lv' := [(0, rV E 100), (2, .int v2), (3, .int v3), (4, .int x10), (5, .int x11), (6, .int (0 : Int32))]) [1, 2, 3, 4, 5, 0] rfl ?_
      refine s_lo2 (σf := fun x14 x15 => σ) (lvf := fun x14 x15 => [(0, rV E 100), (2, .int v2), (3, .int v3), (4, .int x14), (5, .int x11), (6, .int x15)]) (fun rec16 ih17 x14 x15 => ?_)
      refine s_iload dX10_costOf_92 5 rfl ?_
      refine s_aload_n dX10_costOf_94 0 rfl rfl ?_
      refine s_geti gf_X10_7 rfl (m100 hF) k100 (ft_of k100 rfl) dX10_costOf_95 ?_
      refine s_icmp_ge 129 dX10_costOf_98 (by decide) ?_ ?_
      · skip
        refine s_iload dX10_costOf_101 3 rfl ?_
        refine s_iload dX10_costOf_103 3 rfl ?_
        refine s_iload_n dX10_costOf_105 1 rfl rfl ?_
        refine s_iand dX10_costOf_106 ?_
        refine s_iload dX10_costOf_107 5 rfl ?_
        refine s_ishr dX10_costOf_109 ?_
        refine s_iconst (v := 1) dX10_costOf_110 (by decide) ?_
        refine s_iand dX10_costOf_111 ?_
        refine s_aload_n dX10_costOf_112 0 rfl rfl ?_
        refine s_getr (b := 115) gf_X10_58 rfl (m100 hF) k100 (ft_of k100 rfl) (hF.2 _ _) rfl dX10_costOf_113 ?_
        refine s_iload dX10_costOf_116 5 rfl ?_
        refine s_iald (m115 hF) k115 l115 dX10_costOf_118 ?_
        refine s_imul dX10_costOf_119 ?_
        refine s_ior dX10_costOf_120 ?_
        refine s_istoreB (fun x18 => [(4, .int x18), (0, rV E 100), (2, .int v2), (3, .int v3), (5, .int x11), (6, .int x15)]) dX10_costOf_121 (by decide) (fun _ => rfl) (fun x18 => ?_)
        refine s_iinc [(6, .int (x15 + 1)), (4, .int x18), (0, rV E 100), (2, .int v2), (3, .int v3), (5, .int x11)] dX10_costOf_123 5 rfl rfl (by decide) rfl ?_
        refine s_goto 92 dX10_costOf_126 (by decide) ?_
        refine s_sub [2, 3, 4, 1, 5, 0] rfl ?_
        exact ih17 x18 (x15 + 1)
      · skip
        refine s_iinc [(5, .int (x11 + 1)), (0, rV E 100), (2, .int v2), (3, .int v3), (4, .int x14), (6, .int x15)] dX10_costOf_129 4 rfl rfl (by decide) rfl ?_
        refine s_goto 82 dX10_costOf_132 (by decide) ?_
        refine s_sub [1, 2, 3, 4, 0] rfl ?_
        exact ih13 x14 (x11 + 1)
    · skip
      refine s_iload dX10_costOf_135 3 rfl ?_
      refine s_iload_n dX10_costOf_137 1 rfl rfl ?_
      refine s_iconst (v := -1) dX10_costOf_138 (by decide) ?_
      refine s_ixor dX10_costOf_139 ?_
      refine s_iand dX10_costOf_140 ?_
      refine s_iconst (v := 1) dX10_costOf_141 (by decide) ?_
      refine s_iload_n dX10_costOf_142 2 rfl rfl ?_
      refine s_ishl dX10_costOf_143 ?_
      refine s_iconst (v := -1) dX10_costOf_144 (by decide) ?_
      refine s_ixor dX10_costOf_145 ?_
      refine s_iand dX10_costOf_146 ?_
      refine s_callSpI (As := [.int ((x10 &&& (v2 ^^^ (-1 : Int32))) &&& (((1 : Int32) <<< (v3 &&& 31)) ^^^ (-1 : Int32)))]) mf_X10_bits vf_X10_bits ml_X10_272 (c_X10_bits _ E hF σ ((x10 &&& (v2 ^^^ (-1 : Int32))) &&& (((1 : Int32) <<< (v3 &&& 31)) ^^^ (-1 : Int32)))) rfl rfl (Nat.le_of_ble_eq_true rfl) rfl dX10_costOf_147 (fun r19 => ?_)
      exact s_ireturn rfl rfl rfl dX10_costOf_150
theorem dX10_lesser_0 : decode cX10_lesser 0 = .ok (.iload_n 1, 1) := by decide +kernel
theorem dX10_lesser_1 : decode cX10_lesser 1 = .ok (.iload_n 2, 1) := by decide +kernel
theorem dX10_lesser_2 : decode cX10_lesser 2 = .ok (.if_icmp .ge 7, 3) := by decide +kernel
theorem dX10_lesser_5 : decode cX10_lesser 5 = .ok (.iload_n 1, 1) := by decide +kernel
theorem dX10_lesser_6 : decode cX10_lesser 6 = .ok (.goto 4, 3) := by decide +kernel
theorem dX10_lesser_9 : decode cX10_lesser 9 = .ok (.iload_n 2, 1) := by decide +kernel
theorem dX10_lesser_10 : decode cX10_lesser 10 = .ok (.ireturn, 1) := by decide +kernel
def f_X10_lesser (σ : St) (v1 : Int32) (v2 : Int32) : Option Int32 :=
  (if v1 < v2 then
    some v1
     else
    some v2)
set_option maxHeartbeats 4000000 in
set_option maxRecDepth 100000 in
theorem c_X10_lesser (l : Launch) (E : Ev) (hF : Full E) (σ : St) (v1 : Int32) (v2 : Int32) : Ctr l enI (fun _ => σ) E md_X10_lesser [rV E 100, .int v1, .int v2] σ (f_X10_lesser σ v1 v2) := by
  refine ctr_of rfl (Nat.le_of_ble_eq_true rfl) (fun Γ => ?_)
  show Sim _ Γ _ E md_X10_lesser σ 0 [(0, rV E 100), (1, .int v1), (2, .int v2)] [] _
  unfold f_X10_lesser
  refine s_iload_n dX10_lesser_0 1 rfl rfl ?_
  refine s_iload_n dX10_lesser_1 2 rfl rfl ?_
  refine s_icmp_ge 9 dX10_lesser_2 (by decide) ?_ ?_
  · skip
    refine s_iload_n dX10_lesser_5 1 rfl rfl ?_
    refine s_goto 10 dX10_lesser_6 (by decide) ?_
    exact s_ireturn rfl rfl rfl dX10_lesser_10
  · skip
    refine s_iload_n dX10_lesser_9 2 rfl rfl ?_
    exact s_ireturn rfl rfl rfl dX10_lesser_10
theorem dX10_greater_0 : decode cX10_greater 0 = .ok (.iload_n 1, 1) := by decide +kernel
theorem dX10_greater_1 : decode cX10_greater 1 = .ok (.iload_n 2, 1) := by decide +kernel
theorem dX10_greater_2 : decode cX10_greater 2 = .ok (.if_icmp .le 7, 3) := by decide +kernel
theorem dX10_greater_5 : decode cX10_greater 5 = .ok (.iload_n 1, 1) := by decide +kernel
theorem dX10_greater_6 : decode cX10_greater 6 = .ok (.goto 4, 3) := by decide +kernel
theorem dX10_greater_9 : decode cX10_greater 9 = .ok (.iload_n 2, 1) := by decide +kernel
theorem dX10_greater_10 : decode cX10_greater 10 = .ok (.ireturn, 1) := by decide +kernel
def f_X10_greater (σ : St) (v1 : Int32) (v2 : Int32) : Option Int32 :=
  (if v2 < v1 then
    some v1
     else
    some v2)
set_option maxHeartbeats 4000000 in
set_option maxRecDepth 100000 in
theorem c_X10_greater (l : Launch) (E : Ev) (hF : Full E) (σ : St) (v1 : Int32) (v2 : Int32) : Ctr l enI (fun _ => σ) E md_X10_greater [rV E 100, .int v1, .int v2] σ (f_X10_greater σ v1 v2) := by
  refine ctr_of rfl (Nat.le_of_ble_eq_true rfl) (fun Γ => ?_)
  show Sim _ Γ _ E md_X10_greater σ 0 [(0, rV E 100), (1, .int v1), (2, .int v2)] [] _
  unfold f_X10_greater
  refine s_iload_n dX10_greater_0 1 rfl rfl ?_
  refine s_iload_n dX10_greater_1 2 rfl rfl ?_
  refine s_icmp_le 9 dX10_greater_2 (by decide) ?_ ?_
  · skip
    refine s_iload_n dX10_greater_5 1 rfl rfl ?_
    refine s_goto 10 dX10_greater_6 (by decide) ?_
    exact s_ireturn rfl rfl rfl dX10_greater_10
  · skip
    refine s_iload_n dX10_greater_9 2 rfl rfl ?_
    exact s_ireturn rfl rfl rfl dX10_greater_10
theorem dX10_findRest_0 : decode cX10_findRest 0 = .ok (.aload_n 0, 1) := by decide +kernel
theorem dX10_findRest_1 : decode cX10_findRest 1 = .ok (.invokevirtual 275, 3) := by decide +kernel
theorem dX10_findRest_4 : decode cX10_findRest 4 = .ok (.iconst 1, 1) := by decide +kernel
theorem dX10_findRest_5 : decode cX10_findRest 5 = .ok (.aload_n 0, 1) := by decide +kernel
theorem dX10_findRest_6 : decode cX10_findRest 6 = .ok (.getfield 7, 3) := by decide +kernel
theorem dX10_findRest_9 : decode cX10_findRest 9 = .ok (.ishl, 1) := by decide +kernel
theorem dX10_findRest_10 : decode cX10_findRest 10 = .ok (.iconst 1, 1) := by decide +kernel
theorem dX10_findRest_11 : decode cX10_findRest 11 = .ok (.isub, 1) := by decide +kernel
theorem dX10_findRest_12 : decode cX10_findRest 12 = .ok (.istore_n 2, 1) := by decide +kernel
theorem dX10_findRest_13 : decode cX10_findRest 13 = .ok (.aload_n 0, 1) := by decide +kernel
theorem dX10_findRest_14 : decode cX10_findRest 14 = .ok (.getfield 61, 3) := by decide +kernel
theorem dX10_findRest_17 : decode cX10_findRest 17 = .ok (.iload_n 2, 1) := by decide +kernel
theorem dX10_findRest_18 : decode cX10_findRest 18 = .ok (.iconst 0, 1) := by decide +kernel
theorem dX10_findRest_19 : decode cX10_findRest 19 = .ok (.iastore, 1) := by decide +kernel
theorem dX10_findRest_20 : decode cX10_findRest 20 = .ok (.iload_n 2, 1) := by decide +kernel
theorem dX10_findRest_21 : decode cX10_findRest 21 = .ok (.istore_n 3, 1) := by decide +kernel
theorem dX10_findRest_22 : decode cX10_findRest 22 = .ok (.iload_n 3, 1) := by decide +kernel
theorem dX10_findRest_23 : decode cX10_findRest 23 = .ok (.ifCond .lt 116, 3) := by decide +kernel
theorem dX10_findRest_26 : decode cX10_findRest 26 = .ok (.aload_n 0, 1) := by decide +kernel
theorem dX10_findRest_27 : decode cX10_findRest 27 = .ok (.getfield 61, 3) := by decide +kernel
theorem dX10_findRest_30 : decode cX10_findRest 30 = .ok (.iload_n 3, 1) := by decide +kernel
theorem dX10_findRest_31 : decode cX10_findRest 31 = .ok (.iload_n 3, 1) := by decide +kernel
theorem dX10_findRest_32 : decode cX10_findRest 32 = .ok (.iload_n 2, 1) := by decide +kernel
theorem dX10_findRest_33 : decode cX10_findRest 33 = .ok (.if_icmp .ne 7, 3) := by decide +kernel
theorem dX10_findRest_36 : decode cX10_findRest 36 = .ok (.iconst 0, 1) := by decide +kernel
theorem dX10_findRest_37 : decode cX10_findRest 37 = .ok (.goto 5, 3) := by decide +kernel
theorem dX10_findRest_40 : decode cX10_findRest 40 = .ok (.bipush 100, 2) := by decide +kernel
theorem dX10_findRest_42 : decode cX10_findRest 42 = .ok (.iastore, 1) := by decide +kernel
theorem dX10_findRest_43 : decode cX10_findRest 43 = .ok (.iconst 0, 1) := by decide +kernel
theorem dX10_findRest_44 : decode cX10_findRest 44 = .ok (.istore 4, 2) := by decide +kernel
theorem dX10_findRest_46 : decode cX10_findRest 46 = .ok (.iload 4, 2) := by decide +kernel
theorem dX10_findRest_48 : decode cX10_findRest 48 = .ok (.aload_n 0, 1) := by decide +kernel
theorem dX10_findRest_49 : decode cX10_findRest 49 = .ok (.getfield 7, 3) := by decide +kernel
theorem dX10_findRest_52 : decode cX10_findRest 52 = .ok (.if_icmp .ge 81, 3) := by decide +kernel
theorem dX10_findRest_55 : decode cX10_findRest 55 = .ok (.iload_n 3, 1) := by decide +kernel
theorem dX10_findRest_56 : decode cX10_findRest 56 = .ok (.iload 4, 2) := by decide +kernel
theorem dX10_findRest_58 : decode cX10_findRest 58 = .ok (.ishr, 1) := by decide +kernel
theorem dX10_findRest_59 : decode cX10_findRest 59 = .ok (.iconst 1, 1) := by decide +kernel
theorem dX10_findRest_60 : decode cX10_findRest 60 = .ok (.iand, 1) := by decide +kernel
theorem dX10_findRest_61 : decode cX10_findRest 61 = .ok (.ifCond .ne 66, 3) := by decide +kernel
theorem dX10_findRest_64 : decode cX10_findRest 64 = .ok (.aload_n 0, 1) := by decide +kernel
theorem dX10_findRest_65 : decode cX10_findRest 65 = .ok (.getfield 64, 3) := by decide +kernel
theorem dX10_findRest_68 : decode cX10_findRest 68 = .ok (.bipush 8, 2) := by decide +kernel
theorem dX10_findRest_70 : decode cX10_findRest 70 = .ok (.iload_n 3, 1) := by decide +kernel
theorem dX10_findRest_71 : decode cX10_findRest 71 = .ok (.imul, 1) := by decide +kernel
theorem dX10_findRest_72 : decode cX10_findRest 72 = .ok (.iload 4, 2) := by decide +kernel
theorem dX10_findRest_74 : decode cX10_findRest 74 = .ok (.iadd, 1) := by decide +kernel
theorem dX10_findRest_75 : decode cX10_findRest 75 = .ok (.aload_n 0, 1) := by decide +kernel
theorem dX10_findRest_76 : decode cX10_findRest 76 = .ok (.iload_n 1, 1) := by decide +kernel
theorem dX10_findRest_77 : decode cX10_findRest 77 = .ok (.iload_n 3, 1) := by decide +kernel
theorem dX10_findRest_78 : decode cX10_findRest 78 = .ok (.iload 4, 2) := by decide +kernel
theorem dX10_findRest_80 : decode cX10_findRest 80 = .ok (.invokevirtual 278, 3) := by decide +kernel
theorem dX10_findRest_83 : decode cX10_findRest 83 = .ok (.iastore, 1) := by decide +kernel
theorem dX10_findRest_84 : decode cX10_findRest 84 = .ok (.aload_n 0, 1) := by decide +kernel
theorem dX10_findRest_85 : decode cX10_findRest 85 = .ok (.getfield 61, 3) := by decide +kernel
theorem dX10_findRest_88 : decode cX10_findRest 88 = .ok (.iload_n 3, 1) := by decide +kernel
theorem dX10_findRest_89 : decode cX10_findRest 89 = .ok (.aload_n 0, 1) := by decide +kernel
theorem dX10_findRest_90 : decode cX10_findRest 90 = .ok (.aload_n 0, 1) := by decide +kernel
theorem dX10_findRest_91 : decode cX10_findRest 91 = .ok (.getfield 61, 3) := by decide +kernel
theorem dX10_findRest_94 : decode cX10_findRest 94 = .ok (.iload_n 3, 1) := by decide +kernel
theorem dX10_findRest_95 : decode cX10_findRest 95 = .ok (.iaload, 1) := by decide +kernel
theorem dX10_findRest_96 : decode cX10_findRest 96 = .ok (.aload_n 0, 1) := by decide +kernel
theorem dX10_findRest_97 : decode cX10_findRest 97 = .ok (.aload_n 0, 1) := by decide +kernel
theorem dX10_findRest_98 : decode cX10_findRest 98 = .ok (.getfield 64, 3) := by decide +kernel
theorem dX10_findRest_101 : decode cX10_findRest 101 = .ok (.bipush 8, 2) := by decide +kernel
theorem dX10_findRest_103 : decode cX10_findRest 103 = .ok (.iload_n 3, 1) := by decide +kernel
theorem dX10_findRest_104 : decode cX10_findRest 104 = .ok (.imul, 1) := by decide +kernel
theorem dX10_findRest_105 : decode cX10_findRest 105 = .ok (.iload 4, 2) := by decide +kernel
theorem dX10_findRest_107 : decode cX10_findRest 107 = .ok (.iadd, 1) := by decide +kernel
theorem dX10_findRest_108 : decode cX10_findRest 108 = .ok (.iaload, 1) := by decide +kernel
theorem dX10_findRest_109 : decode cX10_findRest 109 = .ok (.aload_n 0, 1) := by decide +kernel
theorem dX10_findRest_110 : decode cX10_findRest 110 = .ok (.getfield 61, 3) := by decide +kernel
theorem dX10_findRest_113 : decode cX10_findRest 113 = .ok (.iload_n 3, 1) := by decide +kernel
theorem dX10_findRest_114 : decode cX10_findRest 114 = .ok (.iconst 1, 1) := by decide +kernel
theorem dX10_findRest_115 : decode cX10_findRest 115 = .ok (.iload 4, 2) := by decide +kernel
theorem dX10_findRest_117 : decode cX10_findRest 117 = .ok (.ishl, 1) := by decide +kernel
theorem dX10_findRest_118 : decode cX10_findRest 118 = .ok (.ior, 1) := by decide +kernel
theorem dX10_findRest_119 : decode cX10_findRest 119 = .ok (.iaload, 1) := by decide +kernel
theorem dX10_findRest_120 : decode cX10_findRest 120 = .ok (.invokevirtual 282, 3) := by decide +kernel
theorem dX10_findRest_123 : decode cX10_findRest 123 = .ok (.invokevirtual 285, 3) := by decide +kernel
theorem dX10_findRest_126 : decode cX10_findRest 126 = .ok (.iastore, 1) := by decide +kernel
theorem dX10_findRest_127 : decode cX10_findRest 127 = .ok (.iinc 4 1, 3) := by decide +kernel
theorem dX10_findRest_130 : decode cX10_findRest 130 = .ok (.goto (-84), 3) := by decide +kernel
theorem dX10_findRest_133 : decode cX10_findRest 133 = .ok (.iinc 3 (-1), 3) := by decide +kernel
theorem dX10_findRest_136 : decode cX10_findRest 136 = .ok (.goto (-114), 3) := by decide +kernel
theorem dX10_findRest_139 : decode cX10_findRest 139 = .ok (.return_, 1) := by decide +kernel
def f_X10_findRest (σ : St) (v1 : Int32) : Option (Unit × St) :=
  cal (f_X10_joinBoth σ) fun _ s1 =>
    bd (((1 : Int32) <<< ((s1.1 100 0) &&& 31)) - (1 : Int32)) fun x2 =>
      ck x2 256 <|
        bd (setI s1 116 x2.toNatClampNeg (0 : Int32)) fun s3 =>
          lo2 FU (fun rec6 (s4 : St) (x5 : Int32) =>
            (if x5 < 0 then
              some ((), s4)
               else
              bd (if x5 = x2 then (0 : Int32) else (100 : Int32)) fun x8 =>
                ck x5 256 <|
                  bd (setI s4 116 x5.toNatClampNeg x8) fun s10 =>
                    lo2 FU (fun rec13 (s11 : St) (x12 : Int32) =>
                      (if x12 < (s11.1 100 0) then
                        (if ((x5 >>> (x12 &&& 31)) &&& (1 : Int32)) = 0 then
                          calP (f_X10_costOf s11 v1 x5 x12) fun r15 =>
                            ck (((8 : Int32) * x5) + x12) 2048 <|
                              bd (setI s11 117 (((8 : Int32) * x5) + x12).toNatClampNeg r15) fun s16 =>
                                ck x5 256 <|
                                  ck (((8 : Int32) * x5) + x12) 2048 <|
                                    ck (x5 ||| ((1 : Int32) <<< (x12 &&& 31))) 256 <|
                                      calP (f_X10_greater s16 (s16.1 117 (((8 : Int32) * x5) + x12).toNatClampNeg) (s16.1 116 (x5 ||| ((1 : Int32) <<< (x12 &&& 31))).toNatClampNeg)) fun r17 =>
                                        calP (f_X10_lesser s16 (s16.1 116 x5.toNatClampNeg) r17) fun r18 =>
                                          ck x5 256 <|
                                            bd (setI s16 116 x5.toNatClampNeg r18) fun s19 =>
                                              rec13 s19 (x12 + 1)
                           else
                          rec13 s11 (x12 + 1))
                         else
                        rec6 s11 (x5 + (-1)))) s10 (0 : Int32))) s3 x2
set_option maxHeartbeats 4000000 in
set_option maxRecDepth 100000 in
theorem c_X10_findRest (l : Launch) (E : Ev) (hF : Full E) (σ : St) (v1 : Int32) : Ctr l (en2 enV) (fun q => q.2) E md_X10_findRest [rV E 100, .int v1] σ (f_X10_findRest σ v1) := by
  refine ctr_of rfl (Nat.le_of_ble_eq_true rfl) (fun Γ => ?_)
  show Sim _ Γ _ E md_X10_findRest σ 0 [(0, rV E 100), (1, .int v1)] [] _
  unfold f_X10_findRest
  refine s_aload_n dX10_findRest_0 0 rfl rfl ?_
  refine s_callVwV (As := []) mf_X10_joinBoth vf_X10_joinBoth ml_X10_275 (c_X10_joinBoth _ E hF σ) (m100 hF) k100 (by decide) rfl rfl rfl rfl (Nat.le_of_ble_eq_true rfl) rfl dX10_findRest_1 (fun _ s1 => ?_)
  refine s_iconst (v := 1) dX10_findRest_4 (by decide) ?_
  refine s_aload_n dX10_findRest_5 0 rfl rfl ?_
  refine s_geti gf_X10_7 rfl (m100 hF) k100 (ft_of k100 rfl) dX10_findRest_6 ?_
  refine s_ishl dX10_findRest_9 ?_
  refine s_iconst (v := 1) dX10_findRest_10 (by decide) ?_
  refine s_isub dX10_findRest_11 ?_
  refine s_istore_nB (fun x2 => [(2, .int x2), (0, rV E 100), (1, .int v1)]) dX10_findRest_12 rfl (by decide) (fun _ => rfl) (fun x2 => ?_)
  refine s_aload_n dX10_findRest_13 1 rfl rfl ?_
  refine s_getr (b := 116) gf_X10_61 rfl (m100 hF) k100 (ft_of k100 rfl) (hF.2 _ _) rfl dX10_findRest_14 ?_
  refine s_iload_n dX10_findRest_17 0 rfl rfl ?_
  refine s_iconst (v := 0) dX10_findRest_18 (by decide) ?_
  refine s_iast (m116 hF) k116 l116 dX10_findRest_19 (fun s3 => ?_)
  refine s_iload_n dX10_findRest_20 0 rfl rfl ?_
  refine s_istore_n [(3, .int x2), (2, .int x2), (0, rV E 100), (1, .int v1)] dX10_findRest_21 rfl (by decide) rfl ?_
  refine s_sub (lv' := [(0, rV E 100), (1, .int v1), (2, .int x2), (3, .int x2)]) [2, 3, 1, 0] rfl ?_
  refine s_lo2 (σf := fun s4 x5 => s4) (lvf := fun s4 x5 => [(0, rV E 100), (1, .int v1), (2, .int x2), (3, .int x5)]) (fun rec6 ih7 s4 x5 => ?_)
  refine s_iload_n dX10_findRest_22 3 rfl rfl ?_
  refine s_if_lt 139 dX10_findRest_23 (by decide) ?_ ?_
  · skip
    exact s_return rfl rfl rfl dX10_findRest_139
  · skip
    refine s_aload_n dX10_findRest_26 0 rfl rfl ?_
    refine s_getr (b := 116) gf_X10_61 rfl (m100 hF) k100 (ft_of k100 rfl) (hF.2 _ _) rfl dX10_findRest_27 ?_
    refine s_iload_n dX10_findRest_30 3 rfl rfl ?_
    refine s_iload_n dX10_findRest_31 3 rfl rfl ?_
    refine s_iload_n dX10_findRest_32 2 rfl rfl ?_
    refine s_bd 42 (fun x8 => [(0, rV E 100), (1, .int v1), (2, .int x2), (3, .int x5)]) (fun x8 => [.int x8, .int x5, rV E 116]) (fun jk9 => (if x5 = x2 then jk9 (0 : Int32) else jk9 (100 : Int32))) (fun jk9 => (j_ite rfl rfl)) ?_ ?_
    · intro x8
      refine s_iast (m116 hF) k116 l116 dX10_findRest_42 (fun s10 => ?_)
      refine s_iconst (v := 0) dX10_findRest_43 (by decide) ?_
      refine s_istore [(4, .int (0 : Int32)), (0, rV E 100), (1, .int v1), (2, .int x2), (3, .int x5)] dX10_findRest_44 (by decide) rfl ?_
      refine s_sub (lv' := [(0, rV E 100), (1, .int v1), (2, .int x2), (3, .int x5), (4, .int (0 : Int32))]) [1, 2, 3, 4, 0] rfl ?_
      refine s_lo2 (σf := fun s11 x12 => s11) (lvf := fun s11 x12 => [(0, rV E 100), (1, .int v1), (2, .int x2), (3, .int x5), (4, .int x12)]) (fun rec13 ih14 s11 x12 => ?_)
      refine s_iload dX10_findRest_46 4 rfl ?_
      refine s_aload_n dX10_findRest_48 0 rfl rfl ?_
      refine s_geti gf_X10_7 rfl (m100 hF) k100 (ft_of k100 rfl) dX10_findRest_49 ?_
      refine s_icmp_ge 133 dX10_findRest_52 (by decide) ?_ ?_
      · skip
        refine s_iload_n dX10_findRest_55 3 rfl rfl ?_
        refine s_iload dX10_findRest_56 4 rfl ?_
        refine s_ishr dX10_findRest_58 ?_
        refine s_iconst (v := 1) dX10_findRest_59 (by decide) ?_
        refine s_iand dX10_findRest_60 ?_
        refine s_if_ne 127 dX10_findRest_61 (by decide) ?_ ?_
        · skip
          refine s_aload_n dX10_findRest_64 0 rfl rfl ?_
          refine s_getr (b := 117) gf_X10_64 rfl (m100 hF) k100 (ft_of k100 rfl) (hF.2 _ _) rfl dX10_findRest_65 ?_
          refine s_bipush (v := 8) dX10_findRest_68 (by decide) ?_
          refine s_iload_n dX10_findRest_70 3 rfl rfl ?_
          refine s_imul dX10_findRest_71 ?_
          refine s_iload dX10_findRest_72 4 rfl ?_
          refine s_iadd dX10_findRest_74 ?_
          refine s_aload_n dX10_findRest_75 0 rfl rfl ?_
          refine s_iload_n dX10_findRest_76 1 rfl rfl ?_
          refine s_iload_n dX10_findRest_77 3 rfl rfl ?_
          refine s_iload dX10_findRest_78 4 rfl ?_
          refine s_callVpI (As := [.int v1, .int x5, .int x12]) mf_X10_costOf vf_X10_costOf ml_X10_278 (c_X10_costOf _ E hF s11 v1 x5 x12) (m100 hF) k100 (by decide) rfl rfl rfl rfl (Nat.le_of_ble_eq_true rfl) rfl dX10_findRest_80 (fun r15 => ?_)
          refine s_iast (m117 hF) k117 l117 dX10_findRest_83 (fun s16 => ?_)
          refine s_aload_n dX10_findRest_84 0 rfl rfl ?_
          refine s_getr (b := 116) gf_X10_61 rfl (m100 hF) k100 (ft_of k100 rfl) (hF.2 _ _) rfl dX10_findRest_85 ?_
          refine s_iload_n dX10_findRest_88 3 rfl rfl ?_
          refine s_aload_n dX10_findRest_89 0 rfl rfl ?_
          refine s_aload_n dX10_findRest_90 0 rfl rfl ?_
          refine s_getr (b := 116) gf_X10_61 rfl (m100 hF) k100 (ft_of k100 rfl) (hF.2 _ _) rfl dX10_findRest_91 ?_
          refine s_iload_n dX10_findRest_94 3 rfl rfl ?_
          refine s_iald (m116 hF) k116 l116 dX10_findRest_95 ?_
          refine s_aload_n dX10_findRest_96 0 rfl rfl ?_
          refine s_aload_n dX10_findRest_97 0 rfl rfl ?_
          refine s_getr (b := 117) gf_X10_64 rfl (m100 hF) k100 (ft_of k100 rfl) (hF.2 _ _) rfl dX10_findRest_98 ?_
          refine s_bipush (v := 8) dX10_findRest_101 (by decide) ?_
          refine s_iload_n dX10_findRest_103 3 rfl rfl ?_
          refine s_imul dX10_findRest_104 ?_
          refine s_iload dX10_findRest_105 4 rfl ?_
          refine s_iadd dX10_findRest_107 ?_
          refine s_iald (m117 hF) k117 l117 dX10_findRest_108 ?_
          refine s_aload_n dX10_findRest_109 0 rfl rfl ?_
          refine s_getr (b := 116) gf_X10_61 rfl (m100 hF) k100 (ft_of k100 rfl) (hF.2 _ _) rfl dX10_findRest_110 ?_
          refine s_iload_n dX10_findRest_113 3 rfl rfl ?_
          refine s_iconst (v := 1) dX10_findRest_114 (by decide) ?_
          refine s_iload dX10_findRest_115 4 rfl ?_
          refine s_ishl dX10_findRest_117 ?_
          refine s_ior dX10_findRest_118 ?_
          refine s_iald (m116 hF) k116 l116 dX10_findRest_119 ?_
          refine s_callVpI (As := [.int (s16.1 117 (((8 : Int32) * x5) + x12).toNatClampNeg), .int (s16.1 116 (x5 ||| ((1 : Int32) <<< (x12 &&& 31))).toNatClampNeg)]) mf_X10_greater vf_X10_greater ml_X10_282 (c_X10_greater _ E hF s16 (s16.1 117 (((8 : Int32) * x5) + x12).toNatClampNeg) (s16.1 116 (x5 ||| ((1 : Int32) <<< (x12 &&& 31))).toNatClampNeg)) (m100 hF) k100 (by decide) rfl rfl rfl rfl (Nat.le_of_ble_eq_true rfl) rfl dX10_findRest_120 (fun r17 => ?_)
          refine s_callVpI (As := [.int (s16.1 116 x5.toNatClampNeg), .int r17]) mf_X10_lesser vf_X10_lesser ml_X10_285 (c_X10_lesser _ E hF s16 (s16.1 116 x5.toNatClampNeg) r17) (m100 hF) k100 (by decide) rfl rfl rfl rfl (Nat.le_of_ble_eq_true rfl) rfl dX10_findRest_123 (fun r18 => ?_)
          refine s_iast (m116 hF) k116 l116 dX10_findRest_126 (fun s19 => ?_)
          refine s_iinc [(4, .int (x12 + 1)), (0, rV E 100), (1, .int v1), (2, .int x2), (3, .int x5)] dX10_findRest_127 4 rfl rfl (by decide) rfl ?_
          refine s_goto 46 dX10_findRest_130 (by decide) ?_
          refine s_sub [1, 2, 3, 4, 0] rfl ?_
          exact ih14 s19 (x12 + 1)
        · skip
          refine s_iinc [(4, .int (x12 + 1)), (0, rV E 100), (1, .int v1), (2, .int x2), (3, .int x5)] dX10_findRest_127 4 rfl rfl (by decide) rfl ?_
          refine s_goto 46 dX10_findRest_130 (by decide) ?_
          refine s_sub [1, 2, 3, 4, 0] rfl ?_
          exact ih14 s11 (x12 + 1)
      · skip
        refine s_iinc [(3, .int (x5 + (-1))), (0, rV E 100), (1, .int v1), (2, .int x2), (4, .int x12)] dX10_findRest_133 3 rfl rfl (by decide) rfl ?_
        refine s_goto 22 dX10_findRest_136 (by decide) ?_
        refine s_sub [1, 2, 3, 0] rfl ?_
        exact ih7 s11 (x5 + (-1))
    · intro jk9 hjk9
      refine s_icmp_ne 40 dX10_findRest_33 (by decide) ?_ ?_
      · skip
        refine s_iconst (v := 0) dX10_findRest_36 (by decide) ?_
        refine s_goto 42 dX10_findRest_37 (by decide) ?_
        exact hjk9 (0 : Int32)
      · skip
        refine s_bipush (v := 100) dX10_findRest_40 (by decide) ?_
        exact hjk9 (100 : Int32)
theorem dX10_flying_0 : decode cX10_flying 0 = .ok (.iload_n 2, 1) := by decide +kernel
theorem dX10_flying_1 : decode cX10_flying 1 = .ok (.iconst (-1), 1) := by decide +kernel
theorem dX10_flying_2 : decode cX10_flying 2 = .ok (.if_icmp .ge 6, 3) := by decide +kernel
theorem dX10_flying_5 : decode cX10_flying 5 = .ok (.bipush (-3), 2) := by decide +kernel
theorem dX10_flying_7 : decode cX10_flying 7 = .ok (.ireturn, 1) := by decide +kernel
theorem dX10_flying_8 : decode cX10_flying 8 = .ok (.aload_n 0, 1) := by decide +kernel
theorem dX10_flying_9 : decode cX10_flying 9 = .ok (.iload_n 1, 1) := by decide +kernel
theorem dX10_flying_10 : decode cX10_flying 10 = .ok (.invokevirtual 288, 3) := by decide +kernel
theorem dX10_flying_13 : decode cX10_flying 13 = .ok (.iload_n 2, 1) := by decide +kernel
theorem dX10_flying_14 : decode cX10_flying 14 = .ok (.iconst (-1), 1) := by decide +kernel
theorem dX10_flying_15 : decode cX10_flying 15 = .ok (.if_icmp .eq 11, 3) := by decide +kernel
theorem dX10_flying_18 : decode cX10_flying 18 = .ok (.iload_n 2, 1) := by decide +kernel
theorem dX10_flying_19 : decode cX10_flying 19 = .ok (.aload_n 0, 1) := by decide +kernel
theorem dX10_flying_20 : decode cX10_flying 20 = .ok (.getfield 7, 3) := by decide +kernel
theorem dX10_flying_23 : decode cX10_flying 23 = .ok (.if_icmp .lt 21, 3) := by decide +kernel
theorem dX10_flying_26 : decode cX10_flying 26 = .ok (.iload_n 2, 1) := by decide +kernel
theorem dX10_flying_27 : decode cX10_flying 27 = .ok (.iconst (-1), 1) := by decide +kernel
theorem dX10_flying_28 : decode cX10_flying 28 = .ok (.if_icmp .ne 14, 3) := by decide +kernel
theorem dX10_flying_31 : decode cX10_flying 31 = .ok (.aload_n 0, 1) := by decide +kernel
theorem dX10_flying_32 : decode cX10_flying 32 = .ok (.getfield 61, 3) := by decide +kernel
theorem dX10_flying_35 : decode cX10_flying 35 = .ok (.iconst 0, 1) := by decide +kernel
theorem dX10_flying_36 : decode cX10_flying 36 = .ok (.iaload, 1) := by decide +kernel
theorem dX10_flying_37 : decode cX10_flying 37 = .ok (.iconst 1, 1) := by decide +kernel
theorem dX10_flying_38 : decode cX10_flying 38 = .ok (.iadd, 1) := by decide +kernel
theorem dX10_flying_39 : decode cX10_flying 39 = .ok (.goto 4, 3) := by decide +kernel
theorem dX10_flying_42 : decode cX10_flying 42 = .ok (.iconst (-1), 1) := by decide +kernel
theorem dX10_flying_43 : decode cX10_flying 43 = .ok (.ireturn, 1) := by decide +kernel
theorem dX10_flying_44 : decode cX10_flying 44 = .ok (.iconst 0, 1) := by decide +kernel
theorem dX10_flying_45 : decode cX10_flying 45 = .ok (.istore_n 3, 1) := by decide +kernel
theorem dX10_flying_46 : decode cX10_flying 46 = .ok (.iconst (-1), 1) := by decide +kernel
theorem dX10_flying_47 : decode cX10_flying 47 = .ok (.istore 4, 2) := by decide +kernel
theorem dX10_flying_49 : decode cX10_flying 49 = .ok (.iconst 0, 1) := by decide +kernel
theorem dX10_flying_50 : decode cX10_flying 50 = .ok (.istore 5, 2) := by decide +kernel
theorem dX10_flying_52 : decode cX10_flying 52 = .ok (.iload 5, 2) := by decide +kernel
theorem dX10_flying_54 : decode cX10_flying 54 = .ok (.iload_n 2, 1) := by decide +kernel
theorem dX10_flying_55 : decode cX10_flying 55 = .ok (.if_icmp .gt 109, 3) := by decide +kernel
theorem dX10_flying_58 : decode cX10_flying 58 = .ok (.iconst (-1), 1) := by decide +kernel
theorem dX10_flying_59 : decode cX10_flying 59 = .ok (.istore 4, 2) := by decide +kernel
theorem dX10_flying_61 : decode cX10_flying 61 = .ok (.aload_n 0, 1) := by decide +kernel
theorem dX10_flying_62 : decode cX10_flying 62 = .ok (.getfield 7, 3) := by decide +kernel
theorem dX10_flying_65 : decode cX10_flying 65 = .ok (.iconst 1, 1) := by decide +kernel
theorem dX10_flying_66 : decode cX10_flying 66 = .ok (.isub, 1) := by decide +kernel
theorem dX10_flying_67 : decode cX10_flying 67 = .ok (.istore 6, 2) := by decide +kernel
theorem dX10_flying_69 : decode cX10_flying 69 = .ok (.iload 6, 2) := by decide +kernel
theorem dX10_flying_71 : decode cX10_flying 71 = .ok (.ifCond .lt 80, 3) := by decide +kernel
theorem dX10_flying_74 : decode cX10_flying 74 = .ok (.iload_n 3, 1) := by decide +kernel
theorem dX10_flying_75 : decode cX10_flying 75 = .ok (.iload 6, 2) := by decide +kernel
theorem dX10_flying_77 : decode cX10_flying 77 = .ok (.ishr, 1) := by decide +kernel
theorem dX10_flying_78 : decode cX10_flying 78 = .ok (.iconst 1, 1) := by decide +kernel
theorem dX10_flying_79 : decode cX10_flying 79 = .ok (.iand, 1) := by decide +kernel
theorem dX10_flying_80 : decode cX10_flying 80 = .ok (.ifCond .ne 48, 3) := by decide +kernel
theorem dX10_flying_83 : decode cX10_flying 83 = .ok (.aload_n 0, 1) := by decide +kernel
theorem dX10_flying_84 : decode cX10_flying 84 = .ok (.getfield 64, 3) := by decide +kernel
theorem dX10_flying_87 : decode cX10_flying 87 = .ok (.bipush 8, 2) := by decide +kernel
theorem dX10_flying_89 : decode cX10_flying 89 = .ok (.iload_n 3, 1) := by decide +kernel
theorem dX10_flying_90 : decode cX10_flying 90 = .ok (.imul, 1) := by decide +kernel
theorem dX10_flying_91 : decode cX10_flying 91 = .ok (.iload 6, 2) := by decide +kernel
theorem dX10_flying_93 : decode cX10_flying 93 = .ok (.iadd, 1) := by decide +kernel
theorem dX10_flying_94 : decode cX10_flying 94 = .ok (.iaload, 1) := by decide +kernel
theorem dX10_flying_95 : decode cX10_flying 95 = .ok (.aload_n 0, 1) := by decide +kernel
theorem dX10_flying_96 : decode cX10_flying 96 = .ok (.getfield 61, 3) := by decide +kernel
theorem dX10_flying_99 : decode cX10_flying 99 = .ok (.iconst 0, 1) := by decide +kernel
theorem dX10_flying_100 : decode cX10_flying 100 = .ok (.iaload, 1) := by decide +kernel
theorem dX10_flying_101 : decode cX10_flying 101 = .ok (.if_icmp .gt 27, 3) := by decide +kernel
theorem dX10_flying_104 : decode cX10_flying 104 = .ok (.aload_n 0, 1) := by decide +kernel
theorem dX10_flying_105 : decode cX10_flying 105 = .ok (.getfield 61, 3) := by decide +kernel
theorem dX10_flying_108 : decode cX10_flying 108 = .ok (.iload_n 3, 1) := by decide +kernel
theorem dX10_flying_109 : decode cX10_flying 109 = .ok (.iconst 1, 1) := by decide +kernel
theorem dX10_flying_110 : decode cX10_flying 110 = .ok (.iload 6, 2) := by decide +kernel
theorem dX10_flying_112 : decode cX10_flying 112 = .ok (.ishl, 1) := by decide +kernel
theorem dX10_flying_113 : decode cX10_flying 113 = .ok (.ior, 1) := by decide +kernel
theorem dX10_flying_114 : decode cX10_flying 114 = .ok (.iaload, 1) := by decide +kernel
theorem dX10_flying_115 : decode cX10_flying 115 = .ok (.aload_n 0, 1) := by decide +kernel
theorem dX10_flying_116 : decode cX10_flying 116 = .ok (.getfield 61, 3) := by decide +kernel
theorem dX10_flying_119 : decode cX10_flying 119 = .ok (.iconst 0, 1) := by decide +kernel
theorem dX10_flying_120 : decode cX10_flying 120 = .ok (.iaload, 1) := by decide +kernel
theorem dX10_flying_121 : decode cX10_flying 121 = .ok (.if_icmp .gt 7, 3) := by decide +kernel
theorem dX10_flying_124 : decode cX10_flying 124 = .ok (.iconst 1, 1) := by decide +kernel
theorem dX10_flying_125 : decode cX10_flying 125 = .ok (.goto 4, 3) := by decide +kernel
theorem dX10_flying_128 : decode cX10_flying 128 = .ok (.iconst 0, 1) := by decide +kernel
theorem dX10_flying_129 : decode cX10_flying 129 = .ok (.istore 7, 2) := by decide +kernel
theorem dX10_flying_131 : decode cX10_flying 131 = .ok (.iload 7, 2) := by decide +kernel
theorem dX10_flying_133 : decode cX10_flying 133 = .ok (.ifCond .eq 8, 3) := by decide +kernel
theorem dX10_flying_136 : decode cX10_flying 136 = .ok (.iload 6, 2) := by decide +kernel
theorem dX10_flying_138 : decode cX10_flying 138 = .ok (.goto 5, 3) := by decide +kernel
theorem dX10_flying_141 : decode cX10_flying 141 = .ok (.iload 4, 2) := by decide +kernel
theorem dX10_flying_143 : decode cX10_flying 143 = .ok (.istore 4, 2) := by decide +kernel
theorem dX10_flying_145 : decode cX10_flying 145 = .ok (.iinc 6 (-1), 3) := by decide +kernel
theorem dX10_flying_148 : decode cX10_flying 148 = .ok (.goto (-79), 3) := by decide +kernel
theorem dX10_flying_151 : decode cX10_flying 151 = .ok (.iload_n 3, 1) := by decide +kernel
theorem dX10_flying_152 : decode cX10_flying 152 = .ok (.iconst 1, 1) := by decide +kernel
theorem dX10_flying_153 : decode cX10_flying 153 = .ok (.iload 4, 2) := by decide +kernel
theorem dX10_flying_155 : decode cX10_flying 155 = .ok (.ishl, 1) := by decide +kernel
theorem dX10_flying_156 : decode cX10_flying 156 = .ok (.ior, 1) := by decide +kernel
theorem dX10_flying_157 : decode cX10_flying 157 = .ok (.istore_n 3, 1) := by decide +kernel
theorem dX10_flying_158 : decode cX10_flying 158 = .ok (.iinc 5 1, 3) := by decide +kernel
theorem dX10_flying_161 : decode cX10_flying 161 = .ok (.goto (-109), 3) := by decide +kernel
theorem dX10_flying_164 : decode cX10_flying 164 = .ok (.iload 4, 2) := by decide +kernel
theorem dX10_flying_166 : decode cX10_flying 166 = .ok (.ireturn, 1) := by decide +kernel
def f_X10_flying (σ : St) (v1 : Int32) (v2 : Int32) : Option (Int32 × St) :=
  (if v2 < (-1 : Int32) then
    some ((-3 : Int32), σ)
     else
    cal (f_X10_findRest σ v1) fun _ s1 =>
      jn0 (fun jk2 =>
        (if v2 = (-1 : Int32) then
          jk2
           else
          (if v2 < (s1.1 100 0) then
            lo3 FU (fun rec6 (x3 : Int32) (x4 : Int32) (x5 : Int32) =>
              (if v2 < x5 then
                some (x4, s1)
                 else
                bd ((s1.1 100 0) - (1 : Int32)) fun x8 =>
                  lo2 FU (fun rec11 (x9 : Int32) (x10 : Int32) =>
                    (if x10 < 0 then
                      bd (x3 ||| ((1 : Int32) <<< (x9 &&& 31))) fun x13 =>
                        rec6 x13 x9 (x5 + 1)
                       else
                      jn1 (fun jk15 =>
                        (if ((x3 >>> (x10 &&& 31)) &&& (1 : Int32)) = 0 then
                          ck (((8 : Int32) * x3) + x10) 2048 <|
                            ck (0 : Int32) 256 <|
                              (if (s1.1 116 (0 : Int32).toNatClampNeg) < (s1.1 117 (((8 : Int32) * x3) + x10).toNatClampNeg) then
                                jk15 (0 : Int32)
                                 else
                                ck (x3 ||| ((1 : Int32) <<< (x10 &&& 31))) 256 <|
                                  ck (0 : Int32) 256 <|
                                    (if (s1.1 116 (0 : Int32).toNatClampNeg) < (s1.1 116 (x3 ||| ((1 : Int32) <<< (x10 &&& 31))).toNatClampNeg) then
                                      jk15 (0 : Int32)
                                       else
                                      jk15 (1 : Int32)))
                           else
                          jk15 (0 : Int32)))
                        (fun (x14 : Int32) => 
                        (if x14 = 0 then
                            rec11 x9 (x10 + (-1))
                             else
                            rec11 x10 (x10 + (-1)))))) (-1 : Int32) x8)) (0 : Int32) (-1 : Int32) (0 : Int32)
             else
            jk2)))
        (
        (if v2 = (-1 : Int32) then
            ck (0 : Int32) 256 <|
              some (((s1.1 116 (0 : Int32).toNatClampNeg) + (1 : Int32)), s1)
             else
            some ((-1 : Int32), s1))))
set_option maxHeartbeats 4000000 in
set_option maxRecDepth 100000 in
theorem c_X10_flying (l : Launch) (E : Ev) (hF : Full E) (σ : St) (v1 : Int32) (v2 : Int32) : Ctr l (en2 enI) (fun q => q.2) E md_X10_flying [rV E 100, .int v1, .int v2] σ (f_X10_flying σ v1 v2) := by
  refine ctr_of rfl (Nat.le_of_ble_eq_true rfl) (fun Γ => ?_)
  show Sim _ Γ _ E md_X10_flying σ 0 [(0, rV E 100), (1, .int v1), (2, .int v2)] [] _
  unfold f_X10_flying
  refine s_iload_n dX10_flying_0 2 rfl rfl ?_
  refine s_iconst (v := -1) dX10_flying_1 (by decide) ?_
  refine s_icmp_ge 8 dX10_flying_2 (by decide) ?_ ?_
  · skip
    refine s_bipush (v := -3) dX10_flying_5 (by decide) ?_
    exact s_ireturn rfl rfl rfl dX10_flying_7
  · skip
    refine s_aload_n dX10_flying_8 0 rfl rfl ?_
    refine s_iload_n dX10_flying_9 1 rfl rfl ?_
    refine s_callVwV (As := [.int v1]) mf_X10_findRest vf_X10_findRest ml_X10_288 (c_X10_findRest _ E hF σ v1) (m100 hF) k100 (by decide) rfl rfl rfl rfl (Nat.le_of_ble_eq_true rfl) rfl dX10_flying_10 (fun _ s1 => ?_)
    refine s_iload_n dX10_flying_13 2 rfl rfl ?_
    refine s_iconst (v := -1) dX10_flying_14 (by decide) ?_
    refine s_jn0 s1 26 [(0, rV E 100), (2, .int v2)] [] ?_ ?_
    · skip
      refine s_iload_n dX10_flying_26 1 rfl rfl ?_
      refine s_iconst (v := -1) dX10_flying_27 (by decide) ?_
      refine s_icmp_ne 42 dX10_flying_28 (by decide) ?_ ?_
      · skip
        refine s_aload_n dX10_flying_31 0 rfl rfl ?_
        refine s_getr (b := 116) gf_X10_61 rfl (m100 hF) k100 (ft_of k100 rfl) (hF.2 _ _) rfl dX10_flying_32 ?_
        refine s_iconst (v := 0) dX10_flying_35 (by decide) ?_
        refine s_iald (m116 hF) k116 l116 dX10_flying_36 ?_
        refine s_iconst (v := 1) dX10_flying_37 (by decide) ?_
        refine s_iadd dX10_flying_38 ?_
        refine s_goto 43 dX10_flying_39 (by decide) ?_
        exact s_ireturn rfl rfl rfl dX10_flying_43
      · skip
        refine s_iconst (v := -1) dX10_flying_42 (by decide) ?_
        exact s_ireturn rfl rfl rfl dX10_flying_43
    · intro jk2 hjk2
      refine s_icmp_eq 26 dX10_flying_15 (by decide) ?_ ?_
      · skip
        refine s_sub [0, 2] rfl ?_
        exact hjk2
      · skip
        refine s_iload_n dX10_flying_18 2 rfl rfl ?_
        refine s_aload_n dX10_flying_19 0 rfl rfl ?_
        refine s_geti gf_X10_7 rfl (m100 hF) k100 (ft_of k100 rfl) dX10_flying_20 ?_
        refine s_icmp_lt 44 dX10_flying_23 (by decide) ?_ ?_
        · skip
          refine s_iconst (v := 0) dX10_flying_44 (by decide) ?_
          refine s_istore_n [(3, .int (0 : Int32)), (0, rV E 100), (1, .int v1), (2, .int v2)] dX10_flying_45 rfl (by decide) rfl ?_
          refine s_iconst (v := -1) dX10_flying_46 (by decide) ?_
          refine s_istore [(4, .int (-1 : Int32)), (3, .int (0 : Int32)), (0, rV E 100), (1, .int v1), (2, .int v2)] dX10_flying_47 (by decide) rfl ?_
          refine s_iconst (v := 0) dX10_flying_49 (by decide) ?_
          refine s_istore [(5, .int (0 : Int32)), (4, .int (-1 : Int32)), (3, .int (0 : Int32)), (0, rV E 100), (1, .int v1), (2, .int v2)] dX10_flying_50 (by decide) rfl ?_
          refine s_sub (lv' := [(0, rV E 100), (2, .int v2), (3, .int (0 : Int32)), (4, .int (-1 : Int32)), (5, .int (0 : Int32))]) [3, 5, 2, 1, 0] rfl ?_
          refine s_lo3 (σf := fun x3 x4 x5 => s1) (lvf := fun x3 x4 x5 => [(0, rV E 100), (2, .int v2), (3, .int x3), (4, .int x4), (5, .int x5)]) (fun rec6 ih7 x3 x4 x5 => ?_)
          refine s_iload dX10_flying_52 4 rfl ?_
          refine s_iload_n dX10_flying_54 1 rfl rfl ?_
          refine s_icmp_gt 164 dX10_flying_55 (by decide) ?_ ?_
          · skip
            refine s_iload dX10_flying_164 3 rfl ?_
            exact s_ireturn rfl rfl rfl dX10_flying_166
          · skip
            refine s_iconst (v := -1) dX10_flying_58 (by decide) ?_
            refine s_istore [(4, .int (-1 : Int32)), (0, rV E 100), (2, .int v2), (3, .int x3), (5, .int x5)] dX10_flying_59 (by decide) rfl ?_
            refine s_aload_n dX10_flying_61 1 rfl rfl ?_
            refine s_geti gf_X10_7 rfl (m100 hF) k100 (ft_of k100 rfl) dX10_flying_62 ?_
            refine s_iconst (v := 1) dX10_flying_65 (by decide) ?_
            refine s_isub dX10_flying_66 ?_
            refine s_istoreB (fun x8 => [(6, .int x8), (4, .int (-1 : Int32)), (0, rV E 100), (2, .int v2), (3, .int x3), (5, .int x5)]) dX10_flying_67 (by decide) (fun _ => rfl) (fun x8 => ?_)
            refine s_sub (lv' := [(0, rV E 100), (2, .int v2), (3, .int x3), (4, .int (-1 : Int32)), (5, .int x5), (6, .int x8)]) [2, 3, 4, 1, 5, 0] rfl ?_
            refine s_lo2 (σf := fun x9 x10 => s1) (lvf := fun x9 x10 => [(0, rV E 100), (2, .int v2), (3, .int x3), (4, .int x9), (5, .int x5), (6, .int x10)]) (fun rec11 ih12 x9 x10 => ?_)
            refine s_iload dX10_flying_69 5 rfl ?_
            refine s_if_lt 151 dX10_flying_71 (by decide) ?_ ?_
            · skip
              refine s_iload_n dX10_flying_151 2 rfl rfl ?_
              refine s_iconst (v := 1) dX10_flying_152 (by decide) ?_
              refine s_iload dX10_flying_153 3 rfl ?_
              refine s_ishl dX10_flying_155 ?_
              refine s_ior dX10_flying_156 ?_
              refine s_istore_nB (fun x13 => [(3, .int x13), (0, rV E 100), (2, .int v2), (4, .int x9), (5, .int x5), (6, .int x10)]) dX10_flying_157 rfl (by decide) (fun _ => rfl) (fun x13 => ?_)
              refine s_iinc [(5, .int (x5 + 1)), (3, .int x13), (0, rV E 100), (2, .int v2), (4, .int x9), (6, .int x10)] dX10_flying_158 4 rfl rfl (by decide) rfl ?_
              refine s_goto 52 dX10_flying_161 (by decide) ?_
              refine s_sub [2, 3, 1, 4, 0] rfl ?_
              exact ih7 x13 x9 (x5 + 1)
            · skip
              refine s_iload_n dX10_flying_74 2 rfl rfl ?_
              refine s_iload dX10_flying_75 5 rfl ?_
              refine s_ishr dX10_flying_77 ?_
              refine s_iconst (v := 1) dX10_flying_78 (by decide) ?_
              refine s_iand dX10_flying_79 ?_
              refine s_jn1 129 (fun x14 => s1) (fun x14 => [(0, rV E 100), (2, .int v2), (3, .int x3), (4, .int x9), (5, .int x5), (6, .int x10)]) (fun x14 => [.int x14]) ?_ ?_
              · intro x14
                refine s_istore [(7, .int x14), (0, rV E 100), (2, .int v2), (3, .int x3), (4, .int x9), (5, .int x5), (6, .int x10)] dX10_flying_129 (by decide) rfl ?_
                refine s_iload dX10_flying_131 0 rfl ?_
                refine s_if_eq 141 dX10_flying_133 (by decide) ?_ ?_
                · skip
                  refine s_iload dX10_flying_141 4 rfl ?_
                  refine s_istore [(4, .int x9), (7, .int x14), (0, rV E 100), (2, .int v2), (3, .int x3), (5, .int x5), (6, .int x10)] dX10_flying_143 (by decide) rfl ?_
                  refine s_iinc [(6, .int (x10 + (-1))), (4, .int x9), (7, .int x14), (0, rV E 100), (2, .int v2), (3, .int x3), (5, .int x5)] dX10_flying_145 6 rfl rfl (by decide) rfl ?_
                  refine s_goto 69 dX10_flying_148 (by decide) ?_
                  refine s_sub [3, 4, 5, 1, 6, 0] rfl ?_
                  exact ih12 x9 (x10 + (-1))
                · skip
                  refine s_iload dX10_flying_136 6 rfl ?_
                  refine s_goto 143 dX10_flying_138 (by decide) ?_
                  refine s_istore [(4, .int x10), (7, .int x14), (0, rV E 100), (2, .int v2), (3, .int x3), (5, .int x5), (6, .int x10)] dX10_flying_143 (by decide) rfl ?_
                  refine s_iinc [(6, .int (x10 + (-1))), (4, .int x10), (7, .int x14), (0, rV E 100), (2, .int v2), (3, .int x3), (5, .int x5)] dX10_flying_145 6 rfl rfl (by decide) rfl ?_
                  refine s_goto 69 dX10_flying_148 (by decide) ?_
                  refine s_sub [3, 4, 5, 1, 6, 0] rfl ?_
                  exact ih12 x10 (x10 + (-1))
              · intro jk15 hjk15
                refine s_if_ne 128 dX10_flying_80 (by decide) ?_ ?_
                · skip
                  refine s_aload_n dX10_flying_83 0 rfl rfl ?_
                  refine s_getr (b := 117) gf_X10_64 rfl (m100 hF) k100 (ft_of k100 rfl) (hF.2 _ _) rfl dX10_flying_84 ?_
                  refine s_bipush (v := 8) dX10_flying_87 (by decide) ?_
                  refine s_iload_n dX10_flying_89 2 rfl rfl ?_
                  refine s_imul dX10_flying_90 ?_
                  refine s_iload dX10_flying_91 5 rfl ?_
                  refine s_iadd dX10_flying_93 ?_
                  refine s_iald (m117 hF) k117 l117 dX10_flying_94 ?_
                  refine s_aload_n dX10_flying_95 0 rfl rfl ?_
                  refine s_getr (b := 116) gf_X10_61 rfl (m100 hF) k100 (ft_of k100 rfl) (hF.2 _ _) rfl dX10_flying_96 ?_
                  refine s_iconst (v := 0) dX10_flying_99 (by decide) ?_
                  refine s_iald (m116 hF) k116 l116 dX10_flying_100 ?_
                  refine s_icmp_gt 128 dX10_flying_101 (by decide) ?_ ?_
                  · skip
                    refine s_iconst (v := 0) dX10_flying_128 (by decide) ?_
                    exact hjk15 (0 : Int32)
                  · skip
                    refine s_aload_n dX10_flying_104 0 rfl rfl ?_
                    refine s_getr (b := 116) gf_X10_61 rfl (m100 hF) k100 (ft_of k100 rfl) (hF.2 _ _) rfl dX10_flying_105 ?_
                    refine s_iload_n dX10_flying_108 2 rfl rfl ?_
                    refine s_iconst (v := 1) dX10_flying_109 (by decide) ?_
                    refine s_iload dX10_flying_110 5 rfl ?_
                    refine s_ishl dX10_flying_112 ?_
                    refine s_ior dX10_flying_113 ?_
                    refine s_iald (m116 hF) k116 l116 dX10_flying_114 ?_
                    refine s_aload_n dX10_flying_115 0 rfl rfl ?_
                    refine s_getr (b := 116) gf_X10_61 rfl (m100 hF) k100 (ft_of k100 rfl) (hF.2 _ _) rfl dX10_flying_116 ?_
                    refine s_iconst (v := 0) dX10_flying_119 (by decide) ?_
                    refine s_iald (m116 hF) k116 l116 dX10_flying_120 ?_
                    refine s_icmp_gt 128 dX10_flying_121 (by decide) ?_ ?_
                    · skip
                      refine s_iconst (v := 0) dX10_flying_128 (by decide) ?_
                      exact hjk15 (0 : Int32)
                    · skip
                      refine s_iconst (v := 1) dX10_flying_124 (by decide) ?_
                      refine s_goto 129 dX10_flying_125 (by decide) ?_
                      exact hjk15 (1 : Int32)
                · skip
                  refine s_iconst (v := 0) dX10_flying_128 (by decide) ?_
                  exact hjk15 (0 : Int32)
        · skip
          refine s_sub [0, 2] rfl ?_
          exact hjk2
