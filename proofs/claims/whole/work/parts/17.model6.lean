theorem dX10_answer_0 : decode cX10_answer 0 = .ok (.aload_n 0, 1) := by decide +kernel
theorem dX10_answer_1 : decode cX10_answer 1 = .ok (.iload_n 3, 1) := by decide +kernel
theorem dX10_answer_2 : decode cX10_answer 2 = .ok (.invokevirtual 165, 3) := by decide +kernel
theorem dX10_answer_5 : decode cX10_answer 5 = .ok (.ifCond .ne 6, 3) := by decide +kernel
theorem dX10_answer_8 : decode cX10_answer 8 = .ok (.bipush (-2), 2) := by decide +kernel
theorem dX10_answer_10 : decode cX10_answer 10 = .ok (.ireturn, 1) := by decide +kernel
theorem dX10_answer_11 : decode cX10_answer 11 = .ok (.aload_n 0, 1) := by decide +kernel
theorem dX10_answer_12 : decode cX10_answer 12 = .ok (.iload_n 1, 1) := by decide +kernel
theorem dX10_answer_13 : decode cX10_answer 13 = .ok (.invokevirtual 253, 3) := by decide +kernel
theorem dX10_answer_16 : decode cX10_answer 16 = .ok (.ifCond .eq 16, 3) := by decide +kernel
theorem dX10_answer_19 : decode cX10_answer 19 = .ok (.iload_n 1, 1) := by decide +kernel
theorem dX10_answer_20 : decode cX10_answer 20 = .ok (.ifCond .eq 12, 3) := by decide +kernel
theorem dX10_answer_23 : decode cX10_answer 23 = .ok (.iload_n 2, 1) := by decide +kernel
theorem dX10_answer_24 : decode cX10_answer 24 = .ok (.iconst 0, 1) := by decide +kernel
theorem dX10_answer_25 : decode cX10_answer 25 = .ok (.iconst 1, 1) := by decide +kernel
theorem dX10_answer_26 : decode cX10_answer 26 = .ok (.invokestatic 83, 3) := by decide +kernel
theorem dX10_answer_29 : decode cX10_answer 29 = .ok (.ifCond .ne 6, 3) := by decide +kernel
theorem dX10_answer_32 : decode cX10_answer 32 = .ok (.bipush (-3), 2) := by decide +kernel
theorem dX10_answer_34 : decode cX10_answer 34 = .ok (.ireturn, 1) := by decide +kernel
theorem dX10_answer_35 : decode cX10_answer 35 = .ok (.iload_n 1, 1) := by decide +kernel
theorem dX10_answer_36 : decode cX10_answer 36 = .ok (.iload_n 3, 1) := by decide +kernel
theorem dX10_answer_37 : decode cX10_answer 37 = .ok (.ishr, 1) := by decide +kernel
theorem dX10_answer_38 : decode cX10_answer 38 = .ok (.iconst 1, 1) := by decide +kernel
theorem dX10_answer_39 : decode cX10_answer 39 = .ok (.iand, 1) := by decide +kernel
theorem dX10_answer_40 : decode cX10_answer 40 = .ok (.iconst 1, 1) := by decide +kernel
theorem dX10_answer_41 : decode cX10_answer 41 = .ok (.if_icmp .ne 6, 3) := by decide +kernel
theorem dX10_answer_44 : decode cX10_answer 44 = .ok (.bipush (-4), 2) := by decide +kernel
theorem dX10_answer_46 : decode cX10_answer 46 = .ok (.ireturn, 1) := by decide +kernel
theorem dX10_answer_47 : decode cX10_answer 47 = .ok (.aload_n 0, 1) := by decide +kernel
theorem dX10_answer_48 : decode cX10_answer 48 = .ok (.invokevirtual 320, 3) := by decide +kernel
theorem dX10_answer_51 : decode cX10_answer 51 = .ok (.aload_n 0, 1) := by decide +kernel
theorem dX10_answer_52 : decode cX10_answer 52 = .ok (.iload_n 1, 1) := by decide +kernel
theorem dX10_answer_53 : decode cX10_answer 53 = .ok (.iload_n 2, 1) := by decide +kernel
theorem dX10_answer_54 : decode cX10_answer 54 = .ok (.iload_n 3, 1) := by decide +kernel
theorem dX10_answer_55 : decode cX10_answer 55 = .ok (.invokevirtual 311, 3) := by decide +kernel
theorem dX10_answer_58 : decode cX10_answer 58 = .ok (.ireturn, 1) := by decide +kernel
def f_X10_answer (σ : St) (v1 : Int32) (v2 : Int32) (v3 : Int32) : Option (Int32 × St) :=
  calP (f_X10_isPlace σ v3) fun r1 =>
    (if r1 = 0 then
      some ((-2 : Int32), σ)
       else
      calP (f_X10_isSet σ v1) fun r2 =>
        (if r2 = 0 then
          some ((-3 : Int32), σ)
           else
          (if v1 = 0 then
            some ((-3 : Int32), σ)
             else
            calP (f_X10_in σ v2 (0 : Int32) (1 : Int32)) fun r3 =>
              (if r3 = 0 then
                some ((-3 : Int32), σ)
                 else
                (if ((v1 >>> (v3 &&& 31)) &&& (1 : Int32)) = (1 : Int32) then
                  some ((-4 : Int32), σ)
                   else
                  cal (f_X10_guard σ) fun _ s4 =>
                    calP (f_X10_answerOf s4 v1 v2 v3) fun r5 =>
                      some (r5, s4))))))
set_option maxHeartbeats 4000000 in
set_option maxRecDepth 100000 in
theorem c_X10_answer (l : Launch) (E : Ev) (hF : Full E) (σ : St) (v1 : Int32) (v2 : Int32) (v3 : Int32) : Ctr l (en2 enI) (fun q => q.2) E md_X10_answer [rV E 100, .int v1, .int v2, .int v3] σ (f_X10_answer σ v1 v2 v3) := by
  refine ctr_of rfl (Nat.le_of_ble_eq_true rfl) (fun Γ => ?_)
  show Sim _ Γ _ E md_X10_answer σ 0 [(0, rV E 100), (1, .int v1), (2, .int v2), (3, .int v3)] [] _
  unfold f_X10_answer
  refine s_aload_n dX10_answer_0 0 rfl rfl ?_
  refine s_iload_n dX10_answer_1 3 rfl rfl ?_
  refine s_callVpI (As := [.int v3]) mf_X10_isPlace vf_X10_isPlace ml_X10_165 (c_X10_isPlace _ E hF σ v3) (m100 hF) k100 (by decide) rfl rfl rfl rfl (Nat.le_of_ble_eq_true rfl) rfl dX10_answer_2 (fun r1 => ?_)
  refine s_if_ne 11 dX10_answer_5 (by decide) ?_ ?_
  · skip
    refine s_bipush (v := -2) dX10_answer_8 (by decide) ?_
    exact s_ireturn rfl rfl rfl dX10_answer_10
  · skip
    refine s_aload_n dX10_answer_11 0 rfl rfl ?_
    refine s_iload_n dX10_answer_12 1 rfl rfl ?_
    refine s_callVpI (As := [.int v1]) mf_X10_isSet vf_X10_isSet ml_X10_253 (c_X10_isSet _ E hF σ v1) (m100 hF) k100 (by decide) rfl rfl rfl rfl (Nat.le_of_ble_eq_true rfl) rfl dX10_answer_13 (fun r2 => ?_)
    refine s_if_eq 32 dX10_answer_16 (by decide) ?_ ?_
    · skip
      refine s_bipush (v := -3) dX10_answer_32 (by decide) ?_
      exact s_ireturn rfl rfl rfl dX10_answer_34
    · skip
      refine s_iload_n dX10_answer_19 1 rfl rfl ?_
      refine s_if_eq 32 dX10_answer_20 (by decide) ?_ ?_
      · skip
        refine s_bipush (v := -3) dX10_answer_32 (by decide) ?_
        exact s_ireturn rfl rfl rfl dX10_answer_34
      · skip
        refine s_iload_n dX10_answer_23 2 rfl rfl ?_
        refine s_iconst (v := 0) dX10_answer_24 (by decide) ?_
        refine s_iconst (v := 1) dX10_answer_25 (by decide) ?_
        refine s_callSpI (As := [.int v2, .int (0 : Int32), .int (1 : Int32)]) mf_X10_in vf_X10_in ml_X10_83 (c_X10_in _ E hF σ v2 (0 : Int32) (1 : Int32)) rfl rfl (Nat.le_of_ble_eq_true rfl) rfl dX10_answer_26 (fun r3 => ?_)
        refine s_if_ne 35 dX10_answer_29 (by decide) ?_ ?_
        · skip
          refine s_bipush (v := -3) dX10_answer_32 (by decide) ?_
          exact s_ireturn rfl rfl rfl dX10_answer_34
        · skip
          refine s_iload_n dX10_answer_35 1 rfl rfl ?_
          refine s_iload_n dX10_answer_36 3 rfl rfl ?_
          refine s_ishr dX10_answer_37 ?_
          refine s_iconst (v := 1) dX10_answer_38 (by decide) ?_
          refine s_iand dX10_answer_39 ?_
          refine s_iconst (v := 1) dX10_answer_40 (by decide) ?_
          refine s_icmp_ne 47 dX10_answer_41 (by decide) ?_ ?_
          · skip
            refine s_bipush (v := -4) dX10_answer_44 (by decide) ?_
            exact s_ireturn rfl rfl rfl dX10_answer_46
          · skip
            refine s_aload_n dX10_answer_47 0 rfl rfl ?_
            refine s_callVwV (As := []) mf_X10_guard vf_X10_guard ml_X10_320 (c_X10_guard _ E hF σ) (m100 hF) k100 (by decide) rfl rfl rfl rfl (Nat.le_of_ble_eq_true rfl) rfl dX10_answer_48 (fun _ s4 => ?_)
            refine s_aload_n dX10_answer_51 0 rfl rfl ?_
            refine s_iload_n dX10_answer_52 1 rfl rfl ?_
            refine s_iload_n dX10_answer_53 2 rfl rfl ?_
            refine s_iload_n dX10_answer_54 3 rfl rfl ?_
            refine s_callVpI (As := [.int v1, .int v2, .int v3]) mf_X10_answerOf vf_X10_answerOf ml_X10_311 (c_X10_answerOf _ E hF s4 v1 v2 v3) (m100 hF) k100 (by decide) rfl rfl rfl rfl (Nat.le_of_ble_eq_true rfl) rfl dX10_answer_55 (fun r5 => ?_)
            exact s_ireturn rfl rfl rfl dX10_answer_58
theorem dX10_count_0 : decode cX10_count 0 = .ok (.iconst 0, 1) := by decide +kernel
theorem dX10_count_1 : decode cX10_count 1 = .ok (.istore_n 2, 1) := by decide +kernel
theorem dX10_count_2 : decode cX10_count 2 = .ok (.iload_n 1, 1) := by decide +kernel
theorem dX10_count_3 : decode cX10_count 3 = .ok (.tableswitch 74 0 3 #[29, 34, 64, 69], 29) := by decide +kernel
theorem dX10_count_32 : decode cX10_count 32 = .ok (.aload_n 0, 1) := by decide +kernel
theorem dX10_count_33 : decode cX10_count 33 = .ok (.getfield 7, 3) := by decide +kernel
theorem dX10_count_36 : decode cX10_count 36 = .ok (.ireturn, 1) := by decide +kernel
theorem dX10_count_37 : decode cX10_count 37 = .ok (.iconst 0, 1) := by decide +kernel
theorem dX10_count_38 : decode cX10_count 38 = .ok (.istore_n 3, 1) := by decide +kernel
theorem dX10_count_39 : decode cX10_count 39 = .ok (.iload_n 3, 1) := by decide +kernel
theorem dX10_count_40 : decode cX10_count 40 = .ok (.aload_n 0, 1) := by decide +kernel
theorem dX10_count_41 : decode cX10_count 41 = .ok (.getfield 7, 3) := by decide +kernel
theorem dX10_count_44 : decode cX10_count 44 = .ok (.if_icmp .ge 21, 3) := by decide +kernel
theorem dX10_count_47 : decode cX10_count 47 = .ok (.iload_n 2, 1) := by decide +kernel
theorem dX10_count_48 : decode cX10_count 48 = .ok (.aload_n 0, 1) := by decide +kernel
theorem dX10_count_49 : decode cX10_count 49 = .ok (.getfield 13, 3) := by decide +kernel
theorem dX10_count_52 : decode cX10_count 52 = .ok (.iload_n 3, 1) := by decide +kernel
theorem dX10_count_53 : decode cX10_count 53 = .ok (.iaload, 1) := by decide +kernel
theorem dX10_count_54 : decode cX10_count 54 = .ok (.invokestatic 272, 3) := by decide +kernel
theorem dX10_count_57 : decode cX10_count 57 = .ok (.iadd, 1) := by decide +kernel
theorem dX10_count_58 : decode cX10_count 58 = .ok (.istore_n 2, 1) := by decide +kernel
theorem dX10_count_59 : decode cX10_count 59 = .ok (.iinc 3 1, 3) := by decide +kernel
theorem dX10_count_62 : decode cX10_count 62 = .ok (.goto (-23), 3) := by decide +kernel
theorem dX10_count_65 : decode cX10_count 65 = .ok (.iload_n 2, 1) := by decide +kernel
theorem dX10_count_66 : decode cX10_count 66 = .ok (.ireturn, 1) := by decide +kernel
theorem dX10_count_67 : decode cX10_count 67 = .ok (.aload_n 0, 1) := by decide +kernel
theorem dX10_count_68 : decode cX10_count 68 = .ok (.getfield 97, 3) := by decide +kernel
theorem dX10_count_71 : decode cX10_count 71 = .ok (.ireturn, 1) := by decide +kernel
theorem dX10_count_72 : decode cX10_count 72 = .ok (.aload_n 0, 1) := by decide +kernel
theorem dX10_count_73 : decode cX10_count 73 = .ok (.getfield 94, 3) := by decide +kernel
theorem dX10_count_76 : decode cX10_count 76 = .ok (.ireturn, 1) := by decide +kernel
theorem dX10_count_77 : decode cX10_count 77 = .ok (.bipush (-3), 2) := by decide +kernel
theorem dX10_count_79 : decode cX10_count 79 = .ok (.ireturn, 1) := by decide +kernel
def f_X10_count (σ : St) (v1 : Int32) : Option Int32 :=
  (if v1 = 0 then
    some (σ.1 100 0)
     else
    (if v1 = 1 then
      lo2 FU (fun rec3 (x1 : Int32) (x2 : Int32) =>
        (if x2 < (σ.1 100 0) then
          ck x2 8 <|
            calP (f_X10_bits σ (σ.1 101 x2.toNatClampNeg)) fun r5 =>
              bd (x1 + r5) fun x6 =>
                rec3 x6 (x2 + 1)
           else
          some x1)) (0 : Int32) (0 : Int32)
       else
      (if v1 = 2 then
        some (σ.1 100 2)
         else
        (if v1 = 3 then
          some (σ.1 100 23)
           else
          some (-3 : Int32)))))
set_option maxHeartbeats 4000000 in
set_option maxRecDepth 100000 in
theorem c_X10_count (l : Launch) (E : Ev) (hF : Full E) (σ : St) (v1 : Int32) : Ctr l enI (fun _ => σ) E md_X10_count [rV E 100, .int v1] σ (f_X10_count σ v1) := by
  refine ctr_of rfl (Nat.le_of_ble_eq_true rfl) (fun Γ => ?_)
  show Sim _ Γ _ E md_X10_count σ 0 [(0, rV E 100), (1, .int v1)] [] _
  unfold f_X10_count
  refine s_iconst (v := 0) dX10_count_0 (by decide) ?_
  refine s_istore_n [(2, .int (0 : Int32)), (0, rV E 100), (1, .int v1)] dX10_count_1 rfl (by decide) rfl ?_
  refine s_iload_n dX10_count_2 2 rfl rfl ?_
  refine s_tsw4 (tD := 77) (t0 := 32) (t1 := 37) (t2 := 67) (t3 := 72) dX10_count_3 (by decide) (by decide) (by decide) (by decide) (by decide) ?_ ?_ ?_ ?_ ?_
  · skip
    refine s_bipush (v := -3) dX10_count_77 (by decide) ?_
    exact s_ireturn rfl rfl rfl dX10_count_79
  · skip
    refine s_aload_n dX10_count_32 1 rfl rfl ?_
    refine s_geti gf_X10_7 rfl (m100 hF) k100 (ft_of k100 rfl) dX10_count_33 ?_
    exact s_ireturn rfl rfl rfl dX10_count_36
  · skip
    refine s_iconst (v := 0) dX10_count_37 (by decide) ?_
    refine s_istore_n [(3, .int (0 : Int32)), (2, .int (0 : Int32)), (0, rV E 100), (1, .int v1)] dX10_count_38 rfl (by decide) rfl ?_
    refine s_sub (lv' := [(0, rV E 100), (2, .int (0 : Int32)), (3, .int (0 : Int32))]) [2, 1, 0] rfl ?_
    refine s_lo2 (σf := fun x1 x2 => σ) (lvf := fun x1 x2 => [(0, rV E 100), (2, .int x1), (3, .int x2)]) (fun rec3 ih4 x1 x2 => ?_)
    refine s_iload_n dX10_count_39 2 rfl rfl ?_
    refine s_aload_n dX10_count_40 0 rfl rfl ?_
    refine s_geti gf_X10_7 rfl (m100 hF) k100 (ft_of k100 rfl) dX10_count_41 ?_
    refine s_icmp_ge 65 dX10_count_44 (by decide) ?_ ?_
    · skip
      refine s_iload_n dX10_count_47 1 rfl rfl ?_
      refine s_aload_n dX10_count_48 0 rfl rfl ?_
      refine s_getr (b := 101) gf_X10_13 rfl (m100 hF) k100 (ft_of k100 rfl) (hF.2 _ _) rfl dX10_count_49 ?_
      refine s_iload_n dX10_count_52 2 rfl rfl ?_
      refine s_iald (m101 hF) k101 l101 dX10_count_53 ?_
      refine s_callSpI (As := [.int (σ.1 101 x2.toNatClampNeg)]) mf_X10_bits vf_X10_bits ml_X10_272 (c_X10_bits _ E hF σ (σ.1 101 x2.toNatClampNeg)) rfl rfl (Nat.le_of_ble_eq_true rfl) rfl dX10_count_54 (fun r5 => ?_)
      refine s_iadd dX10_count_57 ?_
      refine s_istore_nB (fun x6 => [(2, .int x6), (0, rV E 100), (3, .int x2)]) dX10_count_58 rfl (by decide) (fun _ => rfl) (fun x6 => ?_)
      refine s_iinc [(3, .int (x2 + 1)), (2, .int x6), (0, rV E 100)] dX10_count_59 2 rfl rfl (by decide) rfl ?_
      refine s_goto 39 dX10_count_62 (by decide) ?_
      refine s_sub [2, 1, 0] rfl ?_
      exact ih4 x6 (x2 + 1)
    · skip
      refine s_iload_n dX10_count_65 1 rfl rfl ?_
      exact s_ireturn rfl rfl rfl dX10_count_66
  · skip
    refine s_aload_n dX10_count_67 1 rfl rfl ?_
    refine s_geti gf_X10_97 rfl (m100 hF) k100 (ft_of k100 rfl) dX10_count_68 ?_
    exact s_ireturn rfl rfl rfl dX10_count_71
  · skip
    refine s_aload_n dX10_count_72 1 rfl rfl ?_
    refine s_geti gf_X10_94 rfl (m100 hF) k100 (ft_of k100 rfl) dX10_count_73 ?_
    exact s_ireturn rfl rfl rfl dX10_count_76
