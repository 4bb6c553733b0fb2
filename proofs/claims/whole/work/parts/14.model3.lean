theorem dX10_rounds_0 : decode cX10_rounds 0 = .ok (.iload_n 1, 1) := by decide +kernel
theorem dX10_rounds_1 : decode cX10_rounds 1 = .ok (.iload_n 3, 1) := by decide +kernel
theorem dX10_rounds_2 : decode cX10_rounds 2 = .ok (.invokestatic 217, 3) := by decide +kernel
theorem dX10_rounds_5 : decode cX10_rounds 5 = .ok (.ifCond .ne 6, 3) := by decide +kernel
theorem dX10_rounds_8 : decode cX10_rounds 8 = .ok (.bipush (-3), 2) := by decide +kernel
theorem dX10_rounds_10 : decode cX10_rounds 10 = .ok (.ireturn, 1) := by decide +kernel
theorem dX10_rounds_11 : decode cX10_rounds 11 = .ok (.aload_n 0, 1) := by decide +kernel
theorem dX10_rounds_12 : decode cX10_rounds 12 = .ok (.iload_n 1, 1) := by decide +kernel
theorem dX10_rounds_13 : decode cX10_rounds 13 = .ok (.iload_n 2, 1) := by decide +kernel
theorem dX10_rounds_14 : decode cX10_rounds 14 = .ok (.invokevirtual 220, 3) := by decide +kernel
theorem dX10_rounds_17 : decode cX10_rounds 17 = .ok (.istore 5, 2) := by decide +kernel
theorem dX10_rounds_19 : decode cX10_rounds 19 = .ok (.iload 5, 2) := by decide +kernel
theorem dX10_rounds_21 : decode cX10_rounds 21 = .ok (.iconst (-1), 1) := by decide +kernel
theorem dX10_rounds_22 : decode cX10_rounds 22 = .ok (.if_icmp .eq 12, 3) := by decide +kernel
theorem dX10_rounds_25 : decode cX10_rounds 25 = .ok (.aload_n 0, 1) := by decide +kernel
theorem dX10_rounds_26 : decode cX10_rounds 26 = .ok (.iload 4, 2) := by decide +kernel
theorem dX10_rounds_28 : decode cX10_rounds 28 = .ok (.invokevirtual 165, 3) := by decide +kernel
theorem dX10_rounds_31 : decode cX10_rounds 31 = .ok (.ifCond .ne 6, 3) := by decide +kernel
theorem dX10_rounds_34 : decode cX10_rounds 34 = .ok (.bipush (-2), 2) := by decide +kernel
theorem dX10_rounds_36 : decode cX10_rounds 36 = .ok (.ireturn, 1) := by decide +kernel
theorem dX10_rounds_37 : decode cX10_rounds 37 = .ok (.aload_n 0, 1) := by decide +kernel
theorem dX10_rounds_38 : decode cX10_rounds 38 = .ok (.iload_n 1, 1) := by decide +kernel
theorem dX10_rounds_39 : decode cX10_rounds 39 = .ok (.iload_n 3, 1) := by decide +kernel
theorem dX10_rounds_40 : decode cX10_rounds 40 = .ok (.invokevirtual 223, 3) := by decide +kernel
theorem dX10_rounds_43 : decode cX10_rounds 43 = .ok (.aload_n 0, 1) := by decide +kernel
theorem dX10_rounds_44 : decode cX10_rounds 44 = .ok (.getfield 28, 3) := by decide +kernel
theorem dX10_rounds_47 : decode cX10_rounds 47 = .ok (.iload_n 1, 1) := by decide +kernel
theorem dX10_rounds_48 : decode cX10_rounds 48 = .ok (.iload_n 3, 1) := by decide +kernel
theorem dX10_rounds_49 : decode cX10_rounds 49 = .ok (.iload 5, 2) := by decide +kernel
theorem dX10_rounds_51 : decode cX10_rounds 51 = .ok (.iload 4, 2) := by decide +kernel
theorem dX10_rounds_53 : decode cX10_rounds 53 = .ok (.invokestatic 182, 3) := by decide +kernel
theorem dX10_rounds_56 : decode cX10_rounds 56 = .ok (.iaload, 1) := by decide +kernel
theorem dX10_rounds_57 : decode cX10_rounds 57 = .ok (.ireturn, 1) := by decide +kernel
def f_X10_rounds (σ : St) (v1 : Int32) (v2 : Int32) (v3 : Int32) (v4 : Int32) : Option (Int32 × St) :=
  calP (f_X10_isChase σ v1 v3) fun r1 =>
    (if r1 = 0 then
      some ((-3 : Int32), σ)
       else
      cal (f_X10_told σ v1 v2) fun r2 s3 =>
        (if r2 = (-1 : Int32) then
          some ((-2 : Int32), s3)
           else
          calP (f_X10_isPlace s3 v4) fun r4 =>
            (if r4 = 0 then
              some ((-2 : Int32), s3)
               else
              cal (f_X10_reckon s3 v1 v3) fun _ s5 =>
                calP (f_X10_at s5 v1 v3 r2 v4) fun r6 =>
                  ck r6 36864 <|
                    some ((s5.1 105 r6.toNatClampNeg), s5))))
set_option maxHeartbeats 4000000 in
set_option maxRecDepth 100000 in
theorem c_X10_rounds (l : Launch) (E : Ev) (hF : Full E) (σ : St) (v1 : Int32) (v2 : Int32) (v3 : Int32) (v4 : Int32) : Ctr l (en2 enI) (fun q => q.2) E md_X10_rounds [rV E 100, .int v1, .int v2, .int v3, .int v4] σ (f_X10_rounds σ v1 v2 v3 v4) := by
  refine ctr_of rfl (Nat.le_of_ble_eq_true rfl) (fun Γ => ?_)
  show Sim _ Γ _ E md_X10_rounds σ 0 [(0, rV E 100), (1, .int v1), (2, .int v2), (3, .int v3), (4, .int v4)] [] _
  unfold f_X10_rounds
  refine s_iload_n dX10_rounds_0 1 rfl rfl ?_
  refine s_iload_n dX10_rounds_1 3 rfl rfl ?_
  refine s_callSpI (As := [.int v1, .int v3]) mf_X10_isChase vf_X10_isChase ml_X10_217 (c_X10_isChase _ E hF σ v1 v3) rfl rfl (Nat.le_of_ble_eq_true rfl) rfl dX10_rounds_2 (fun r1 => ?_)
  refine s_if_ne 11 dX10_rounds_5 (by decide) ?_ ?_
  · skip
    refine s_bipush (v := -3) dX10_rounds_8 (by decide) ?_
    exact s_ireturn rfl rfl rfl dX10_rounds_10
  · skip
    refine s_aload_n dX10_rounds_11 0 rfl rfl ?_
    refine s_iload_n dX10_rounds_12 1 rfl rfl ?_
    refine s_iload_n dX10_rounds_13 2 rfl rfl ?_
    refine s_callVwI (As := [.int v1, .int v2]) mf_X10_told vf_X10_told ml_X10_220 (c_X10_told _ E hF σ v1 v2) (m100 hF) k100 (by decide) rfl rfl rfl rfl (Nat.le_of_ble_eq_true rfl) rfl dX10_rounds_14 (fun r2 s3 => ?_)
    refine s_istore [(5, .int r2), (0, rV E 100), (1, .int v1), (2, .int v2), (3, .int v3), (4, .int v4)] dX10_rounds_17 (by decide) rfl ?_
    refine s_iload dX10_rounds_19 0 rfl ?_
    refine s_iconst (v := -1) dX10_rounds_21 (by decide) ?_
    refine s_icmp_eq 34 dX10_rounds_22 (by decide) ?_ ?_
    · skip
      refine s_bipush (v := -2) dX10_rounds_34 (by decide) ?_
      exact s_ireturn rfl rfl rfl dX10_rounds_36
    · skip
      refine s_aload_n dX10_rounds_25 1 rfl rfl ?_
      refine s_iload dX10_rounds_26 5 rfl ?_
      refine s_callVpI (As := [.int v4]) mf_X10_isPlace vf_X10_isPlace ml_X10_165 (c_X10_isPlace _ E hF s3 v4) (m100 hF) k100 (by decide) rfl rfl rfl rfl (Nat.le_of_ble_eq_true rfl) rfl dX10_rounds_28 (fun r4 => ?_)
      refine s_if_ne 37 dX10_rounds_31 (by decide) ?_ ?_
      · skip
        refine s_bipush (v := -2) dX10_rounds_34 (by decide) ?_
        exact s_ireturn rfl rfl rfl dX10_rounds_36
      · skip
        refine s_aload_n dX10_rounds_37 1 rfl rfl ?_
        refine s_iload_n dX10_rounds_38 2 rfl rfl ?_
        refine s_iload_n dX10_rounds_39 4 rfl rfl ?_
        refine s_callVwV (As := [.int v1, .int v3]) mf_X10_reckon vf_X10_reckon ml_X10_223 (c_X10_reckon _ E hF s3 v1 v3) (m100 hF) k100 (by decide) rfl rfl rfl rfl (Nat.le_of_ble_eq_true rfl) rfl dX10_rounds_40 (fun _ s5 => ?_)
        refine s_aload_n dX10_rounds_43 1 rfl rfl ?_
        refine s_getr (b := 105) gf_X10_28 rfl (m100 hF) k100 (ft_of k100 rfl) (hF.2 _ _) rfl dX10_rounds_44 ?_
        refine s_iload_n dX10_rounds_47 2 rfl rfl ?_
        refine s_iload_n dX10_rounds_48 4 rfl rfl ?_
        refine s_iload dX10_rounds_49 0 rfl ?_
        refine s_iload dX10_rounds_51 5 rfl ?_
        refine s_callSpI (As := [.int v1, .int v3, .int r2, .int v4]) mf_X10_at vf_X10_at ml_X10_182 (c_X10_at _ E hF s5 v1 v3 r2 v4) rfl rfl (Nat.le_of_ble_eq_true rfl) rfl dX10_rounds_53 (fun r6 => ?_)
        refine s_iald (m105 hF) k105 l105 dX10_rounds_56 ?_
        exact s_ireturn rfl rfl rfl dX10_rounds_57
theorem dX10_worthOf_0 : decode cX10_worthOf 0 = .ok (.iconst 0, 1) := by decide +kernel
theorem dX10_worthOf_1 : decode cX10_worthOf 1 = .ok (.istore 4, 2) := by decide +kernel
theorem dX10_worthOf_3 : decode cX10_worthOf 3 = .ok (.iconst 0, 1) := by decide +kernel
theorem dX10_worthOf_4 : decode cX10_worthOf 4 = .ok (.istore 5, 2) := by decide +kernel
theorem dX10_worthOf_6 : decode cX10_worthOf 6 = .ok (.iload 5, 2) := by decide +kernel
theorem dX10_worthOf_8 : decode cX10_worthOf 8 = .ok (.aload_n 0, 1) := by decide +kernel
theorem dX10_worthOf_9 : decode cX10_worthOf 9 = .ok (.getfield 7, 3) := by decide +kernel
theorem dX10_worthOf_12 : decode cX10_worthOf 12 = .ok (.if_icmp .ge 56, 3) := by decide +kernel
theorem dX10_worthOf_15 : decode cX10_worthOf 15 = .ok (.iload 4, 2) := by decide +kernel
theorem dX10_worthOf_17 : decode cX10_worthOf 17 = .ok (.iconst (-1), 1) := by decide +kernel
theorem dX10_worthOf_18 : decode cX10_worthOf 18 = .ok (.if_icmp .eq 50, 3) := by decide +kernel
theorem dX10_worthOf_21 : decode cX10_worthOf 21 = .ok (.aload_n 0, 1) := by decide +kernel
theorem dX10_worthOf_22 : decode cX10_worthOf 22 = .ok (.getfield 28, 3) := by decide +kernel
theorem dX10_worthOf_25 : decode cX10_worthOf 25 = .ok (.iload_n 1, 1) := by decide +kernel
theorem dX10_worthOf_26 : decode cX10_worthOf 26 = .ok (.iload_n 2, 1) := by decide +kernel
theorem dX10_worthOf_27 : decode cX10_worthOf 27 = .ok (.iload_n 3, 1) := by decide +kernel
theorem dX10_worthOf_28 : decode cX10_worthOf 28 = .ok (.iload 5, 2) := by decide +kernel
theorem dX10_worthOf_30 : decode cX10_worthOf 30 = .ok (.invokestatic 182, 3) := by decide +kernel
theorem dX10_worthOf_33 : decode cX10_worthOf 33 = .ok (.iaload, 1) := by decide +kernel
theorem dX10_worthOf_34 : decode cX10_worthOf 34 = .ok (.istore 6, 2) := by decide +kernel
theorem dX10_worthOf_36 : decode cX10_worthOf 36 = .ok (.iload 6, 2) := by decide +kernel
theorem dX10_worthOf_38 : decode cX10_worthOf 38 = .ok (.iconst (-1), 1) := by decide +kernel
theorem dX10_worthOf_39 : decode cX10_worthOf 39 = .ok (.if_icmp .ne 7, 3) := by decide +kernel
theorem dX10_worthOf_42 : decode cX10_worthOf 42 = .ok (.iconst (-1), 1) := by decide +kernel
theorem dX10_worthOf_43 : decode cX10_worthOf 43 = .ok (.goto 17, 3) := by decide +kernel
theorem dX10_worthOf_46 : decode cX10_worthOf 46 = .ok (.iload 6, 2) := by decide +kernel
theorem dX10_worthOf_48 : decode cX10_worthOf 48 = .ok (.iload 4, 2) := by decide +kernel
theorem dX10_worthOf_50 : decode cX10_worthOf 50 = .ok (.if_icmp .le 8, 3) := by decide +kernel
theorem dX10_worthOf_53 : decode cX10_worthOf 53 = .ok (.iload 6, 2) := by decide +kernel
theorem dX10_worthOf_55 : decode cX10_worthOf 55 = .ok (.goto 5, 3) := by decide +kernel
theorem dX10_worthOf_58 : decode cX10_worthOf 58 = .ok (.iload 4, 2) := by decide +kernel
theorem dX10_worthOf_60 : decode cX10_worthOf 60 = .ok (.istore 4, 2) := by decide +kernel
theorem dX10_worthOf_62 : decode cX10_worthOf 62 = .ok (.iinc 5 1, 3) := by decide +kernel
theorem dX10_worthOf_65 : decode cX10_worthOf 65 = .ok (.goto (-59), 3) := by decide +kernel
theorem dX10_worthOf_68 : decode cX10_worthOf 68 = .ok (.iload 4, 2) := by decide +kernel
theorem dX10_worthOf_70 : decode cX10_worthOf 70 = .ok (.ireturn, 1) := by decide +kernel
def f_X10_worthOf (σ : St) (v1 : Int32) (v2 : Int32) (v3 : Int32) : Option Int32 :=
  lo2 FU (fun rec3 (x1 : Int32) (x2 : Int32) =>
    (if x2 < (σ.1 100 0) then
      (if x1 = (-1 : Int32) then
        some x1
         else
        calP (f_X10_at σ v1 v2 v3 x2) fun r5 =>
          ck r5 36864 <|
            bd (σ.1 105 r5.toNatClampNeg) fun x6 =>
              (if x6 = (-1 : Int32) then
                rec3 (-1 : Int32) (x2 + 1)
                 else
                (if x1 < x6 then
                  rec3 x6 (x2 + 1)
                   else
                  rec3 x1 (x2 + 1))))
       else
      some x1)) (0 : Int32) (0 : Int32)
set_option maxHeartbeats 4000000 in
set_option maxRecDepth 100000 in
theorem c_X10_worthOf (l : Launch) (E : Ev) (hF : Full E) (σ : St) (v1 : Int32) (v2 : Int32) (v3 : Int32) : Ctr l enI (fun _ => σ) E md_X10_worthOf [rV E 100, .int v1, .int v2, .int v3] σ (f_X10_worthOf σ v1 v2 v3) := by
  refine ctr_of rfl (Nat.le_of_ble_eq_true rfl) (fun Γ => ?_)
  show Sim _ Γ _ E md_X10_worthOf σ 0 [(0, rV E 100), (1, .int v1), (2, .int v2), (3, .int v3)] [] _
  unfold f_X10_worthOf
  refine s_iconst (v := 0) dX10_worthOf_0 (by decide) ?_
  refine s_istore [(4, .int (0 : Int32)), (0, rV E 100), (1, .int v1), (2, .int v2), (3, .int v3)] dX10_worthOf_1 (by decide) rfl ?_
  refine s_iconst (v := 0) dX10_worthOf_3 (by decide) ?_
  refine s_istore [(5, .int (0 : Int32)), (4, .int (0 : Int32)), (0, rV E 100), (1, .int v1), (2, .int v2), (3, .int v3)] dX10_worthOf_4 (by decide) rfl ?_
  refine s_sub (lv' := [(0, rV E 100), (1, .int v1), (2, .int v2), (3, .int v3), (4, .int (0 : Int32)), (5, .int (0 : Int32))]) [2, 3, 4, 5, 1, 0] rfl ?_
  refine s_lo2 (σf := fun x1 x2 => σ) (lvf := fun x1 x2 => [(0, rV E 100), (1, .int v1), (2, .int v2), (3, .int v3), (4, .int x1), (5, .int x2)]) (fun rec3 ih4 x1 x2 => ?_)
  refine s_iload dX10_worthOf_6 5 rfl ?_
  refine s_aload_n dX10_worthOf_8 0 rfl rfl ?_
  refine s_geti gf_X10_7 rfl (m100 hF) k100 (ft_of k100 rfl) dX10_worthOf_9 ?_
  refine s_icmp_ge 68 dX10_worthOf_12 (by decide) ?_ ?_
  · skip
    refine s_iload dX10_worthOf_15 4 rfl ?_
    refine s_iconst (v := -1) dX10_worthOf_17 (by decide) ?_
    refine s_icmp_eq 68 dX10_worthOf_18 (by decide) ?_ ?_
    · skip
      refine s_iload dX10_worthOf_68 4 rfl ?_
      exact s_ireturn rfl rfl rfl dX10_worthOf_70
    · skip
      refine s_aload_n dX10_worthOf_21 0 rfl rfl ?_
      refine s_getr (b := 105) gf_X10_28 rfl (m100 hF) k100 (ft_of k100 rfl) (hF.2 _ _) rfl dX10_worthOf_22 ?_
      refine s_iload_n dX10_worthOf_25 1 rfl rfl ?_
      refine s_iload_n dX10_worthOf_26 2 rfl rfl ?_
      refine s_iload_n dX10_worthOf_27 3 rfl rfl ?_
      refine s_iload dX10_worthOf_28 5 rfl ?_
      refine s_callSpI (As := [.int v1, .int v2, .int v3, .int x2]) mf_X10_at vf_X10_at ml_X10_182 (c_X10_at _ E hF σ v1 v2 v3 x2) rfl rfl (Nat.le_of_ble_eq_true rfl) rfl dX10_worthOf_30 (fun r5 => ?_)
      refine s_iald (m105 hF) k105 l105 dX10_worthOf_33 ?_
      refine s_istoreB (fun x6 => [(6, .int x6), (0, rV E 100), (1, .int v1), (2, .int v2), (3, .int v3), (4, .int x1), (5, .int x2)]) dX10_worthOf_34 (by decide) (fun _ => rfl) (fun x6 => ?_)
      refine s_iload dX10_worthOf_36 0 rfl ?_
      refine s_iconst (v := -1) dX10_worthOf_38 (by decide) ?_
      refine s_icmp_ne 46 dX10_worthOf_39 (by decide) ?_ ?_
      · skip
        refine s_iconst (v := -1) dX10_worthOf_42 (by decide) ?_
        refine s_goto 60 dX10_worthOf_43 (by decide) ?_
        refine s_istore [(4, .int (-1 : Int32)), (6, .int x6), (0, rV E 100), (1, .int v1), (2, .int v2), (3, .int v3), (5, .int x2)] dX10_worthOf_60 (by decide) rfl ?_
        refine s_iinc [(5, .int (x2 + 1)), (4, .int (-1 : Int32)), (6, .int x6), (0, rV E 100), (1, .int v1), (2, .int v2), (3, .int v3)] dX10_worthOf_62 6 rfl rfl (by decide) rfl ?_
        refine s_goto 6 dX10_worthOf_65 (by decide) ?_
        refine s_sub [3, 4, 5, 6, 1, 0] rfl ?_
        exact ih4 (-1 : Int32) (x2 + 1)
      · skip
        refine s_iload dX10_worthOf_46 0 rfl ?_
        refine s_iload dX10_worthOf_48 5 rfl ?_
        refine s_icmp_le 58 dX10_worthOf_50 (by decide) ?_ ?_
        · skip
          refine s_iload dX10_worthOf_53 0 rfl ?_
          refine s_goto 60 dX10_worthOf_55 (by decide) ?_
          refine s_istore [(4, .int x6), (6, .int x6), (0, rV E 100), (1, .int v1), (2, .int v2), (3, .int v3), (5, .int x2)] dX10_worthOf_60 (by decide) rfl ?_
          refine s_iinc [(5, .int (x2 + 1)), (4, .int x6), (6, .int x6), (0, rV E 100), (1, .int v1), (2, .int v2), (3, .int v3)] dX10_worthOf_62 6 rfl rfl (by decide) rfl ?_
          refine s_goto 6 dX10_worthOf_65 (by decide) ?_
          refine s_sub [3, 4, 5, 6, 1, 0] rfl ?_
          exact ih4 x6 (x2 + 1)
        · skip
          refine s_iload dX10_worthOf_58 5 rfl ?_
          refine s_istore [(4, .int x1), (6, .int x6), (0, rV E 100), (1, .int v1), (2, .int v2), (3, .int v3), (5, .int x2)] dX10_worthOf_60 (by decide) rfl ?_
          refine s_iinc [(5, .int (x2 + 1)), (4, .int x1), (6, .int x6), (0, rV E 100), (1, .int v1), (2, .int v2), (3, .int v3)] dX10_worthOf_62 6 rfl rfl (by decide) rfl ?_
          refine s_goto 6 dX10_worthOf_65 (by decide) ?_
          refine s_sub [3, 4, 5, 6, 1, 0] rfl ?_
          exact ih4 x1 (x2 + 1)
  · skip
    refine s_iload dX10_worthOf_68 4 rfl ?_
    exact s_ireturn rfl rfl rfl dX10_worthOf_70
theorem dX10_worth_0 : decode cX10_worth 0 = .ok (.iload_n 1, 1) := by decide +kernel
theorem dX10_worth_1 : decode cX10_worth 1 = .ok (.iload_n 3, 1) := by decide +kernel
theorem dX10_worth_2 : decode cX10_worth 2 = .ok (.invokestatic 217, 3) := by decide +kernel
theorem dX10_worth_5 : decode cX10_worth 5 = .ok (.ifCond .ne 6, 3) := by decide +kernel
theorem dX10_worth_8 : decode cX10_worth 8 = .ok (.bipush (-3), 2) := by decide +kernel
theorem dX10_worth_10 : decode cX10_worth 10 = .ok (.ireturn, 1) := by decide +kernel
theorem dX10_worth_11 : decode cX10_worth 11 = .ok (.aload_n 0, 1) := by decide +kernel
theorem dX10_worth_12 : decode cX10_worth 12 = .ok (.iload_n 1, 1) := by decide +kernel
theorem dX10_worth_13 : decode cX10_worth 13 = .ok (.iload_n 2, 1) := by decide +kernel
theorem dX10_worth_14 : decode cX10_worth 14 = .ok (.invokevirtual 220, 3) := by decide +kernel
theorem dX10_worth_17 : decode cX10_worth 17 = .ok (.istore 4, 2) := by decide +kernel
theorem dX10_worth_19 : decode cX10_worth 19 = .ok (.iload 4, 2) := by decide +kernel
theorem dX10_worth_21 : decode cX10_worth 21 = .ok (.iconst (-1), 1) := by decide +kernel
theorem dX10_worth_22 : decode cX10_worth 22 = .ok (.if_icmp .ne 6, 3) := by decide +kernel
theorem dX10_worth_25 : decode cX10_worth 25 = .ok (.bipush (-2), 2) := by decide +kernel
theorem dX10_worth_27 : decode cX10_worth 27 = .ok (.ireturn, 1) := by decide +kernel
theorem dX10_worth_28 : decode cX10_worth 28 = .ok (.aload_n 0, 1) := by decide +kernel
theorem dX10_worth_29 : decode cX10_worth 29 = .ok (.iload_n 1, 1) := by decide +kernel
theorem dX10_worth_30 : decode cX10_worth 30 = .ok (.iload_n 3, 1) := by decide +kernel
theorem dX10_worth_31 : decode cX10_worth 31 = .ok (.invokevirtual 223, 3) := by decide +kernel
theorem dX10_worth_34 : decode cX10_worth 34 = .ok (.aload_n 0, 1) := by decide +kernel
theorem dX10_worth_35 : decode cX10_worth 35 = .ok (.iload_n 1, 1) := by decide +kernel
theorem dX10_worth_36 : decode cX10_worth 36 = .ok (.iload_n 3, 1) := by decide +kernel
theorem dX10_worth_37 : decode cX10_worth 37 = .ok (.iload 4, 2) := by decide +kernel
theorem dX10_worth_39 : decode cX10_worth 39 = .ok (.invokevirtual 226, 3) := by decide +kernel
theorem dX10_worth_42 : decode cX10_worth 42 = .ok (.ireturn, 1) := by decide +kernel
def f_X10_worth (σ : St) (v1 : Int32) (v2 : Int32) (v3 : Int32) : Option (Int32 × St) :=
  calP (f_X10_isChase σ v1 v3) fun r1 =>
    (if r1 = 0 then
      some ((-3 : Int32), σ)
       else
      cal (f_X10_told σ v1 v2) fun r2 s3 =>
        (if r2 = (-1 : Int32) then
          some ((-2 : Int32), s3)
           else
          cal (f_X10_reckon s3 v1 v3) fun _ s4 =>
            calP (f_X10_worthOf s4 v1 v3 r2) fun r5 =>
              some (r5, s4)))
set_option maxHeartbeats 4000000 in
set_option maxRecDepth 100000 in
theorem c_X10_worth (l : Launch) (E : Ev) (hF : Full E) (σ : St) (v1 : Int32) (v2 : Int32) (v3 : Int32) : Ctr l (en2 enI) (fun q => q.2) E md_X10_worth [rV E 100, .int v1, .int v2, .int v3] σ (f_X10_worth σ v1 v2 v3) := by
  refine ctr_of rfl (Nat.le_of_ble_eq_true rfl) (fun Γ => ?_)
  show Sim _ Γ _ E md_X10_worth σ 0 [(0, rV E 100), (1, .int v1), (2, .int v2), (3, .int v3)] [] _
  unfold f_X10_worth
  refine s_iload_n dX10_worth_0 1 rfl rfl ?_
  refine s_iload_n dX10_worth_1 3 rfl rfl ?_
  refine s_callSpI (As := [.int v1, .int v3]) mf_X10_isChase vf_X10_isChase ml_X10_217 (c_X10_isChase _ E hF σ v1 v3) rfl rfl (Nat.le_of_ble_eq_true rfl) rfl dX10_worth_2 (fun r1 => ?_)
  refine s_if_ne 11 dX10_worth_5 (by decide) ?_ ?_
  · skip
    refine s_bipush (v := -3) dX10_worth_8 (by decide) ?_
    exact s_ireturn rfl rfl rfl dX10_worth_10
  · skip
    refine s_aload_n dX10_worth_11 0 rfl rfl ?_
    refine s_iload_n dX10_worth_12 1 rfl rfl ?_
    refine s_iload_n dX10_worth_13 2 rfl rfl ?_
    refine s_callVwI (As := [.int v1, .int v2]) mf_X10_told vf_X10_told ml_X10_220 (c_X10_told _ E hF σ v1 v2) (m100 hF) k100 (by decide) rfl rfl rfl rfl (Nat.le_of_ble_eq_true rfl) rfl dX10_worth_14 (fun r2 s3 => ?_)
    refine s_istore [(4, .int r2), (0, rV E 100), (1, .int v1), (2, .int v2), (3, .int v3)] dX10_worth_17 (by decide) rfl ?_
    refine s_iload dX10_worth_19 0 rfl ?_
    refine s_iconst (v := -1) dX10_worth_21 (by decide) ?_
    refine s_icmp_ne 28 dX10_worth_22 (by decide) ?_ ?_
    · skip
      refine s_bipush (v := -2) dX10_worth_25 (by decide) ?_
      exact s_ireturn rfl rfl rfl dX10_worth_27
    · skip
      refine s_aload_n dX10_worth_28 1 rfl rfl ?_
      refine s_iload_n dX10_worth_29 2 rfl rfl ?_
      refine s_iload_n dX10_worth_30 4 rfl rfl ?_
      refine s_callVwV (As := [.int v1, .int v3]) mf_X10_reckon vf_X10_reckon ml_X10_223 (c_X10_reckon _ E hF s3 v1 v3) (m100 hF) k100 (by decide) rfl rfl rfl rfl (Nat.le_of_ble_eq_true rfl) rfl dX10_worth_31 (fun _ s4 => ?_)
      refine s_aload_n dX10_worth_34 1 rfl rfl ?_
      refine s_iload_n dX10_worth_35 2 rfl rfl ?_
      refine s_iload_n dX10_worth_36 4 rfl rfl ?_
      refine s_iload dX10_worth_37 0 rfl ?_
      refine s_callVpI (As := [.int v1, .int v3, .int r2]) mf_X10_worthOf vf_X10_worthOf ml_X10_226 (c_X10_worthOf _ E hF s4 v1 v3 r2) (m100 hF) k100 (by decide) rfl rfl rfl rfl (Nat.le_of_ble_eq_true rfl) rfl dX10_worth_39 (fun r5 => ?_)
      exact s_ireturn rfl rfl rfl dX10_worth_42
theorem dX10_bestOf_0 : decode cX10_bestOf 0 = .ok (.aload_n 0, 1) := by decide +kernel
theorem dX10_bestOf_1 : decode cX10_bestOf 1 = .ok (.iload_n 1, 1) := by decide +kernel
theorem dX10_bestOf_2 : decode cX10_bestOf 2 = .ok (.iload_n 2, 1) := by decide +kernel
theorem dX10_bestOf_3 : decode cX10_bestOf 3 = .ok (.invokevirtual 223, 3) := by decide +kernel
theorem dX10_bestOf_6 : decode cX10_bestOf 6 = .ok (.iconst (-1), 1) := by decide +kernel
theorem dX10_bestOf_7 : decode cX10_bestOf 7 = .ok (.istore_n 3, 1) := by decide +kernel
theorem dX10_bestOf_8 : decode cX10_bestOf 8 = .ok (.iconst 0, 1) := by decide +kernel
theorem dX10_bestOf_9 : decode cX10_bestOf 9 = .ok (.istore 4, 2) := by decide +kernel
theorem dX10_bestOf_11 : decode cX10_bestOf 11 = .ok (.iload 4, 2) := by decide +kernel
theorem dX10_bestOf_13 : decode cX10_bestOf 13 = .ok (.iload_n 1, 1) := by decide +kernel
theorem dX10_bestOf_14 : decode cX10_bestOf 14 = .ok (.invokestatic 186, 3) := by decide +kernel
theorem dX10_bestOf_17 : decode cX10_bestOf 17 = .ok (.if_icmp .ge 61, 3) := by decide +kernel
theorem dX10_bestOf_20 : decode cX10_bestOf 20 = .ok (.aload_n 0, 1) := by decide +kernel
theorem dX10_bestOf_21 : decode cX10_bestOf 21 = .ok (.iload_n 1, 1) := by decide +kernel
theorem dX10_bestOf_22 : decode cX10_bestOf 22 = .ok (.iload 4, 2) := by decide +kernel
theorem dX10_bestOf_24 : decode cX10_bestOf 24 = .ok (.invokevirtual 189, 3) := by decide +kernel
theorem dX10_bestOf_27 : decode cX10_bestOf 27 = .ok (.ifCond .eq 45, 3) := by decide +kernel
theorem dX10_bestOf_30 : decode cX10_bestOf 30 = .ok (.aload_n 0, 1) := by decide +kernel
theorem dX10_bestOf_31 : decode cX10_bestOf 31 = .ok (.iload_n 1, 1) := by decide +kernel
theorem dX10_bestOf_32 : decode cX10_bestOf 32 = .ok (.iload_n 2, 1) := by decide +kernel
theorem dX10_bestOf_33 : decode cX10_bestOf 33 = .ok (.iload 4, 2) := by decide +kernel
theorem dX10_bestOf_35 : decode cX10_bestOf 35 = .ok (.invokevirtual 226, 3) := by decide +kernel
theorem dX10_bestOf_38 : decode cX10_bestOf 38 = .ok (.iconst (-1), 1) := by decide +kernel
theorem dX10_bestOf_39 : decode cX10_bestOf 39 = .ok (.if_icmp .eq 33, 3) := by decide +kernel
theorem dX10_bestOf_42 : decode cX10_bestOf 42 = .ok (.iload_n 3, 1) := by decide +kernel
theorem dX10_bestOf_43 : decode cX10_bestOf 43 = .ok (.iconst (-1), 1) := by decide +kernel
theorem dX10_bestOf_44 : decode cX10_bestOf 44 = .ok (.if_icmp .eq 21, 3) := by decide +kernel
theorem dX10_bestOf_47 : decode cX10_bestOf 47 = .ok (.aload_n 0, 1) := by decide +kernel
theorem dX10_bestOf_48 : decode cX10_bestOf 48 = .ok (.iload_n 1, 1) := by decide +kernel
theorem dX10_bestOf_49 : decode cX10_bestOf 49 = .ok (.iload_n 2, 1) := by decide +kernel
theorem dX10_bestOf_50 : decode cX10_bestOf 50 = .ok (.iload 4, 2) := by decide +kernel
theorem dX10_bestOf_52 : decode cX10_bestOf 52 = .ok (.invokevirtual 226, 3) := by decide +kernel
theorem dX10_bestOf_55 : decode cX10_bestOf 55 = .ok (.aload_n 0, 1) := by decide +kernel
theorem dX10_bestOf_56 : decode cX10_bestOf 56 = .ok (.iload_n 1, 1) := by decide +kernel
theorem dX10_bestOf_57 : decode cX10_bestOf 57 = .ok (.iload_n 2, 1) := by decide +kernel
theorem dX10_bestOf_58 : decode cX10_bestOf 58 = .ok (.iload_n 3, 1) := by decide +kernel
theorem dX10_bestOf_59 : decode cX10_bestOf 59 = .ok (.invokevirtual 226, 3) := by decide +kernel
theorem dX10_bestOf_62 : decode cX10_bestOf 62 = .ok (.if_icmp .ge 8, 3) := by decide +kernel
theorem dX10_bestOf_65 : decode cX10_bestOf 65 = .ok (.iload 4, 2) := by decide +kernel
theorem dX10_bestOf_67 : decode cX10_bestOf 67 = .ok (.goto 4, 3) := by decide +kernel
theorem dX10_bestOf_70 : decode cX10_bestOf 70 = .ok (.iload_n 3, 1) := by decide +kernel
theorem dX10_bestOf_71 : decode cX10_bestOf 71 = .ok (.istore_n 3, 1) := by decide +kernel
theorem dX10_bestOf_72 : decode cX10_bestOf 72 = .ok (.iinc 4 1, 3) := by decide +kernel
theorem dX10_bestOf_75 : decode cX10_bestOf 75 = .ok (.goto (-64), 3) := by decide +kernel
theorem dX10_bestOf_78 : decode cX10_bestOf 78 = .ok (.iload_n 3, 1) := by decide +kernel
theorem dX10_bestOf_79 : decode cX10_bestOf 79 = .ok (.ireturn, 1) := by decide +kernel
def f_X10_bestOf (σ : St) (v1 : Int32) (v2 : Int32) : Option (Int32 × St) :=
  cal (f_X10_reckon σ v1 v2) fun _ s1 =>
    lo3 FU (fun rec5 (s2 : St) (x3 : Int32) (x4 : Int32) =>
      calP (f_X10_powerOf s2 v1) fun r7 =>
        (if x4 < r7 then
          cal (f_X10_isSetting s2 v1 x4) fun r8 s9 =>
            (if r8 = 0 then
              rec5 s9 x3 (x4 + 1)
               else
              calP (f_X10_worthOf s9 v1 v2 x4) fun r10 =>
                (if r10 = (-1 : Int32) then
                  rec5 s9 x3 (x4 + 1)
                   else
                  (if x3 = (-1 : Int32) then
                    rec5 s9 x4 (x4 + 1)
                     else
                    calP (f_X10_worthOf s9 v1 v2 x4) fun r11 =>
                      calP (f_X10_worthOf s9 v1 v2 x3) fun r12 =>
                        (if r11 < r12 then
                          rec5 s9 x4 (x4 + 1)
                           else
                          rec5 s9 x3 (x4 + 1)))))
           else
          some (x3, s2))) s1 (-1 : Int32) (0 : Int32)
set_option maxHeartbeats 4000000 in
set_option maxRecDepth 100000 in
theorem c_X10_bestOf (l : Launch) (E : Ev) (hF : Full E) (σ : St) (v1 : Int32) (v2 : Int32) : Ctr l (en2 enI) (fun q => q.2) E md_X10_bestOf [rV E 100, .int v1, .int v2] σ (f_X10_bestOf σ v1 v2) := by
  refine ctr_of rfl (Nat.le_of_ble_eq_true rfl) (fun Γ => ?_)
  show Sim _ Γ _ E md_X10_bestOf σ 0 [(0, rV E 100), (1, .int v1), (2, .int v2)] [] _
  unfold f_X10_bestOf
  refine s_aload_n dX10_bestOf_0 0 rfl rfl ?_
  refine s_iload_n dX10_bestOf_1 1 rfl rfl ?_
  refine s_iload_n dX10_bestOf_2 2 rfl rfl ?_
  refine s_callVwV (As := [.int v1, .int v2]) mf_X10_reckon vf_X10_reckon ml_X10_223 (c_X10_reckon _ E hF σ v1 v2) (m100 hF) k100 (by decide) rfl rfl rfl rfl (Nat.le_of_ble_eq_true rfl) rfl dX10_bestOf_3 (fun _ s1 => ?_)
  refine s_iconst (v := -1) dX10_bestOf_6 (by decide) ?_
  refine s_istore_n [(3, .int (-1 : Int32)), (0, rV E 100), (1, .int v1), (2, .int v2)] dX10_bestOf_7 rfl (by decide) rfl ?_
  refine s_iconst (v := 0) dX10_bestOf_8 (by decide) ?_
  refine s_istore [(4, .int (0 : Int32)), (3, .int (-1 : Int32)), (0, rV E 100), (1, .int v1), (2, .int v2)] dX10_bestOf_9 (by decide) rfl ?_
  refine s_sub (lv' := [(0, rV E 100), (1, .int v1), (2, .int v2), (3, .int (-1 : Int32)), (4, .int (0 : Int32))]) [2, 3, 4, 1, 0] rfl ?_
  refine s_lo3 (σf := fun s2 x3 x4 => s2) (lvf := fun s2 x3 x4 => [(0, rV E 100), (1, .int v1), (2, .int v2), (3, .int x3), (4, .int x4)]) (fun rec5 ih6 s2 x3 x4 => ?_)
  refine s_iload dX10_bestOf_11 4 rfl ?_
  refine s_iload_n dX10_bestOf_13 1 rfl rfl ?_
  refine s_callSpI (As := [.int v1]) mf_X10_powerOf vf_X10_powerOf ml_X10_186 (c_X10_powerOf _ E hF s2 v1) rfl rfl (Nat.le_of_ble_eq_true rfl) rfl dX10_bestOf_14 (fun r7 => ?_)
  refine s_icmp_ge 78 dX10_bestOf_17 (by decide) ?_ ?_
  · skip
    refine s_aload_n dX10_bestOf_20 0 rfl rfl ?_
    refine s_iload_n dX10_bestOf_21 1 rfl rfl ?_
    refine s_iload dX10_bestOf_22 4 rfl ?_
    refine s_callVwI (As := [.int v1, .int x4]) mf_X10_isSetting vf_X10_isSetting ml_X10_189 (c_X10_isSetting _ E hF s2 v1 x4) (m100 hF) k100 (by decide) rfl rfl rfl rfl (Nat.le_of_ble_eq_true rfl) rfl dX10_bestOf_24 (fun r8 s9 => ?_)
    refine s_if_eq 72 dX10_bestOf_27 (by decide) ?_ ?_
    · skip
      refine s_iinc [(4, .int (x4 + 1)), (0, rV E 100), (1, .int v1), (2, .int v2), (3, .int x3)] dX10_bestOf_72 4 rfl rfl (by decide) rfl ?_
      refine s_goto 11 dX10_bestOf_75 (by decide) ?_
      refine s_sub [1, 2, 3, 4, 0] rfl ?_
      exact ih6 s9 x3 (x4 + 1)
    · skip
      refine s_aload_n dX10_bestOf_30 0 rfl rfl ?_
      refine s_iload_n dX10_bestOf_31 1 rfl rfl ?_
      refine s_iload_n dX10_bestOf_32 2 rfl rfl ?_
      refine s_iload dX10_bestOf_33 4 rfl ?_
      refine s_callVpI (As := [.int v1, .int v2, .int x4]) mf_X10_worthOf vf_X10_worthOf ml_X10_226 (c_X10_worthOf _ E hF s9 v1 v2 x4) (m100 hF) k100 (by decide) rfl rfl rfl rfl (Nat.le_of_ble_eq_true rfl) rfl dX10_bestOf_35 (fun r10 => ?_)
      refine s_iconst (v := -1) dX10_bestOf_38 (by decide) ?_
      refine s_icmp_eq 72 dX10_bestOf_39 (by decide) ?_ ?_
      · skip
        refine s_iinc [(4, .int (x4 + 1)), (0, rV E 100), (1, .int v1), (2, .int v2), (3, .int x3)] dX10_bestOf_72 4 rfl rfl (by decide) rfl ?_
        refine s_goto 11 dX10_bestOf_75 (by decide) ?_
        refine s_sub [1, 2, 3, 4, 0] rfl ?_
        exact ih6 s9 x3 (x4 + 1)
      · skip
        refine s_iload_n dX10_bestOf_42 3 rfl rfl ?_
        refine s_iconst (v := -1) dX10_bestOf_43 (by decide) ?_
        refine s_icmp_eq 65 dX10_bestOf_44 (by decide) ?_ ?_
        · skip
          refine s_iload dX10_bestOf_65 4 rfl ?_
          refine s_goto 71 dX10_bestOf_67 (by decide) ?_
          refine s_istore_n [(3, .int x4), (0, rV E 100), (1, .int v1), (2, .int v2), (4, .int x4)] dX10_bestOf_71 rfl (by decide) rfl ?_
          refine s_iinc [(4, .int (x4 + 1)), (3, .int x4), (0, rV E 100), (1, .int v1), (2, .int v2)] dX10_bestOf_72 4 rfl rfl (by decide) rfl ?_
          refine s_goto 11 dX10_bestOf_75 (by decide) ?_
          refine s_sub [2, 3, 4, 1, 0] rfl ?_
          exact ih6 s9 x4 (x4 + 1)
        · skip
          refine s_aload_n dX10_bestOf_47 0 rfl rfl ?_
          refine s_iload_n dX10_bestOf_48 1 rfl rfl ?_
          refine s_iload_n dX10_bestOf_49 2 rfl rfl ?_
          refine s_iload dX10_bestOf_50 4 rfl ?_
          refine s_callVpI (As := [.int v1, .int v2, .int x4]) mf_X10_worthOf vf_X10_worthOf ml_X10_226 (c_X10_worthOf _ E hF s9 v1 v2 x4) (m100 hF) k100 (by decide) rfl rfl rfl rfl (Nat.le_of_ble_eq_true rfl) rfl dX10_bestOf_52 (fun r11 => ?_)
          refine s_aload_n dX10_bestOf_55 0 rfl rfl ?_
          refine s_iload_n dX10_bestOf_56 1 rfl rfl ?_
          refine s_iload_n dX10_bestOf_57 2 rfl rfl ?_
          refine s_iload_n dX10_bestOf_58 3 rfl rfl ?_
          refine s_callVpI (As := [.int v1, .int v2, .int x3]) mf_X10_worthOf vf_X10_worthOf ml_X10_226 (c_X10_worthOf _ E hF s9 v1 v2 x3) (m100 hF) k100 (by decide) rfl rfl rfl rfl (Nat.le_of_ble_eq_true rfl) rfl dX10_bestOf_59 (fun r12 => ?_)
          refine s_icmp_ge 70 dX10_bestOf_62 (by decide) ?_ ?_
          · skip
            refine s_iload dX10_bestOf_65 4 rfl ?_
            refine s_goto 71 dX10_bestOf_67 (by decide) ?_
            refine s_istore_n [(3, .int x4), (0, rV E 100), (1, .int v1), (2, .int v2), (4, .int x4)] dX10_bestOf_71 rfl (by decide) rfl ?_
            refine s_iinc [(4, .int (x4 + 1)), (3, .int x4), (0, rV E 100), (1, .int v1), (2, .int v2)] dX10_bestOf_72 4 rfl rfl (by decide) rfl ?_
            refine s_goto 11 dX10_bestOf_75 (by decide) ?_
            refine s_sub [2, 3, 4, 1, 0] rfl ?_
            exact ih6 s9 x4 (x4 + 1)
          · skip
            refine s_iload_n dX10_bestOf_70 3 rfl rfl ?_
            refine s_istore_n [(3, .int x3), (0, rV E 100), (1, .int v1), (2, .int v2), (4, .int x4)] dX10_bestOf_71 rfl (by decide) rfl ?_
            refine s_iinc [(4, .int (x4 + 1)), (3, .int x3), (0, rV E 100), (1, .int v1), (2, .int v2)] dX10_bestOf_72 4 rfl rfl (by decide) rfl ?_
            refine s_goto 11 dX10_bestOf_75 (by decide) ?_
            refine s_sub [2, 3, 4, 1, 0] rfl ?_
            exact ih6 s9 x3 (x4 + 1)
  · skip
    refine s_iload_n dX10_bestOf_78 3 rfl rfl ?_
    exact s_ireturn rfl rfl rfl dX10_bestOf_79
theorem dX10_best_0 : decode cX10_best 0 = .ok (.iload_n 1, 1) := by decide +kernel
theorem dX10_best_1 : decode cX10_best 1 = .ok (.iload_n 2, 1) := by decide +kernel
theorem dX10_best_2 : decode cX10_best 2 = .ok (.invokestatic 217, 3) := by decide +kernel
theorem dX10_best_5 : decode cX10_best 5 = .ok (.ifCond .eq 12, 3) := by decide +kernel
theorem dX10_best_8 : decode cX10_best 8 = .ok (.iload_n 3, 1) := by decide +kernel
theorem dX10_best_9 : decode cX10_best 9 = .ok (.iconst 0, 1) := by decide +kernel
theorem dX10_best_10 : decode cX10_best 10 = .ok (.iconst 1, 1) := by decide +kernel
theorem dX10_best_11 : decode cX10_best 11 = .ok (.invokestatic 83, 3) := by decide +kernel
theorem dX10_best_14 : decode cX10_best 14 = .ok (.ifCond .ne 6, 3) := by decide +kernel
theorem dX10_best_17 : decode cX10_best 17 = .ok (.bipush (-3), 2) := by decide +kernel
theorem dX10_best_19 : decode cX10_best 19 = .ok (.ireturn, 1) := by decide +kernel
theorem dX10_best_20 : decode cX10_best 20 = .ok (.aload_n 0, 1) := by decide +kernel
theorem dX10_best_21 : decode cX10_best 21 = .ok (.iload_n 1, 1) := by decide +kernel
theorem dX10_best_22 : decode cX10_best 22 = .ok (.iload_n 2, 1) := by decide +kernel
theorem dX10_best_23 : decode cX10_best 23 = .ok (.invokevirtual 229, 3) := by decide +kernel
theorem dX10_best_26 : decode cX10_best 26 = .ok (.istore 4, 2) := by decide +kernel
theorem dX10_best_28 : decode cX10_best 28 = .ok (.iload 4, 2) := by decide +kernel
theorem dX10_best_30 : decode cX10_best 30 = .ok (.iconst (-1), 1) := by decide +kernel
theorem dX10_best_31 : decode cX10_best 31 = .ok (.if_icmp .eq 7, 3) := by decide +kernel
theorem dX10_best_34 : decode cX10_best 34 = .ok (.iload_n 3, 1) := by decide +kernel
theorem dX10_best_35 : decode cX10_best 35 = .ok (.ifCond .ne 8, 3) := by decide +kernel
theorem dX10_best_38 : decode cX10_best 38 = .ok (.iload 4, 2) := by decide +kernel
theorem dX10_best_40 : decode cX10_best 40 = .ok (.goto 11, 3) := by decide +kernel
theorem dX10_best_43 : decode cX10_best 43 = .ok (.aload_n 0, 1) := by decide +kernel
theorem dX10_best_44 : decode cX10_best 44 = .ok (.iload_n 1, 1) := by decide +kernel
theorem dX10_best_45 : decode cX10_best 45 = .ok (.iload_n 2, 1) := by decide +kernel
theorem dX10_best_46 : decode cX10_best 46 = .ok (.iload 4, 2) := by decide +kernel
theorem dX10_best_48 : decode cX10_best 48 = .ok (.invokevirtual 226, 3) := by decide +kernel
theorem dX10_best_51 : decode cX10_best 51 = .ok (.ireturn, 1) := by decide +kernel
def f_X10_best (σ : St) (v1 : Int32) (v2 : Int32) (v3 : Int32) : Option (Int32 × St) :=
  calP (f_X10_isChase σ v1 v2) fun r1 =>
    (if r1 = 0 then
      some ((-3 : Int32), σ)
       else
      calP (f_X10_in σ v3 (0 : Int32) (1 : Int32)) fun r2 =>
        (if r2 = 0 then
          some ((-3 : Int32), σ)
           else
          cal (f_X10_bestOf σ v1 v2) fun r3 s4 =>
            (if r3 = (-1 : Int32) then
              some (r3, s4)
               else
              (if v3 = 0 then
                some (r3, s4)
                 else
                calP (f_X10_worthOf s4 v1 v2 r3) fun r5 =>
                  some (r5, s4)))))
set_option maxHeartbeats 4000000 in
set_option maxRecDepth 100000 in
theorem c_X10_best (l : Launch) (E : Ev) (hF : Full E) (σ : St) (v1 : Int32) (v2 : Int32) (v3 : Int32) : Ctr l (en2 enI) (fun q => q.2) E md_X10_best [rV E 100, .int v1, .int v2, .int v3] σ (f_X10_best σ v1 v2 v3) := by
  refine ctr_of rfl (Nat.le_of_ble_eq_true rfl) (fun Γ => ?_)
  show Sim _ Γ _ E md_X10_best σ 0 [(0, rV E 100), (1, .int v1), (2, .int v2), (3, .int v3)] [] _
  unfold f_X10_best
  refine s_iload_n dX10_best_0 1 rfl rfl ?_
  refine s_iload_n dX10_best_1 2 rfl rfl ?_
  refine s_callSpI (As := [.int v1, .int v2]) mf_X10_isChase vf_X10_isChase ml_X10_217 (c_X10_isChase _ E hF σ v1 v2) rfl rfl (Nat.le_of_ble_eq_true rfl) rfl dX10_best_2 (fun r1 => ?_)
  refine s_if_eq 17 dX10_best_5 (by decide) ?_ ?_
  · skip
    refine s_bipush (v := -3) dX10_best_17 (by decide) ?_
    exact s_ireturn rfl rfl rfl dX10_best_19
  · skip
    refine s_iload_n dX10_best_8 3 rfl rfl ?_
    refine s_iconst (v := 0) dX10_best_9 (by decide) ?_
    refine s_iconst (v := 1) dX10_best_10 (by decide) ?_
    refine s_callSpI (As := [.int v3, .int (0 : Int32), .int (1 : Int32)]) mf_X10_in vf_X10_in ml_X10_83 (c_X10_in _ E hF σ v3 (0 : Int32) (1 : Int32)) rfl rfl (Nat.le_of_ble_eq_true rfl) rfl dX10_best_11 (fun r2 => ?_)
    refine s_if_ne 20 dX10_best_14 (by decide) ?_ ?_
    · skip
      refine s_bipush (v := -3) dX10_best_17 (by decide) ?_
      exact s_ireturn rfl rfl rfl dX10_best_19
    · skip
      refine s_aload_n dX10_best_20 0 rfl rfl ?_
      refine s_iload_n dX10_best_21 1 rfl rfl ?_
      refine s_iload_n dX10_best_22 2 rfl rfl ?_
      refine s_callVwI (As := [.int v1, .int v2]) mf_X10_bestOf vf_X10_bestOf ml_X10_229 (c_X10_bestOf _ E hF σ v1 v2) (m100 hF) k100 (by decide) rfl rfl rfl rfl (Nat.le_of_ble_eq_true rfl) rfl dX10_best_23 (fun r3 s4 => ?_)
      refine s_istore [(4, .int r3), (0, rV E 100), (1, .int v1), (2, .int v2), (3, .int v3)] dX10_best_26 (by decide) rfl ?_
      refine s_iload dX10_best_28 0 rfl ?_
      refine s_iconst (v := -1) dX10_best_30 (by decide) ?_
      refine s_icmp_eq 38 dX10_best_31 (by decide) ?_ ?_
      · skip
        refine s_iload dX10_best_38 0 rfl ?_
        refine s_goto 51 dX10_best_40 (by decide) ?_
        exact s_ireturn rfl rfl rfl dX10_best_51
      · skip
        refine s_iload_n dX10_best_34 4 rfl rfl ?_
        refine s_if_ne 43 dX10_best_35 (by decide) ?_ ?_
        · skip
          refine s_iload dX10_best_38 0 rfl ?_
          refine s_goto 51 dX10_best_40 (by decide) ?_
          exact s_ireturn rfl rfl rfl dX10_best_51
        · skip
          refine s_aload_n dX10_best_43 1 rfl rfl ?_
          refine s_iload_n dX10_best_44 2 rfl rfl ?_
          refine s_iload_n dX10_best_45 3 rfl rfl ?_
          refine s_iload dX10_best_46 0 rfl ?_
          refine s_callVpI (As := [.int v1, .int v2, .int r3]) mf_X10_worthOf vf_X10_worthOf ml_X10_226 (c_X10_worthOf _ E hF s4 v1 v2 r3) (m100 hF) k100 (by decide) rfl rfl rfl rfl (Nat.le_of_ble_eq_true rfl) rfl dX10_best_48 (fun r5 => ?_)
          exact s_ireturn rfl rfl rfl dX10_best_51
theorem dX10_fewest_0 : decode cX10_fewest 0 = .ok (.iload_n 1, 1) := by decide +kernel
theorem dX10_fewest_1 : decode cX10_fewest 1 = .ok (.iconst 1, 1) := by decide +kernel
theorem dX10_fewest_2 : decode cX10_fewest 2 = .ok (.iconst 3, 1) := by decide +kernel
theorem dX10_fewest_3 : decode cX10_fewest 3 = .ok (.invokestatic 83, 3) := by decide +kernel
theorem dX10_fewest_6 : decode cX10_fewest 6 = .ok (.ifCond .ne 6, 3) := by decide +kernel
theorem dX10_fewest_9 : decode cX10_fewest 9 = .ok (.bipush (-3), 2) := by decide +kernel
theorem dX10_fewest_11 : decode cX10_fewest 11 = .ok (.ireturn, 1) := by decide +kernel
theorem dX10_fewest_12 : decode cX10_fewest 12 = .ok (.iconst 1, 1) := by decide +kernel
theorem dX10_fewest_13 : decode cX10_fewest 13 = .ok (.istore_n 2, 1) := by decide +kernel
theorem dX10_fewest_14 : decode cX10_fewest 14 = .ok (.iload_n 2, 1) := by decide +kernel
theorem dX10_fewest_15 : decode cX10_fewest 15 = .ok (.iconst 4, 1) := by decide +kernel
theorem dX10_fewest_16 : decode cX10_fewest 16 = .ok (.if_icmp .ge 21, 3) := by decide +kernel
theorem dX10_fewest_19 : decode cX10_fewest 19 = .ok (.aload_n 0, 1) := by decide +kernel
theorem dX10_fewest_20 : decode cX10_fewest 20 = .ok (.iload_n 2, 1) := by decide +kernel
theorem dX10_fewest_21 : decode cX10_fewest 21 = .ok (.iload_n 1, 1) := by decide +kernel
theorem dX10_fewest_22 : decode cX10_fewest 22 = .ok (.invokevirtual 229, 3) := by decide +kernel
theorem dX10_fewest_25 : decode cX10_fewest 25 = .ok (.iconst (-1), 1) := by decide +kernel
theorem dX10_fewest_26 : decode cX10_fewest 26 = .ok (.if_icmp .eq 5, 3) := by decide +kernel
theorem dX10_fewest_29 : decode cX10_fewest 29 = .ok (.iload_n 2, 1) := by decide +kernel
theorem dX10_fewest_30 : decode cX10_fewest 30 = .ok (.ireturn, 1) := by decide +kernel
theorem dX10_fewest_31 : decode cX10_fewest 31 = .ok (.iinc 2 1, 3) := by decide +kernel
theorem dX10_fewest_34 : decode cX10_fewest 34 = .ok (.goto (-20), 3) := by decide +kernel
theorem dX10_fewest_37 : decode cX10_fewest 37 = .ok (.iconst (-1), 1) := by decide +kernel
theorem dX10_fewest_38 : decode cX10_fewest 38 = .ok (.ireturn, 1) := by decide +kernel
def f_X10_fewest (σ : St) (v1 : Int32) : Option (Int32 × St) :=
  calP (f_X10_in σ v1 (1 : Int32) (3 : Int32)) fun r1 =>
    (if r1 = 0 then
      some ((-3 : Int32), σ)
       else
      lo2 FU (fun rec4 (s2 : St) (x3 : Int32) =>
        (if x3 < (4 : Int32) then
          cal (f_X10_bestOf s2 x3 v1) fun r6 s7 =>
            (if r6 = (-1 : Int32) then
              rec4 s7 (x3 + 1)
               else
              some (x3, s7))
           else
          some ((-1 : Int32), s2))) σ (1 : Int32))
set_option maxHeartbeats 4000000 in
set_option maxRecDepth 100000 in
theorem c_X10_fewest (l : Launch) (E : Ev) (hF : Full E) (σ : St) (v1 : Int32) : Ctr l (en2 enI) (fun q => q.2) E md_X10_fewest [rV E 100, .int v1] σ (f_X10_fewest σ v1) := by
  refine ctr_of rfl (Nat.le_of_ble_eq_true rfl) (fun Γ => ?_)
  show Sim _ Γ _ E md_X10_fewest σ 0 [(0, rV E 100), (1, .int v1)] [] _
  unfold f_X10_fewest
  refine s_iload_n dX10_fewest_0 1 rfl rfl ?_
  refine s_iconst (v := 1) dX10_fewest_1 (by decide) ?_
  refine s_iconst (v := 3) dX10_fewest_2 (by decide) ?_
  refine s_callSpI (As := [.int v1, .int (1 : Int32), .int (3 : Int32)]) mf_X10_in vf_X10_in ml_X10_83 (c_X10_in _ E hF σ v1 (1 : Int32) (3 : Int32)) rfl rfl (Nat.le_of_ble_eq_true rfl) rfl dX10_fewest_3 (fun r1 => ?_)
  refine s_if_ne 12 dX10_fewest_6 (by decide) ?_ ?_
  · skip
    refine s_bipush (v := -3) dX10_fewest_9 (by decide) ?_
    exact s_ireturn rfl rfl rfl dX10_fewest_11
  · skip
    refine s_iconst (v := 1) dX10_fewest_12 (by decide) ?_
    refine s_istore_n [(2, .int (1 : Int32)), (0, rV E 100), (1, .int v1)] dX10_fewest_13 rfl (by decide) rfl ?_
    refine s_sub (lv' := [(0, rV E 100), (1, .int v1), (2, .int (1 : Int32))]) [1, 2, 0] rfl ?_
    refine s_lo2 (σf := fun s2 x3 => s2) (lvf := fun s2 x3 => [(0, rV E 100), (1, .int v1), (2, .int x3)]) (fun rec4 ih5 s2 x3 => ?_)
    refine s_iload_n dX10_fewest_14 2 rfl rfl ?_
    refine s_iconst (v := 4) dX10_fewest_15 (by decide) ?_
    refine s_icmp_ge 37 dX10_fewest_16 (by decide) ?_ ?_
    · skip
      refine s_aload_n dX10_fewest_19 0 rfl rfl ?_
      refine s_iload_n dX10_fewest_20 2 rfl rfl ?_
      refine s_iload_n dX10_fewest_21 1 rfl rfl ?_
      refine s_callVwI (As := [.int x3, .int v1]) mf_X10_bestOf vf_X10_bestOf ml_X10_229 (c_X10_bestOf _ E hF s2 x3 v1) (m100 hF) k100 (by decide) rfl rfl rfl rfl (Nat.le_of_ble_eq_true rfl) rfl dX10_fewest_22 (fun r6 s7 => ?_)
      refine s_iconst (v := -1) dX10_fewest_25 (by decide) ?_
      refine s_icmp_eq 31 dX10_fewest_26 (by decide) ?_ ?_
      · skip
        refine s_iinc [(2, .int (x3 + 1)), (0, rV E 100), (1, .int v1)] dX10_fewest_31 2 rfl rfl (by decide) rfl ?_
        refine s_goto 14 dX10_fewest_34 (by decide) ?_
        refine s_sub [1, 2, 0] rfl ?_
        exact ih5 s7 (x3 + 1)
      · skip
        refine s_iload_n dX10_fewest_29 2 rfl rfl ?_
        exact s_ireturn rfl rfl rfl dX10_fewest_30
    · skip
      refine s_iconst (v := -1) dX10_fewest_37 (by decide) ?_
      exact s_ireturn rfl rfl rfl dX10_fewest_38
theorem dX10_escapes_0 : decode cX10_escapes 0 = .ok (.iload_n 1, 1) := by decide +kernel
theorem dX10_escapes_1 : decode cX10_escapes 1 = .ok (.iload_n 2, 1) := by decide +kernel
theorem dX10_escapes_2 : decode cX10_escapes 2 = .ok (.invokestatic 217, 3) := by decide +kernel
theorem dX10_escapes_5 : decode cX10_escapes 5 = .ok (.ifCond .ne 6, 3) := by decide +kernel
theorem dX10_escapes_8 : decode cX10_escapes 8 = .ok (.bipush (-3), 2) := by decide +kernel
theorem dX10_escapes_10 : decode cX10_escapes 10 = .ok (.ireturn, 1) := by decide +kernel
theorem dX10_escapes_11 : decode cX10_escapes 11 = .ok (.aload_n 0, 1) := by decide +kernel
theorem dX10_escapes_12 : decode cX10_escapes 12 = .ok (.iload_n 1, 1) := by decide +kernel
theorem dX10_escapes_13 : decode cX10_escapes 13 = .ok (.iload_n 2, 1) := by decide +kernel
theorem dX10_escapes_14 : decode cX10_escapes 14 = .ok (.invokevirtual 223, 3) := by decide +kernel
theorem dX10_escapes_17 : decode cX10_escapes 17 = .ok (.iconst 0, 1) := by decide +kernel
theorem dX10_escapes_18 : decode cX10_escapes 18 = .ok (.istore_n 3, 1) := by decide +kernel
theorem dX10_escapes_19 : decode cX10_escapes 19 = .ok (.iconst 0, 1) := by decide +kernel
theorem dX10_escapes_20 : decode cX10_escapes 20 = .ok (.istore 4, 2) := by decide +kernel
theorem dX10_escapes_22 : decode cX10_escapes 22 = .ok (.iload 4, 2) := by decide +kernel
theorem dX10_escapes_24 : decode cX10_escapes 24 = .ok (.iload_n 1, 1) := by decide +kernel
theorem dX10_escapes_25 : decode cX10_escapes 25 = .ok (.invokestatic 186, 3) := by decide +kernel
theorem dX10_escapes_28 : decode cX10_escapes 28 = .ok (.if_icmp .ge 63, 3) := by decide +kernel
theorem dX10_escapes_31 : decode cX10_escapes 31 = .ok (.iconst 0, 1) := by decide +kernel
theorem dX10_escapes_32 : decode cX10_escapes 32 = .ok (.istore 5, 2) := by decide +kernel
theorem dX10_escapes_34 : decode cX10_escapes 34 = .ok (.iload 5, 2) := by decide +kernel
theorem dX10_escapes_36 : decode cX10_escapes 36 = .ok (.aload_n 0, 1) := by decide +kernel
theorem dX10_escapes_37 : decode cX10_escapes 37 = .ok (.getfield 7, 3) := by decide +kernel
theorem dX10_escapes_40 : decode cX10_escapes 40 = .ok (.if_icmp .ge 45, 3) := by decide +kernel
theorem dX10_escapes_43 : decode cX10_escapes 43 = .ok (.aload_n 0, 1) := by decide +kernel
theorem dX10_escapes_44 : decode cX10_escapes 44 = .ok (.iload_n 1, 1) := by decide +kernel
theorem dX10_escapes_45 : decode cX10_escapes 45 = .ok (.iload 4, 2) := by decide +kernel
theorem dX10_escapes_47 : decode cX10_escapes 47 = .ok (.invokevirtual 189, 3) := by decide +kernel
theorem dX10_escapes_50 : decode cX10_escapes 50 = .ok (.ifCond .eq 35, 3) := by decide +kernel
theorem dX10_escapes_53 : decode cX10_escapes 53 = .ok (.iload_n 3, 1) := by decide +kernel
theorem dX10_escapes_54 : decode cX10_escapes 54 = .ok (.aload_n 0, 1) := by decide +kernel
theorem dX10_escapes_55 : decode cX10_escapes 55 = .ok (.getfield 28, 3) := by decide +kernel
theorem dX10_escapes_58 : decode cX10_escapes 58 = .ok (.iload_n 1, 1) := by decide +kernel
theorem dX10_escapes_59 : decode cX10_escapes 59 = .ok (.iload_n 2, 1) := by decide +kernel
theorem dX10_escapes_60 : decode cX10_escapes 60 = .ok (.iload 4, 2) := by decide +kernel
theorem dX10_escapes_62 : decode cX10_escapes 62 = .ok (.iload 5, 2) := by decide +kernel
theorem dX10_escapes_64 : decode cX10_escapes 64 = .ok (.invokestatic 182, 3) := by decide +kernel
theorem dX10_escapes_67 : decode cX10_escapes 67 = .ok (.iaload, 1) := by decide +kernel
theorem dX10_escapes_68 : decode cX10_escapes 68 = .ok (.iconst (-1), 1) := by decide +kernel
theorem dX10_escapes_69 : decode cX10_escapes 69 = .ok (.if_icmp .ne 7, 3) := by decide +kernel
theorem dX10_escapes_72 : decode cX10_escapes 72 = .ok (.iconst 1, 1) := by decide +kernel
theorem dX10_escapes_73 : decode cX10_escapes 73 = .ok (.goto 4, 3) := by decide +kernel
theorem dX10_escapes_76 : decode cX10_escapes 76 = .ok (.iconst 0, 1) := by decide +kernel
theorem dX10_escapes_77 : decode cX10_escapes 77 = .ok (.iadd, 1) := by decide +kernel
theorem dX10_escapes_78 : decode cX10_escapes 78 = .ok (.istore_n 3, 1) := by decide +kernel
theorem dX10_escapes_79 : decode cX10_escapes 79 = .ok (.iinc 5 1, 3) := by decide +kernel
theorem dX10_escapes_82 : decode cX10_escapes 82 = .ok (.goto (-48), 3) := by decide +kernel
theorem dX10_escapes_85 : decode cX10_escapes 85 = .ok (.iinc 4 1, 3) := by decide +kernel
theorem dX10_escapes_88 : decode cX10_escapes 88 = .ok (.goto (-66), 3) := by decide +kernel
theorem dX10_escapes_91 : decode cX10_escapes 91 = .ok (.iload_n 3, 1) := by decide +kernel
theorem dX10_escapes_92 : decode cX10_escapes 92 = .ok (.ireturn, 1) := by decide +kernel
def f_X10_escapes (σ : St) (v1 : Int32) (v2 : Int32) : Option (Int32 × St) :=
  calP (f_X10_isChase σ v1 v2) fun r1 =>
    (if r1 = 0 then
      some ((-3 : Int32), σ)
       else
      cal (f_X10_reckon σ v1 v2) fun _ s2 =>
        lo3 FU (fun rec6 (s3 : St) (x4 : Int32) (x5 : Int32) =>
          calP (f_X10_powerOf s3 v1) fun r8 =>
            (if x5 < r8 then
              lo3 FU (fun rec12 (s9 : St) (x10 : Int32) (x11 : Int32) =>
                (if x11 < (s9.1 100 0) then
                  cal (f_X10_isSetting s9 v1 x5) fun r14 s15 =>
                    (if r14 = 0 then
                      rec6 s15 x10 (x5 + 1)
                       else
                      calP (f_X10_at s15 v1 v2 x5 x11) fun r16 =>
                        ck r16 36864 <|
                          (if (s15.1 105 r16.toNatClampNeg) = (-1 : Int32) then
                            bd (x10 + (1 : Int32)) fun x17 =>
                              rec12 s15 x17 (x11 + 1)
                             else
                            bd (x10 + (0 : Int32)) fun x18 =>
                              rec12 s15 x18 (x11 + 1)))
                   else
                  rec6 s9 x10 (x5 + 1))) s3 x4 (0 : Int32)
               else
              some (x4, s3))) s2 (0 : Int32) (0 : Int32))
set_option maxHeartbeats 4000000 in
set_option maxRecDepth 100000 in
theorem c_X10_escapes (l : Launch) (E : Ev) (hF : Full E) (σ : St) (v1 : Int32) (v2 : Int32) : Ctr l (en2 enI) (fun q => q.2) E md_X10_escapes [rV E 100, .int v1, .int v2] σ (f_X10_escapes σ v1 v2) := by
  refine ctr_of rfl (Nat.le_of_ble_eq_true rfl) (fun Γ => ?_)
  show Sim _ Γ _ E md_X10_escapes σ 0 [(0, rV E 100), (1, .int v1), (2, .int v2)] [] _
  unfold f_X10_escapes
  refine s_iload_n dX10_escapes_0 1 rfl rfl ?_
  refine s_iload_n dX10_escapes_1 2 rfl rfl ?_
  refine s_callSpI (As := [.int v1, .int v2]) mf_X10_isChase vf_X10_isChase ml_X10_217 (c_X10_isChase _ E hF σ v1 v2) rfl rfl (Nat.le_of_ble_eq_true rfl) rfl dX10_escapes_2 (fun r1 => ?_)
  refine s_if_ne 11 dX10_escapes_5 (by decide) ?_ ?_
  · skip
    refine s_bipush (v := -3) dX10_escapes_8 (by decide) ?_
    exact s_ireturn rfl rfl rfl dX10_escapes_10
  · skip
    refine s_aload_n dX10_escapes_11 0 rfl rfl ?_
    refine s_iload_n dX10_escapes_12 1 rfl rfl ?_
    refine s_iload_n dX10_escapes_13 2 rfl rfl ?_
    refine s_callVwV (As := [.int v1, .int v2]) mf_X10_reckon vf_X10_reckon ml_X10_223 (c_X10_reckon _ E hF σ v1 v2) (m100 hF) k100 (by decide) rfl rfl rfl rfl (Nat.le_of_ble_eq_true rfl) rfl dX10_escapes_14 (fun _ s2 => ?_)
    refine s_iconst (v := 0) dX10_escapes_17 (by decide) ?_
    refine s_istore_n [(3, .int (0 : Int32)), (0, rV E 100), (1, .int v1), (2, .int v2)] dX10_escapes_18 rfl (by decide) rfl ?_
    refine s_iconst (v := 0) dX10_escapes_19 (by decide) ?_
    refine s_istore [(4, .int (0 : Int32)), (3, .int (0 : Int32)), (0, rV E 100), (1, .int v1), (2, .int v2)] dX10_escapes_20 (by decide) rfl ?_
    refine s_sub (lv' := [(0, rV E 100), (1, .int v1), (2, .int v2), (3, .int (0 : Int32)), (4, .int (0 : Int32))]) [2, 3, 4, 1, 0] rfl ?_
    refine s_lo3 (σf := fun s3 x4 x5 => s3) (lvf := fun s3 x4 x5 => [(0, rV E 100), (1, .int v1), (2, .int v2), (3, .int x4), (4, .int x5)]) (fun rec6 ih7 s3 x4 x5 => ?_)
    refine s_iload dX10_escapes_22 4 rfl ?_
    refine s_iload_n dX10_escapes_24 1 rfl rfl ?_
    refine s_callSpI (As := [.int v1]) mf_X10_powerOf vf_X10_powerOf ml_X10_186 (c_X10_powerOf _ E hF s3 v1) rfl rfl (Nat.le_of_ble_eq_true rfl) rfl dX10_escapes_25 (fun r8 => ?_)
    refine s_icmp_ge 91 dX10_escapes_28 (by decide) ?_ ?_
    · skip
      refine s_iconst (v := 0) dX10_escapes_31 (by decide) ?_
      refine s_istore [(5, .int (0 : Int32)), (0, rV E 100), (1, .int v1), (2, .int v2), (3, .int x4), (4, .int x5)] dX10_escapes_32 (by decide) rfl ?_
      refine s_sub (lv' := [(0, rV E 100), (1, .int v1), (2, .int v2), (3, .int x4), (4, .int x5), (5, .int (0 : Int32))]) [1, 2, 3, 4, 5, 0] rfl ?_
      refine s_lo3 (σf := fun s9 x10 x11 => s9) (lvf := fun s9 x10 x11 => [(0, rV E 100), (1, .int v1), (2, .int v2), (3, .int x10), (4, .int x5), (5, .int x11)]) (fun rec12 ih13 s9 x10 x11 => ?_)
      refine s_iload dX10_escapes_34 5 rfl ?_
      refine s_aload_n dX10_escapes_36 0 rfl rfl ?_
      refine s_geti gf_X10_7 rfl (m100 hF) k100 (ft_of k100 rfl) dX10_escapes_37 ?_
      refine s_icmp_ge 85 dX10_escapes_40 (by decide) ?_ ?_
      · skip
        refine s_aload_n dX10_escapes_43 0 rfl rfl ?_
        refine s_iload_n dX10_escapes_44 1 rfl rfl ?_
        refine s_iload dX10_escapes_45 4 rfl ?_
        refine s_callVwI (As := [.int v1, .int x5]) mf_X10_isSetting vf_X10_isSetting ml_X10_189 (c_X10_isSetting _ E hF s9 v1 x5) (m100 hF) k100 (by decide) rfl rfl rfl rfl (Nat.le_of_ble_eq_true rfl) rfl dX10_escapes_47 (fun r14 s15 => ?_)
        refine s_if_eq 85 dX10_escapes_50 (by decide) ?_ ?_
        · skip
          refine s_iinc [(4, .int (x5 + 1)), (0, rV E 100), (1, .int v1), (2, .int v2), (3, .int x10), (5, .int x11)] dX10_escapes_85 4 rfl rfl (by decide) rfl ?_
          refine s_goto 22 dX10_escapes_88 (by decide) ?_
          refine s_sub [1, 2, 3, 4, 0] rfl ?_
          exact ih7 s15 x10 (x5 + 1)
        · skip
          refine s_iload_n dX10_escapes_53 3 rfl rfl ?_
          refine s_aload_n dX10_escapes_54 0 rfl rfl ?_
          refine s_getr (b := 105) gf_X10_28 rfl (m100 hF) k100 (ft_of k100 rfl) (hF.2 _ _) rfl dX10_escapes_55 ?_
          refine s_iload_n dX10_escapes_58 1 rfl rfl ?_
          refine s_iload_n dX10_escapes_59 2 rfl rfl ?_
          refine s_iload dX10_escapes_60 4 rfl ?_
          refine s_iload dX10_escapes_62 5 rfl ?_
          refine s_callSpI (As := [.int v1, .int v2, .int x5, .int x11]) mf_X10_at vf_X10_at ml_X10_182 (c_X10_at _ E hF s15 v1 v2 x5 x11) rfl rfl (Nat.le_of_ble_eq_true rfl) rfl dX10_escapes_64 (fun r16 => ?_)
          refine s_iald (m105 hF) k105 l105 dX10_escapes_67 ?_
          refine s_iconst (v := -1) dX10_escapes_68 (by decide) ?_
          refine s_icmp_ne 76 dX10_escapes_69 (by decide) ?_ ?_
          · skip
            refine s_iconst (v := 1) dX10_escapes_72 (by decide) ?_
            refine s_goto 77 dX10_escapes_73 (by decide) ?_
            refine s_iadd dX10_escapes_77 ?_
            refine s_istore_nB (fun x17 => [(3, .int x17), (0, rV E 100), (1, .int v1), (2, .int v2), (4, .int x5), (5, .int x11)]) dX10_escapes_78 rfl (by decide) (fun _ => rfl) (fun x17 => ?_)
            refine s_iinc [(5, .int (x11 + 1)), (3, .int x17), (0, rV E 100), (1, .int v1), (2, .int v2), (4, .int x5)] dX10_escapes_79 5 rfl rfl (by decide) rfl ?_
            refine s_goto 34 dX10_escapes_82 (by decide) ?_
            refine s_sub [2, 3, 4, 1, 5, 0] rfl ?_
            exact ih13 s15 x17 (x11 + 1)
          · skip
            refine s_iconst (v := 0) dX10_escapes_76 (by decide) ?_
            refine s_iadd dX10_escapes_77 ?_
            refine s_istore_nB (fun x18 => [(3, .int x18), (0, rV E 100), (1, .int v1), (2, .int v2), (4, .int x5), (5, .int x11)]) dX10_escapes_78 rfl (by decide) (fun _ => rfl) (fun x18 => ?_)
            refine s_iinc [(5, .int (x11 + 1)), (3, .int x18), (0, rV E 100), (1, .int v1), (2, .int v2), (4, .int x5)] dX10_escapes_79 5 rfl rfl (by decide) rfl ?_
            refine s_goto 34 dX10_escapes_82 (by decide) ?_
            refine s_sub [2, 3, 4, 1, 5, 0] rfl ?_
            exact ih13 s15 x18 (x11 + 1)
      · skip
        refine s_iinc [(4, .int (x5 + 1)), (0, rV E 100), (1, .int v1), (2, .int v2), (3, .int x10), (5, .int x11)] dX10_escapes_85 4 rfl rfl (by decide) rfl ?_
        refine s_goto 22 dX10_escapes_88 (by decide) ?_
        refine s_sub [1, 2, 3, 4, 0] rfl ?_
        exact ih7 s9 x10 (x5 + 1)
    · skip
      refine s_iload_n dX10_escapes_91 3 rfl rfl ?_
      exact s_ireturn rfl rfl rfl dX10_escapes_92
theorem dX10_huntOf_0 : decode cX10_huntOf 0 = .ok (.aload_n 0, 1) := by decide +kernel
theorem dX10_huntOf_1 : decode cX10_huntOf 1 = .ok (.iload_n 1, 1) := by decide +kernel
theorem dX10_huntOf_2 : decode cX10_huntOf 2 = .ok (.iload_n 2, 1) := by decide +kernel
theorem dX10_huntOf_3 : decode cX10_huntOf 3 = .ok (.invokevirtual 223, 3) := by decide +kernel
theorem dX10_huntOf_6 : decode cX10_huntOf 6 = .ok (.iconst (-1), 1) := by decide +kernel
theorem dX10_huntOf_7 : decode cX10_huntOf 7 = .ok (.istore 5, 2) := by decide +kernel
theorem dX10_huntOf_9 : decode cX10_huntOf 9 = .ok (.iconst (-1), 1) := by decide +kernel
theorem dX10_huntOf_10 : decode cX10_huntOf 10 = .ok (.istore 6, 2) := by decide +kernel
theorem dX10_huntOf_12 : decode cX10_huntOf 12 = .ok (.iconst 0, 1) := by decide +kernel
theorem dX10_huntOf_13 : decode cX10_huntOf 13 = .ok (.istore 7, 2) := by decide +kernel
theorem dX10_huntOf_15 : decode cX10_huntOf 15 = .ok (.iload 7, 2) := by decide +kernel
theorem dX10_huntOf_17 : decode cX10_huntOf 17 = .ok (.iload_n 1, 1) := by decide +kernel
theorem dX10_huntOf_18 : decode cX10_huntOf 18 = .ok (.invokestatic 186, 3) := by decide +kernel
theorem dX10_huntOf_21 : decode cX10_huntOf 21 = .ok (.if_icmp .ge 82, 3) := by decide +kernel
theorem dX10_huntOf_24 : decode cX10_huntOf 24 = .ok (.aload_n 0, 1) := by decide +kernel
theorem dX10_huntOf_25 : decode cX10_huntOf 25 = .ok (.iload_n 1, 1) := by decide +kernel
theorem dX10_huntOf_26 : decode cX10_huntOf 26 = .ok (.iload_n 3, 1) := by decide +kernel
theorem dX10_huntOf_27 : decode cX10_huntOf 27 = .ok (.iload 7, 2) := by decide +kernel
theorem dX10_huntOf_29 : decode cX10_huntOf 29 = .ok (.invokevirtual 201, 3) := by decide +kernel
theorem dX10_huntOf_32 : decode cX10_huntOf 32 = .ok (.istore 8, 2) := by decide +kernel
theorem dX10_huntOf_34 : decode cX10_huntOf 34 = .ok (.iload 8, 2) := by decide +kernel
theorem dX10_huntOf_36 : decode cX10_huntOf 36 = .ok (.iconst (-1), 1) := by decide +kernel
theorem dX10_huntOf_37 : decode cX10_huntOf 37 = .ok (.if_icmp .ne 7, 3) := by decide +kernel
theorem dX10_huntOf_40 : decode cX10_huntOf 40 = .ok (.iconst (-1), 1) := by decide +kernel
theorem dX10_huntOf_41 : decode cX10_huntOf 41 = .ok (.goto 13, 3) := by decide +kernel
theorem dX10_huntOf_44 : decode cX10_huntOf 44 = .ok (.aload_n 0, 1) := by decide +kernel
theorem dX10_huntOf_45 : decode cX10_huntOf 45 = .ok (.iload_n 1, 1) := by decide +kernel
theorem dX10_huntOf_46 : decode cX10_huntOf 46 = .ok (.iload_n 2, 1) := by decide +kernel
theorem dX10_huntOf_47 : decode cX10_huntOf 47 = .ok (.iload 8, 2) := by decide +kernel
theorem dX10_huntOf_49 : decode cX10_huntOf 49 = .ok (.iload 4, 2) := by decide +kernel
theorem dX10_huntOf_51 : decode cX10_huntOf 51 = .ok (.invokevirtual 204, 3) := by decide +kernel
theorem dX10_huntOf_54 : decode cX10_huntOf 54 = .ok (.istore 9, 2) := by decide +kernel
theorem dX10_huntOf_56 : decode cX10_huntOf 56 = .ok (.iload 9, 2) := by decide +kernel
theorem dX10_huntOf_58 : decode cX10_huntOf 58 = .ok (.iconst (-1), 1) := by decide +kernel
theorem dX10_huntOf_59 : decode cX10_huntOf 59 = .ok (.if_icmp .eq 38, 3) := by decide +kernel
theorem dX10_huntOf_62 : decode cX10_huntOf 62 = .ok (.iload 6, 2) := by decide +kernel
theorem dX10_huntOf_64 : decode cX10_huntOf 64 = .ok (.iconst (-1), 1) := by decide +kernel
theorem dX10_huntOf_65 : decode cX10_huntOf 65 = .ok (.if_icmp .eq 24, 3) := by decide +kernel
theorem dX10_huntOf_68 : decode cX10_huntOf 68 = .ok (.iload 9, 2) := by decide +kernel
theorem dX10_huntOf_70 : decode cX10_huntOf 70 = .ok (.iload 6, 2) := by decide +kernel
theorem dX10_huntOf_72 : decode cX10_huntOf 72 = .ok (.if_icmp .lt 17, 3) := by decide +kernel
theorem dX10_huntOf_75 : decode cX10_huntOf 75 = .ok (.iload 9, 2) := by decide +kernel
theorem dX10_huntOf_77 : decode cX10_huntOf 77 = .ok (.iload 6, 2) := by decide +kernel
theorem dX10_huntOf_79 : decode cX10_huntOf 79 = .ok (.if_icmp .ne 18, 3) := by decide +kernel
theorem dX10_huntOf_82 : decode cX10_huntOf 82 = .ok (.iload 8, 2) := by decide +kernel
theorem dX10_huntOf_84 : decode cX10_huntOf 84 = .ok (.iload 5, 2) := by decide +kernel
theorem dX10_huntOf_86 : decode cX10_huntOf 86 = .ok (.if_icmp .ge 11, 3) := by decide +kernel
theorem dX10_huntOf_89 : decode cX10_huntOf 89 = .ok (.iload 8, 2) := by decide +kernel
theorem dX10_huntOf_91 : decode cX10_huntOf 91 = .ok (.istore 5, 2) := by decide +kernel
theorem dX10_huntOf_93 : decode cX10_huntOf 93 = .ok (.iload 9, 2) := by decide +kernel
theorem dX10_huntOf_95 : decode cX10_huntOf 95 = .ok (.istore 6, 2) := by decide +kernel
theorem dX10_huntOf_97 : decode cX10_huntOf 97 = .ok (.iinc 7 1, 3) := by decide +kernel
theorem dX10_huntOf_100 : decode cX10_huntOf 100 = .ok (.goto (-85), 3) := by decide +kernel
theorem dX10_huntOf_103 : decode cX10_huntOf 103 = .ok (.iload 5, 2) := by decide +kernel
theorem dX10_huntOf_105 : decode cX10_huntOf 105 = .ok (.iconst (-1), 1) := by decide +kernel
theorem dX10_huntOf_106 : decode cX10_huntOf 106 = .ok (.if_icmp .ne 7, 3) := by decide +kernel
theorem dX10_huntOf_109 : decode cX10_huntOf 109 = .ok (.iload_n 3, 1) := by decide +kernel
theorem dX10_huntOf_110 : decode cX10_huntOf 110 = .ok (.goto 5, 3) := by decide +kernel
theorem dX10_huntOf_113 : decode cX10_huntOf 113 = .ok (.iload 5, 2) := by decide +kernel
theorem dX10_huntOf_115 : decode cX10_huntOf 115 = .ok (.ireturn, 1) := by decide +kernel
def f_X10_huntOf (σ : St) (v1 : Int32) (v2 : Int32) (v3 : Int32) (v4 : Int32) : Option (Int32 × St) :=
  cal (f_X10_reckon σ v1 v2) fun _ s1 =>
    lo4 FU (fun rec6 (s2 : St) (x3 : Int32) (x4 : Int32) (x5 : Int32) =>
      calP (f_X10_powerOf s2 v1) fun r8 =>
        (if x5 < r8 then
          cal (f_X10_moved s2 v1 v3 x5) fun r9 s10 =>
            jn1 (fun jk12 =>
              (if r9 = (-1 : Int32) then
                jk12 (-1 : Int32)
                 else
                calP (f_X10_behind s10 v1 v2 r9 v4) fun r13 =>
                  jk12 r13))
              (fun (x11 : Int32) => 
              (if x11 = (-1 : Int32) then
                  rec6 s10 x3 x4 (x5 + 1)
                   else
                  (if x4 = (-1 : Int32) then
                    rec6 s10 r9 x11 (x5 + 1)
                     else
                    (if x11 < x4 then
                      rec6 s10 r9 x11 (x5 + 1)
                       else
                      (if x11 = x4 then
                        (if r9 < x3 then
                          rec6 s10 r9 x11 (x5 + 1)
                           else
                          rec6 s10 x3 x4 (x5 + 1))
                         else
                        rec6 s10 x3 x4 (x5 + 1))))))
           else
          (if x3 = (-1 : Int32) then
            some (v3, s2)
             else
            some (x3, s2)))) s1 (-1 : Int32) (-1 : Int32) (0 : Int32)
set_option maxHeartbeats 4000000 in
set_option maxRecDepth 100000 in
theorem c_X10_huntOf (l : Launch) (E : Ev) (hF : Full E) (σ : St) (v1 : Int32) (v2 : Int32) (v3 : Int32) (v4 : Int32) : Ctr l (en2 enI) (fun q => q.2) E md_X10_huntOf [rV E 100, .int v1, .int v2, .int v3, .int v4] σ (f_X10_huntOf σ v1 v2 v3 v4) := by
  refine ctr_of rfl (Nat.le_of_ble_eq_true rfl) (fun Γ => ?_)
  show Sim _ Γ _ E md_X10_huntOf σ 0 [(0, rV E 100), (1, .int v1), (2, .int v2), (3, .int v3), (4, .int v4)] [] _
  unfold f_X10_huntOf
  refine s_aload_n dX10_huntOf_0 0 rfl rfl ?_
  refine s_iload_n dX10_huntOf_1 1 rfl rfl ?_
  refine s_iload_n dX10_huntOf_2 2 rfl rfl ?_
  refine s_callVwV (As := [.int v1, .int v2]) mf_X10_reckon vf_X10_reckon ml_X10_223 (c_X10_reckon _ E hF σ v1 v2) (m100 hF) k100 (by decide) rfl rfl rfl rfl (Nat.le_of_ble_eq_true rfl) rfl dX10_huntOf_3 (fun _ s1 => ?_)
  refine s_iconst (v := -1) dX10_huntOf_6 (by decide) ?_
  refine s_istore [(5, .int (-1 : Int32)), (0, rV E 100), (1, .int v1), (2, .int v2), (3, .int v3), (4, .int v4)] dX10_huntOf_7 (by decide) rfl ?_
  refine s_iconst (v := -1) dX10_huntOf_9 (by decide) ?_
  refine s_istore [(6, .int (-1 : Int32)), (5, .int (-1 : Int32)), (0, rV E 100), (1, .int v1), (2, .int v2), (3, .int v3), (4, .int v4)] dX10_huntOf_10 (by decide) rfl ?_
  refine s_iconst (v := 0) dX10_huntOf_12 (by decide) ?_
  refine s_istore [(7, .int (0 : Int32)), (6, .int (-1 : Int32)), (5, .int (-1 : Int32)), (0, rV E 100), (1, .int v1), (2, .int v2), (3, .int v3), (4, .int v4)] dX10_huntOf_13 (by decide) rfl ?_
  refine s_sub (lv' := [(0, rV E 100), (1, .int v1), (2, .int v2), (3, .int v3), (4, .int v4), (5, .int (-1 : Int32)), (6, .int (-1 : Int32)), (7, .int (0 : Int32))]) [3, 4, 5, 6, 7, 2, 1, 0] rfl ?_
  refine s_lo4 (σf := fun s2 x3 x4 x5 => s2) (lvf := fun s2 x3 x4 x5 => [(0, rV E 100), (1, .int v1), (2, .int v2), (3, .int v3), (4, .int v4), (5, .int x3), (6, .int x4), (7, .int x5)]) (fun rec6 ih7 s2 x3 x4 x5 => ?_)
  refine s_iload dX10_huntOf_15 7 rfl ?_
  refine s_iload_n dX10_huntOf_17 1 rfl rfl ?_
  refine s_callSpI (As := [.int v1]) mf_X10_powerOf vf_X10_powerOf ml_X10_186 (c_X10_powerOf _ E hF s2 v1) rfl rfl (Nat.le_of_ble_eq_true rfl) rfl dX10_huntOf_18 (fun r8 => ?_)
  refine s_icmp_ge 103 dX10_huntOf_21 (by decide) ?_ ?_
  · skip
    refine s_aload_n dX10_huntOf_24 0 rfl rfl ?_
    refine s_iload_n dX10_huntOf_25 1 rfl rfl ?_
    refine s_iload_n dX10_huntOf_26 3 rfl rfl ?_
    refine s_iload dX10_huntOf_27 7 rfl ?_
    refine s_callVwI (As := [.int v1, .int v3, .int x5]) mf_X10_moved vf_X10_moved ml_X10_201 (c_X10_moved _ E hF s2 v1 v3 x5) (m100 hF) k100 (by decide) rfl rfl rfl rfl (Nat.le_of_ble_eq_true rfl) rfl dX10_huntOf_29 (fun r9 s10 => ?_)
    refine s_istore [(8, .int r9), (0, rV E 100), (1, .int v1), (2, .int v2), (3, .int v3), (4, .int v4), (5, .int x3), (6, .int x4), (7, .int x5)] dX10_huntOf_32 (by decide) rfl ?_
    refine s_iload dX10_huntOf_34 0 rfl ?_
    refine s_iconst (v := -1) dX10_huntOf_36 (by decide) ?_
    refine s_jn1 54 (fun x11 => s10) (fun x11 => [(0, rV E 100), (1, .int v1), (2, .int v2), (3, .int v3), (4, .int v4), (5, .int x3), (6, .int x4), (7, .int x5), (8, .int r9)]) (fun x11 => [.int x11]) ?_ ?_
    · intro x11
      refine s_istore [(9, .int x11), (0, rV E 100), (1, .int v1), (2, .int v2), (3, .int v3), (4, .int v4), (5, .int x3), (6, .int x4), (7, .int x5), (8, .int r9)] dX10_huntOf_54 (by decide) rfl ?_
      refine s_iload dX10_huntOf_56 0 rfl ?_
      refine s_iconst (v := -1) dX10_huntOf_58 (by decide) ?_
      refine s_icmp_eq 97 dX10_huntOf_59 (by decide) ?_ ?_
      · skip
        refine s_iinc [(7, .int (x5 + 1)), (9, .int x11), (0, rV E 100), (1, .int v1), (2, .int v2), (3, .int v3), (4, .int v4), (5, .int x3), (6, .int x4), (8, .int r9)] dX10_huntOf_97 8 rfl rfl (by decide) rfl ?_
        refine s_goto 15 dX10_huntOf_100 (by decide) ?_
        refine s_sub [2, 3, 4, 5, 6, 7, 8, 0] rfl ?_
        exact ih7 s10 x3 x4 (x5 + 1)
      · skip
        refine s_iload dX10_huntOf_62 7 rfl ?_
        refine s_iconst (v := -1) dX10_huntOf_64 (by decide) ?_
        refine s_icmp_eq 89 dX10_huntOf_65 (by decide) ?_ ?_
        · skip
          refine s_iload dX10_huntOf_89 9 rfl ?_
          refine s_istore [(5, .int r9), (9, .int x11), (0, rV E 100), (1, .int v1), (2, .int v2), (3, .int v3), (4, .int v4), (6, .int x4), (7, .int x5), (8, .int r9)] dX10_huntOf_91 (by decide) rfl ?_
          refine s_iload dX10_huntOf_93 1 rfl ?_
          refine s_istore [(6, .int x11), (5, .int r9), (9, .int x11), (0, rV E 100), (1, .int v1), (2, .int v2), (3, .int v3), (4, .int v4), (7, .int x5), (8, .int r9)] dX10_huntOf_95 (by decide) rfl ?_
          refine s_iinc [(7, .int (x5 + 1)), (6, .int x11), (5, .int r9), (9, .int x11), (0, rV E 100), (1, .int v1), (2, .int v2), (3, .int v3), (4, .int v4), (8, .int r9)] dX10_huntOf_97 8 rfl rfl (by decide) rfl ?_
          refine s_goto 15 dX10_huntOf_100 (by decide) ?_
          refine s_sub [4, 5, 6, 7, 8, 2, 1, 0] rfl ?_
          exact ih7 s10 r9 x11 (x5 + 1)
        · skip
          refine s_iload dX10_huntOf_68 0 rfl ?_
          refine s_iload dX10_huntOf_70 7 rfl ?_
          refine s_icmp_lt 89 dX10_huntOf_72 (by decide) ?_ ?_
          · skip
            refine s_iload dX10_huntOf_89 9 rfl ?_
            refine s_istore [(5, .int r9), (9, .int x11), (0, rV E 100), (1, .int v1), (2, .int v2), (3, .int v3), (4, .int v4), (6, .int x4), (7, .int x5), (8, .int r9)] dX10_huntOf_91 (by decide) rfl ?_
            refine s_iload dX10_huntOf_93 1 rfl ?_
            refine s_istore [(6, .int x11), (5, .int r9), (9, .int x11), (0, rV E 100), (1, .int v1), (2, .int v2), (3, .int v3), (4, .int v4), (7, .int x5), (8, .int r9)] dX10_huntOf_95 (by decide) rfl ?_
            refine s_iinc [(7, .int (x5 + 1)), (6, .int x11), (5, .int r9), (9, .int x11), (0, rV E 100), (1, .int v1), (2, .int v2), (3, .int v3), (4, .int v4), (8, .int r9)] dX10_huntOf_97 8 rfl rfl (by decide) rfl ?_
            refine s_goto 15 dX10_huntOf_100 (by decide) ?_
            refine s_sub [4, 5, 6, 7, 8, 2, 1, 0] rfl ?_
            exact ih7 s10 r9 x11 (x5 + 1)
          · skip
            refine s_iload dX10_huntOf_75 0 rfl ?_
            refine s_iload dX10_huntOf_77 7 rfl ?_
            refine s_icmp_ne 97 dX10_huntOf_79 (by decide) ?_ ?_
            · skip
              refine s_iload dX10_huntOf_82 9 rfl ?_
              refine s_iload dX10_huntOf_84 6 rfl ?_
              refine s_icmp_ge 97 dX10_huntOf_86 (by decide) ?_ ?_
              · skip
                refine s_iload dX10_huntOf_89 9 rfl ?_
                refine s_istore [(5, .int r9), (9, .int x11), (0, rV E 100), (1, .int v1), (2, .int v2), (3, .int v3), (4, .int v4), (6, .int x4), (7, .int x5), (8, .int r9)] dX10_huntOf_91 (by decide) rfl ?_
                refine s_iload dX10_huntOf_93 1 rfl ?_
                refine s_istore [(6, .int x11), (5, .int r9), (9, .int x11), (0, rV E 100), (1, .int v1), (2, .int v2), (3, .int v3), (4, .int v4), (7, .int x5), (8, .int r9)] dX10_huntOf_95 (by decide) rfl ?_
                refine s_iinc [(7, .int (x5 + 1)), (6, .int x11), (5, .int r9), (9, .int x11), (0, rV E 100), (1, .int v1), (2, .int v2), (3, .int v3), (4, .int v4), (8, .int r9)] dX10_huntOf_97 8 rfl rfl (by decide) rfl ?_
                refine s_goto 15 dX10_huntOf_100 (by decide) ?_
                refine s_sub [4, 5, 6, 7, 8, 2, 1, 0] rfl ?_
                exact ih7 s10 r9 x11 (x5 + 1)
              · skip
                refine s_iinc [(7, .int (x5 + 1)), (9, .int x11), (0, rV E 100), (1, .int v1), (2, .int v2), (3, .int v3), (4, .int v4), (5, .int x3), (6, .int x4), (8, .int r9)] dX10_huntOf_97 8 rfl rfl (by decide) rfl ?_
                refine s_goto 15 dX10_huntOf_100 (by decide) ?_
                refine s_sub [2, 3, 4, 5, 6, 7, 8, 0] rfl ?_
                exact ih7 s10 x3 x4 (x5 + 1)
            · skip
              refine s_iinc [(7, .int (x5 + 1)), (9, .int x11), (0, rV E 100), (1, .int v1), (2, .int v2), (3, .int v3), (4, .int v4), (5, .int x3), (6, .int x4), (8, .int r9)] dX10_huntOf_97 8 rfl rfl (by decide) rfl ?_
              refine s_goto 15 dX10_huntOf_100 (by decide) ?_
              refine s_sub [2, 3, 4, 5, 6, 7, 8, 0] rfl ?_
              exact ih7 s10 x3 x4 (x5 + 1)
    · intro jk12 hjk12
      refine s_icmp_ne 44 dX10_huntOf_37 (by decide) ?_ ?_
      · skip
        refine s_iconst (v := -1) dX10_huntOf_40 (by decide) ?_
        refine s_goto 54 dX10_huntOf_41 (by decide) ?_
        refine s_sub [1, 2, 3, 4, 5, 6, 7, 8, 0] rfl ?_
        exact hjk12 (-1 : Int32)
      · skip
        refine s_aload_n dX10_huntOf_44 1 rfl rfl ?_
        refine s_iload_n dX10_huntOf_45 2 rfl rfl ?_
        refine s_iload_n dX10_huntOf_46 3 rfl rfl ?_
        refine s_iload dX10_huntOf_47 0 rfl ?_
        refine s_iload dX10_huntOf_49 5 rfl ?_
        refine s_callVpI (As := [.int v1, .int v2, .int r9, .int v4]) mf_X10_behind vf_X10_behind ml_X10_204 (c_X10_behind _ E hF s10 v1 v2 r9 v4) (m100 hF) k100 (by decide) rfl rfl rfl rfl (Nat.le_of_ble_eq_true rfl) rfl dX10_huntOf_51 (fun r13 => ?_)
        refine s_sub [1, 2, 3, 4, 5, 6, 7, 8, 0] rfl ?_
        exact hjk12 r13
  · skip
    refine s_iload dX10_huntOf_103 5 rfl ?_
    refine s_iconst (v := -1) dX10_huntOf_105 (by decide) ?_
    refine s_icmp_ne 113 dX10_huntOf_106 (by decide) ?_ ?_
    · skip
      refine s_iload_n dX10_huntOf_109 3 rfl rfl ?_
      refine s_goto 115 dX10_huntOf_110 (by decide) ?_
      exact s_ireturn rfl rfl rfl dX10_huntOf_115
    · skip
      refine s_iload dX10_huntOf_113 5 rfl ?_
      exact s_ireturn rfl rfl rfl dX10_huntOf_115
theorem dX10_fleeOf_0 : decode cX10_fleeOf 0 = .ok (.aload_n 0, 1) := by decide +kernel
theorem dX10_fleeOf_1 : decode cX10_fleeOf 1 = .ok (.iload_n 1, 1) := by decide +kernel
theorem dX10_fleeOf_2 : decode cX10_fleeOf 2 = .ok (.iload_n 2, 1) := by decide +kernel
theorem dX10_fleeOf_3 : decode cX10_fleeOf 3 = .ok (.invokevirtual 223, 3) := by decide +kernel
theorem dX10_fleeOf_6 : decode cX10_fleeOf 6 = .ok (.aload_n 0, 1) := by decide +kernel
theorem dX10_fleeOf_7 : decode cX10_fleeOf 7 = .ok (.getfield 31, 3) := by decide +kernel
theorem dX10_fleeOf_10 : decode cX10_fleeOf 10 = .ok (.bipush 8, 2) := by decide +kernel
theorem dX10_fleeOf_12 : decode cX10_fleeOf 12 = .ok (.iload_n 3, 1) := by decide +kernel
theorem dX10_fleeOf_13 : decode cX10_fleeOf 13 = .ok (.imul, 1) := by decide +kernel
theorem dX10_fleeOf_14 : decode cX10_fleeOf 14 = .ok (.iload 4, 2) := by decide +kernel
theorem dX10_fleeOf_16 : decode cX10_fleeOf 16 = .ok (.iadd, 1) := by decide +kernel
theorem dX10_fleeOf_17 : decode cX10_fleeOf 17 = .ok (.iaload, 1) := by decide +kernel
theorem dX10_fleeOf_18 : decode cX10_fleeOf 18 = .ok (.istore 5, 2) := by decide +kernel
theorem dX10_fleeOf_20 : decode cX10_fleeOf 20 = .ok (.iconst (-1), 1) := by decide +kernel
theorem dX10_fleeOf_21 : decode cX10_fleeOf 21 = .ok (.istore 6, 2) := by decide +kernel
theorem dX10_fleeOf_23 : decode cX10_fleeOf 23 = .ok (.aload_n 0, 1) := by decide +kernel
theorem dX10_fleeOf_24 : decode cX10_fleeOf 24 = .ok (.getfield 7, 3) := by decide +kernel
theorem dX10_fleeOf_27 : decode cX10_fleeOf 27 = .ok (.iconst 1, 1) := by decide +kernel
theorem dX10_fleeOf_28 : decode cX10_fleeOf 28 = .ok (.isub, 1) := by decide +kernel
theorem dX10_fleeOf_29 : decode cX10_fleeOf 29 = .ok (.istore 7, 2) := by decide +kernel
theorem dX10_fleeOf_31 : decode cX10_fleeOf 31 = .ok (.iload 7, 2) := by decide +kernel
theorem dX10_fleeOf_33 : decode cX10_fleeOf 33 = .ok (.ifCond .lt 89, 3) := by decide +kernel
theorem dX10_fleeOf_36 : decode cX10_fleeOf 36 = .ok (.iload 5, 2) := by decide +kernel
theorem dX10_fleeOf_38 : decode cX10_fleeOf 38 = .ok (.iload 7, 2) := by decide +kernel
theorem dX10_fleeOf_40 : decode cX10_fleeOf 40 = .ok (.ishr, 1) := by decide +kernel
theorem dX10_fleeOf_41 : decode cX10_fleeOf 41 = .ok (.iconst 1, 1) := by decide +kernel
theorem dX10_fleeOf_42 : decode cX10_fleeOf 42 = .ok (.iand, 1) := by decide +kernel
theorem dX10_fleeOf_43 : decode cX10_fleeOf 43 = .ok (.iconst 1, 1) := by decide +kernel
theorem dX10_fleeOf_44 : decode cX10_fleeOf 44 = .ok (.if_icmp .ne 72, 3) := by decide +kernel
theorem dX10_fleeOf_47 : decode cX10_fleeOf 47 = .ok (.aload_n 0, 1) := by decide +kernel
theorem dX10_fleeOf_48 : decode cX10_fleeOf 48 = .ok (.getfield 28, 3) := by decide +kernel
theorem dX10_fleeOf_51 : decode cX10_fleeOf 51 = .ok (.iload_n 1, 1) := by decide +kernel
theorem dX10_fleeOf_52 : decode cX10_fleeOf 52 = .ok (.iload_n 2, 1) := by decide +kernel
theorem dX10_fleeOf_53 : decode cX10_fleeOf 53 = .ok (.iload_n 3, 1) := by decide +kernel
theorem dX10_fleeOf_54 : decode cX10_fleeOf 54 = .ok (.iload 7, 2) := by decide +kernel
theorem dX10_fleeOf_56 : decode cX10_fleeOf 56 = .ok (.invokestatic 182, 3) := by decide +kernel
theorem dX10_fleeOf_59 : decode cX10_fleeOf 59 = .ok (.iaload, 1) := by decide +kernel
theorem dX10_fleeOf_60 : decode cX10_fleeOf 60 = .ok (.istore 8, 2) := by decide +kernel
theorem dX10_fleeOf_62 : decode cX10_fleeOf 62 = .ok (.iload 6, 2) := by decide +kernel
theorem dX10_fleeOf_64 : decode cX10_fleeOf 64 = .ok (.iconst (-1), 1) := by decide +kernel
theorem dX10_fleeOf_65 : decode cX10_fleeOf 65 = .ok (.if_icmp .ne 8, 3) := by decide +kernel
theorem dX10_fleeOf_68 : decode cX10_fleeOf 68 = .ok (.bipush (-2), 2) := by decide +kernel
theorem dX10_fleeOf_70 : decode cX10_fleeOf 70 = .ok (.goto 16, 3) := by decide +kernel
theorem dX10_fleeOf_73 : decode cX10_fleeOf 73 = .ok (.aload_n 0, 1) := by decide +kernel
theorem dX10_fleeOf_74 : decode cX10_fleeOf 74 = .ok (.getfield 28, 3) := by decide +kernel
theorem dX10_fleeOf_77 : decode cX10_fleeOf 77 = .ok (.iload_n 1, 1) := by decide +kernel
theorem dX10_fleeOf_78 : decode cX10_fleeOf 78 = .ok (.iload_n 2, 1) := by decide +kernel
theorem dX10_fleeOf_79 : decode cX10_fleeOf 79 = .ok (.iload_n 3, 1) := by decide +kernel
theorem dX10_fleeOf_80 : decode cX10_fleeOf 80 = .ok (.iload 6, 2) := by decide +kernel
theorem dX10_fleeOf_82 : decode cX10_fleeOf 82 = .ok (.invokestatic 182, 3) := by decide +kernel
theorem dX10_fleeOf_85 : decode cX10_fleeOf 85 = .ok (.iaload, 1) := by decide +kernel
theorem dX10_fleeOf_86 : decode cX10_fleeOf 86 = .ok (.istore 9, 2) := by decide +kernel
theorem dX10_fleeOf_88 : decode cX10_fleeOf 88 = .ok (.iload 8, 2) := by decide +kernel
theorem dX10_fleeOf_90 : decode cX10_fleeOf 90 = .ok (.iconst (-1), 1) := by decide +kernel
theorem dX10_fleeOf_91 : decode cX10_fleeOf 91 = .ok (.if_icmp .eq 16, 3) := by decide +kernel
theorem dX10_fleeOf_94 : decode cX10_fleeOf 94 = .ok (.iload 9, 2) := by decide +kernel
theorem dX10_fleeOf_96 : decode cX10_fleeOf 96 = .ok (.iconst (-1), 1) := by decide +kernel
theorem dX10_fleeOf_97 : decode cX10_fleeOf 97 = .ok (.if_icmp .eq 15, 3) := by decide +kernel
theorem dX10_fleeOf_100 : decode cX10_fleeOf 100 = .ok (.iload 8, 2) := by decide +kernel
theorem dX10_fleeOf_102 : decode cX10_fleeOf 102 = .ok (.iload 9, 2) := by decide +kernel
theorem dX10_fleeOf_104 : decode cX10_fleeOf 104 = .ok (.if_icmp .lt 8, 3) := by decide +kernel
theorem dX10_fleeOf_107 : decode cX10_fleeOf 107 = .ok (.iload 7, 2) := by decide +kernel
theorem dX10_fleeOf_109 : decode cX10_fleeOf 109 = .ok (.goto 5, 3) := by decide +kernel
theorem dX10_fleeOf_112 : decode cX10_fleeOf 112 = .ok (.iload 6, 2) := by decide +kernel
theorem dX10_fleeOf_114 : decode cX10_fleeOf 114 = .ok (.istore 6, 2) := by decide +kernel
theorem dX10_fleeOf_116 : decode cX10_fleeOf 116 = .ok (.iinc 7 (-1), 3) := by decide +kernel
theorem dX10_fleeOf_119 : decode cX10_fleeOf 119 = .ok (.goto (-88), 3) := by decide +kernel
theorem dX10_fleeOf_122 : decode cX10_fleeOf 122 = .ok (.iload 6, 2) := by decide +kernel
theorem dX10_fleeOf_124 : decode cX10_fleeOf 124 = .ok (.ireturn, 1) := by decide +kernel
def f_X10_fleeOf (σ : St) (v1 : Int32) (v2 : Int32) (v3 : Int32) (v4 : Int32) : Option (Int32 × St) :=
  cal (f_X10_reckon σ v1 v2) fun _ s1 =>
    ck (((8 : Int32) * v3) + v4) 4096 <|
      bd (s1.1 106 (((8 : Int32) * v3) + v4).toNatClampNeg) fun x2 =>
        bd ((s1.1 100 0) - (1 : Int32)) fun x3 =>
          lo2 FU (fun rec6 (x4 : Int32) (x5 : Int32) =>
            (if x5 < 0 then
              some (x4, s1)
               else
              (if ((x2 >>> (x5 &&& 31)) &&& (1 : Int32)) = (1 : Int32) then
                calP (f_X10_at s1 v1 v2 v3 x5) fun r8 =>
                  ck r8 36864 <|
                    bd (s1.1 105 r8.toNatClampNeg) fun x9 =>
                      jn1 (fun jk11 =>
                        (if x4 = (-1 : Int32) then
                          jk11 (-2 : Int32)
                           else
                          calP (f_X10_at s1 v1 v2 v3 x4) fun r12 =>
                            ck r12 36864 <|
                              jk11 (s1.1 105 r12.toNatClampNeg)))
                        (fun (x10 : Int32) => 
                        (if x9 = (-1 : Int32) then
                            rec6 x5 (x5 + (-1))
                             else
                            (if x10 = (-1 : Int32) then
                              rec6 x4 (x5 + (-1))
                               else
                              (if x9 < x10 then
                                rec6 x4 (x5 + (-1))
                                 else
                                rec6 x5 (x5 + (-1))))))
                 else
                rec6 x4 (x5 + (-1))))) (-1 : Int32) x3
set_option maxHeartbeats 4000000 in
set_option maxRecDepth 100000 in
theorem c_X10_fleeOf (l : Launch) (E : Ev) (hF : Full E) (σ : St) (v1 : Int32) (v2 : Int32) (v3 : Int32) (v4 : Int32) : Ctr l (en2 enI) (fun q => q.2) E md_X10_fleeOf [rV E 100, .int v1, .int v2, .int v3, .int v4] σ (f_X10_fleeOf σ v1 v2 v3 v4) := by
  refine ctr_of rfl (Nat.le_of_ble_eq_true rfl) (fun Γ => ?_)
  show Sim _ Γ _ E md_X10_fleeOf σ 0 [(0, rV E 100), (1, .int v1), (2, .int v2), (3, .int v3), (4, .int v4)] [] _
  unfold f_X10_fleeOf
  refine s_aload_n dX10_fleeOf_0 0 rfl rfl ?_
  refine s_iload_n dX10_fleeOf_1 1 rfl rfl ?_
  refine s_iload_n dX10_fleeOf_2 2 rfl rfl ?_
  refine s_callVwV (As := [.int v1, .int v2]) mf_X10_reckon vf_X10_reckon ml_X10_223 (c_X10_reckon _ E hF σ v1 v2) (m100 hF) k100 (by decide) rfl rfl rfl rfl (Nat.le_of_ble_eq_true rfl) rfl dX10_fleeOf_3 (fun _ s1 => ?_)
  refine s_aload_n dX10_fleeOf_6 0 rfl rfl ?_
  refine s_getr (b := 106) gf_X10_31 rfl (m100 hF) k100 (ft_of k100 rfl) (hF.2 _ _) rfl dX10_fleeOf_7 ?_
  refine s_bipush (v := 8) dX10_fleeOf_10 (by decide) ?_
  refine s_iload_n dX10_fleeOf_12 3 rfl rfl ?_
  refine s_imul dX10_fleeOf_13 ?_
  refine s_iload dX10_fleeOf_14 4 rfl ?_
  refine s_iadd dX10_fleeOf_16 ?_
  refine s_iald (m106 hF) k106 l106 dX10_fleeOf_17 ?_
  refine s_istoreB (fun x2 => [(5, .int x2), (0, rV E 100), (1, .int v1), (2, .int v2), (3, .int v3), (4, .int v4)]) dX10_fleeOf_18 (by decide) (fun _ => rfl) (fun x2 => ?_)
  refine s_iconst (v := -1) dX10_fleeOf_20 (by decide) ?_
  refine s_istore [(6, .int (-1 : Int32)), (5, .int x2), (0, rV E 100), (1, .int v1), (2, .int v2), (3, .int v3), (4, .int v4)] dX10_fleeOf_21 (by decide) rfl ?_
  refine s_aload_n dX10_fleeOf_23 2 rfl rfl ?_
  refine s_geti gf_X10_7 rfl (m100 hF) k100 (ft_of k100 rfl) dX10_fleeOf_24 ?_
  refine s_iconst (v := 1) dX10_fleeOf_27 (by decide) ?_
  refine s_isub dX10_fleeOf_28 ?_
  refine s_istoreB (fun x3 => [(7, .int x3), (6, .int (-1 : Int32)), (5, .int x2), (0, rV E 100), (1, .int v1), (2, .int v2), (3, .int v3), (4, .int v4)]) dX10_fleeOf_29 (by decide) (fun _ => rfl) (fun x3 => ?_)
  refine s_sub (lv' := [(0, rV E 100), (1, .int v1), (2, .int v2), (3, .int v3), (5, .int x2), (6, .int (-1 : Int32)), (7, .int x3)]) [3, 4, 5, 6, 2, 1, 0] rfl ?_
  refine s_lo2 (σf := fun x4 x5 => s1) (lvf := fun x4 x5 => [(0, rV E 100), (1, .int v1), (2, .int v2), (3, .int v3), (5, .int x2), (6, .int x4), (7, .int x5)]) (fun rec6 ih7 x4 x5 => ?_)
  refine s_iload dX10_fleeOf_31 6 rfl ?_
  refine s_if_lt 122 dX10_fleeOf_33 (by decide) ?_ ?_
  · skip
    refine s_iload dX10_fleeOf_122 5 rfl ?_
    exact s_ireturn rfl rfl rfl dX10_fleeOf_124
  · skip
    refine s_iload dX10_fleeOf_36 4 rfl ?_
    refine s_iload dX10_fleeOf_38 6 rfl ?_
    refine s_ishr dX10_fleeOf_40 ?_
    refine s_iconst (v := 1) dX10_fleeOf_41 (by decide) ?_
    refine s_iand dX10_fleeOf_42 ?_
    refine s_iconst (v := 1) dX10_fleeOf_43 (by decide) ?_
    refine s_icmp_ne 116 dX10_fleeOf_44 (by decide) ?_ ?_
    · skip
      refine s_aload_n dX10_fleeOf_47 0 rfl rfl ?_
      refine s_getr (b := 105) gf_X10_28 rfl (m100 hF) k100 (ft_of k100 rfl) (hF.2 _ _) rfl dX10_fleeOf_48 ?_
      refine s_iload_n dX10_fleeOf_51 1 rfl rfl ?_
      refine s_iload_n dX10_fleeOf_52 2 rfl rfl ?_
      refine s_iload_n dX10_fleeOf_53 3 rfl rfl ?_
      refine s_iload dX10_fleeOf_54 6 rfl ?_
      refine s_callSpI (As := [.int v1, .int v2, .int v3, .int x5]) mf_X10_at vf_X10_at ml_X10_182 (c_X10_at _ E hF s1 v1 v2 v3 x5) rfl rfl (Nat.le_of_ble_eq_true rfl) rfl dX10_fleeOf_56 (fun r8 => ?_)
      refine s_iald (m105 hF) k105 l105 dX10_fleeOf_59 ?_
      refine s_istoreB (fun x9 => [(8, .int x9), (0, rV E 100), (1, .int v1), (2, .int v2), (3, .int v3), (5, .int x2), (6, .int x4), (7, .int x5)]) dX10_fleeOf_60 (by decide) (fun _ => rfl) (fun x9 => ?_)
      refine s_iload dX10_fleeOf_62 6 rfl ?_
      refine s_iconst (v := -1) dX10_fleeOf_64 (by decide) ?_
      refine s_jn1 86 (fun x10 => s1) (fun x10 => [(0, rV E 100), (1, .int v1), (2, .int v2), (3, .int v3), (5, .int x2), (6, .int x4), (7, .int x5), (8, .int x9)]) (fun x10 => [.int x10]) ?_ ?_
      · intro x10
        refine s_istore [(9, .int x10), (0, rV E 100), (1, .int v1), (2, .int v2), (3, .int v3), (5, .int x2), (6, .int x4), (7, .int x5), (8, .int x9)] dX10_fleeOf_86 (by decide) rfl ?_
        refine s_iload dX10_fleeOf_88 8 rfl ?_
        refine s_iconst (v := -1) dX10_fleeOf_90 (by decide) ?_
        refine s_icmp_eq 107 dX10_fleeOf_91 (by decide) ?_ ?_
        · skip
          refine s_iload dX10_fleeOf_107 7 rfl ?_
          refine s_goto 114 dX10_fleeOf_109 (by decide) ?_
          refine s_istore [(6, .int x5), (9, .int x10), (0, rV E 100), (1, .int v1), (2, .int v2), (3, .int v3), (5, .int x2), (7, .int x5), (8, .int x9)] dX10_fleeOf_114 (by decide) rfl ?_
          refine s_iinc [(7, .int (x5 + (-1))), (6, .int x5), (9, .int x10), (0, rV E 100), (1, .int v1), (2, .int v2), (3, .int v3), (5, .int x2), (8, .int x9)] dX10_fleeOf_116 7 rfl rfl (by decide) rfl ?_
          refine s_goto 31 dX10_fleeOf_119 (by decide) ?_
          refine s_sub [3, 4, 5, 6, 7, 1, 0] rfl ?_
          exact ih7 x5 (x5 + (-1))
        · skip
          refine s_iload dX10_fleeOf_94 0 rfl ?_
          refine s_iconst (v := -1) dX10_fleeOf_96 (by decide) ?_
          refine s_icmp_eq 112 dX10_fleeOf_97 (by decide) ?_ ?_
          · skip
            refine s_iload dX10_fleeOf_112 6 rfl ?_
            refine s_istore [(6, .int x4), (9, .int x10), (0, rV E 100), (1, .int v1), (2, .int v2), (3, .int v3), (5, .int x2), (7, .int x5), (8, .int x9)] dX10_fleeOf_114 (by decide) rfl ?_
            refine s_iinc [(7, .int (x5 + (-1))), (6, .int x4), (9, .int x10), (0, rV E 100), (1, .int v1), (2, .int v2), (3, .int v3), (5, .int x2), (8, .int x9)] dX10_fleeOf_116 7 rfl rfl (by decide) rfl ?_
            refine s_goto 31 dX10_fleeOf_119 (by decide) ?_
            refine s_sub [3, 4, 5, 6, 7, 1, 0] rfl ?_
            exact ih7 x4 (x5 + (-1))
          · skip
            refine s_iload dX10_fleeOf_100 8 rfl ?_
            refine s_iload dX10_fleeOf_102 0 rfl ?_
            refine s_icmp_lt 112 dX10_fleeOf_104 (by decide) ?_ ?_
            · skip
              refine s_iload dX10_fleeOf_112 6 rfl ?_
              refine s_istore [(6, .int x4), (9, .int x10), (0, rV E 100), (1, .int v1), (2, .int v2), (3, .int v3), (5, .int x2), (7, .int x5), (8, .int x9)] dX10_fleeOf_114 (by decide) rfl ?_
              refine s_iinc [(7, .int (x5 + (-1))), (6, .int x4), (9, .int x10), (0, rV E 100), (1, .int v1), (2, .int v2), (3, .int v3), (5, .int x2), (8, .int x9)] dX10_fleeOf_116 7 rfl rfl (by decide) rfl ?_
              refine s_goto 31 dX10_fleeOf_119 (by decide) ?_
              refine s_sub [3, 4, 5, 6, 7, 1, 0] rfl ?_
              exact ih7 x4 (x5 + (-1))
            · skip
              refine s_iload dX10_fleeOf_107 7 rfl ?_
              refine s_goto 114 dX10_fleeOf_109 (by decide) ?_
              refine s_istore [(6, .int x5), (9, .int x10), (0, rV E 100), (1, .int v1), (2, .int v2), (3, .int v3), (5, .int x2), (7, .int x5), (8, .int x9)] dX10_fleeOf_114 (by decide) rfl ?_
              refine s_iinc [(7, .int (x5 + (-1))), (6, .int x5), (9, .int x10), (0, rV E 100), (1, .int v1), (2, .int v2), (3, .int v3), (5, .int x2), (8, .int x9)] dX10_fleeOf_116 7 rfl rfl (by decide) rfl ?_
              refine s_goto 31 dX10_fleeOf_119 (by decide) ?_
              refine s_sub [3, 4, 5, 6, 7, 1, 0] rfl ?_
              exact ih7 x5 (x5 + (-1))
      · intro jk11 hjk11
        refine s_icmp_ne 73 dX10_fleeOf_65 (by decide) ?_ ?_
        · skip
          refine s_bipush (v := -2) dX10_fleeOf_68 (by decide) ?_
          refine s_goto 86 dX10_fleeOf_70 (by decide) ?_
          refine s_sub [1, 2, 3, 4, 5, 6, 7, 0] rfl ?_
          exact hjk11 (-2 : Int32)
        · skip
          refine s_aload_n dX10_fleeOf_73 1 rfl rfl ?_
          refine s_getr (b := 105) gf_X10_28 rfl (m100 hF) k100 (ft_of k100 rfl) (hF.2 _ _) rfl dX10_fleeOf_74 ?_
          refine s_iload_n dX10_fleeOf_77 2 rfl rfl ?_
          refine s_iload_n dX10_fleeOf_78 3 rfl rfl ?_
          refine s_iload_n dX10_fleeOf_79 4 rfl rfl ?_
          refine s_iload dX10_fleeOf_80 6 rfl ?_
          refine s_callSpI (As := [.int v1, .int v2, .int v3, .int x4]) mf_X10_at vf_X10_at ml_X10_182 (c_X10_at _ E hF s1 v1 v2 v3 x4) rfl rfl (Nat.le_of_ble_eq_true rfl) rfl dX10_fleeOf_82 (fun r12 => ?_)
          refine s_iald (m105 hF) k105 l105 dX10_fleeOf_85 ?_
          refine s_sub [1, 2, 3, 4, 5, 6, 7, 0] rfl ?_
          exact hjk11 (s1.1 105 r12.toNatClampNeg)
    · skip
      refine s_iinc [(7, .int (x5 + (-1))), (0, rV E 100), (1, .int v1), (2, .int v2), (3, .int v3), (5, .int x2), (6, .int x4)] dX10_fleeOf_116 6 rfl rfl (by decide) rfl ?_
      refine s_goto 31 dX10_fleeOf_119 (by decide) ?_
      refine s_sub [1, 2, 3, 4, 5, 6, 0] rfl ?_
      exact ih7 x4 (x5 + (-1))
theorem dX10_hunt_0 : decode cX10_hunt 0 = .ok (.iload_n 1, 1) := by decide +kernel
theorem dX10_hunt_1 : decode cX10_hunt 1 = .ok (.iload_n 3, 1) := by decide +kernel
theorem dX10_hunt_2 : decode cX10_hunt 2 = .ok (.invokestatic 217, 3) := by decide +kernel
theorem dX10_hunt_5 : decode cX10_hunt 5 = .ok (.ifCond .ne 6, 3) := by decide +kernel
theorem dX10_hunt_8 : decode cX10_hunt 8 = .ok (.bipush (-3), 2) := by decide +kernel
theorem dX10_hunt_10 : decode cX10_hunt 10 = .ok (.ireturn, 1) := by decide +kernel
theorem dX10_hunt_11 : decode cX10_hunt 11 = .ok (.aload_n 0, 1) := by decide +kernel
theorem dX10_hunt_12 : decode cX10_hunt 12 = .ok (.iload_n 1, 1) := by decide +kernel
theorem dX10_hunt_13 : decode cX10_hunt 13 = .ok (.iload_n 2, 1) := by decide +kernel
theorem dX10_hunt_14 : decode cX10_hunt 14 = .ok (.invokevirtual 220, 3) := by decide +kernel
theorem dX10_hunt_17 : decode cX10_hunt 17 = .ok (.istore 5, 2) := by decide +kernel
theorem dX10_hunt_19 : decode cX10_hunt 19 = .ok (.iload 5, 2) := by decide +kernel
theorem dX10_hunt_21 : decode cX10_hunt 21 = .ok (.iconst (-1), 1) := by decide +kernel
theorem dX10_hunt_22 : decode cX10_hunt 22 = .ok (.if_icmp .eq 12, 3) := by decide +kernel
theorem dX10_hunt_25 : decode cX10_hunt 25 = .ok (.aload_n 0, 1) := by decide +kernel
theorem dX10_hunt_26 : decode cX10_hunt 26 = .ok (.iload 4, 2) := by decide +kernel
theorem dX10_hunt_28 : decode cX10_hunt 28 = .ok (.invokevirtual 165, 3) := by decide +kernel
theorem dX10_hunt_31 : decode cX10_hunt 31 = .ok (.ifCond .ne 6, 3) := by decide +kernel
theorem dX10_hunt_34 : decode cX10_hunt 34 = .ok (.bipush (-2), 2) := by decide +kernel
theorem dX10_hunt_36 : decode cX10_hunt 36 = .ok (.ireturn, 1) := by decide +kernel
theorem dX10_hunt_37 : decode cX10_hunt 37 = .ok (.aload_n 0, 1) := by decide +kernel
theorem dX10_hunt_38 : decode cX10_hunt 38 = .ok (.iload_n 1, 1) := by decide +kernel
theorem dX10_hunt_39 : decode cX10_hunt 39 = .ok (.iload 5, 2) := by decide +kernel
theorem dX10_hunt_41 : decode cX10_hunt 41 = .ok (.invokevirtual 193, 3) := by decide +kernel
theorem dX10_hunt_44 : decode cX10_hunt 44 = .ok (.iload 4, 2) := by decide +kernel
theorem dX10_hunt_46 : decode cX10_hunt 46 = .ok (.ishr, 1) := by decide +kernel
theorem dX10_hunt_47 : decode cX10_hunt 47 = .ok (.iconst 1, 1) := by decide +kernel
theorem dX10_hunt_48 : decode cX10_hunt 48 = .ok (.iand, 1) := by decide +kernel
theorem dX10_hunt_49 : decode cX10_hunt 49 = .ok (.iconst 1, 1) := by decide +kernel
theorem dX10_hunt_50 : decode cX10_hunt 50 = .ok (.if_icmp .ne 8, 3) := by decide +kernel
theorem dX10_hunt_53 : decode cX10_hunt 53 = .ok (.bipush (-4), 2) := by decide +kernel
theorem dX10_hunt_55 : decode cX10_hunt 55 = .ok (.goto 13, 3) := by decide +kernel
theorem dX10_hunt_58 : decode cX10_hunt 58 = .ok (.aload_n 0, 1) := by decide +kernel
theorem dX10_hunt_59 : decode cX10_hunt 59 = .ok (.iload_n 1, 1) := by decide +kernel
theorem dX10_hunt_60 : decode cX10_hunt 60 = .ok (.iload_n 3, 1) := by decide +kernel
theorem dX10_hunt_61 : decode cX10_hunt 61 = .ok (.iload 5, 2) := by decide +kernel
theorem dX10_hunt_63 : decode cX10_hunt 63 = .ok (.iload 4, 2) := by decide +kernel
theorem dX10_hunt_65 : decode cX10_hunt 65 = .ok (.invokevirtual 232, 3) := by decide +kernel
theorem dX10_hunt_68 : decode cX10_hunt 68 = .ok (.ireturn, 1) := by decide +kernel
def f_X10_hunt (σ : St) (v1 : Int32) (v2 : Int32) (v3 : Int32) (v4 : Int32) : Option (Int32 × St) :=
  calP (f_X10_isChase σ v1 v3) fun r1 =>
    (if r1 = 0 then
      some ((-3 : Int32), σ)
       else
      cal (f_X10_told σ v1 v2) fun r2 s3 =>
        (if r2 = (-1 : Int32) then
          some ((-2 : Int32), s3)
           else
          calP (f_X10_isPlace s3 v4) fun r4 =>
            (if r4 = 0 then
              some ((-2 : Int32), s3)
               else
              cal (f_X10_placesOf s3 v1 r2) fun r5 s6 =>
                (if ((r5 >>> (v4 &&& 31)) &&& (1 : Int32)) = (1 : Int32) then
                  some ((-4 : Int32), s6)
                   else
                  cal (f_X10_huntOf s6 v1 v3 r2 v4) fun r7 s8 =>
                    some (r7, s8)))))
set_option maxHeartbeats 4000000 in
set_option maxRecDepth 100000 in
theorem c_X10_hunt (l : Launch) (E : Ev) (hF : Full E) (σ : St) (v1 : Int32) (v2 : Int32) (v3 : Int32) (v4 : Int32) : Ctr l (en2 enI) (fun q => q.2) E md_X10_hunt [rV E 100, .int v1, .int v2, .int v3, .int v4] σ (f_X10_hunt σ v1 v2 v3 v4) := by
  refine ctr_of rfl (Nat.le_of_ble_eq_true rfl) (fun Γ => ?_)
  show Sim _ Γ _ E md_X10_hunt σ 0 [(0, rV E 100), (1, .int v1), (2, .int v2), (3, .int v3), (4, .int v4)] [] _
  unfold f_X10_hunt
  refine s_iload_n dX10_hunt_0 1 rfl rfl ?_
  refine s_iload_n dX10_hunt_1 3 rfl rfl ?_
  refine s_callSpI (As := [.int v1, .int v3]) mf_X10_isChase vf_X10_isChase ml_X10_217 (c_X10_isChase _ E hF σ v1 v3) rfl rfl (Nat.le_of_ble_eq_true rfl) rfl dX10_hunt_2 (fun r1 => ?_)
  refine s_if_ne 11 dX10_hunt_5 (by decide) ?_ ?_
  · skip
    refine s_bipush (v := -3) dX10_hunt_8 (by decide) ?_
    exact s_ireturn rfl rfl rfl dX10_hunt_10
  · skip
    refine s_aload_n dX10_hunt_11 0 rfl rfl ?_
    refine s_iload_n dX10_hunt_12 1 rfl rfl ?_
    refine s_iload_n dX10_hunt_13 2 rfl rfl ?_
    refine s_callVwI (As := [.int v1, .int v2]) mf_X10_told vf_X10_told ml_X10_220 (c_X10_told _ E hF σ v1 v2) (m100 hF) k100 (by decide) rfl rfl rfl rfl (Nat.le_of_ble_eq_true rfl) rfl dX10_hunt_14 (fun r2 s3 => ?_)
    refine s_istore [(5, .int r2), (0, rV E 100), (1, .int v1), (2, .int v2), (3, .int v3), (4, .int v4)] dX10_hunt_17 (by decide) rfl ?_
    refine s_iload dX10_hunt_19 0 rfl ?_
    refine s_iconst (v := -1) dX10_hunt_21 (by decide) ?_
    refine s_icmp_eq 34 dX10_hunt_22 (by decide) ?_ ?_
    · skip
      refine s_bipush (v := -2) dX10_hunt_34 (by decide) ?_
      exact s_ireturn rfl rfl rfl dX10_hunt_36
    · skip
      refine s_aload_n dX10_hunt_25 1 rfl rfl ?_
      refine s_iload dX10_hunt_26 5 rfl ?_
      refine s_callVpI (As := [.int v4]) mf_X10_isPlace vf_X10_isPlace ml_X10_165 (c_X10_isPlace _ E hF s3 v4) (m100 hF) k100 (by decide) rfl rfl rfl rfl (Nat.le_of_ble_eq_true rfl) rfl dX10_hunt_28 (fun r4 => ?_)
      refine s_if_ne 37 dX10_hunt_31 (by decide) ?_ ?_
      · skip
        refine s_bipush (v := -2) dX10_hunt_34 (by decide) ?_
        exact s_ireturn rfl rfl rfl dX10_hunt_36
      · skip
        refine s_aload_n dX10_hunt_37 1 rfl rfl ?_
        refine s_iload_n dX10_hunt_38 2 rfl rfl ?_
        refine s_iload dX10_hunt_39 0 rfl ?_
        refine s_callVwI (As := [.int v1, .int r2]) mf_X10_placesOf vf_X10_placesOf ml_X10_193 (c_X10_placesOf _ E hF s3 v1 r2) (m100 hF) k100 (by decide) rfl rfl rfl rfl (Nat.le_of_ble_eq_true rfl) rfl dX10_hunt_41 (fun r5 s6 => ?_)
        refine s_iload dX10_hunt_44 5 rfl ?_
        refine s_ishr dX10_hunt_46 ?_
        refine s_iconst (v := 1) dX10_hunt_47 (by decide) ?_
        refine s_iand dX10_hunt_48 ?_
        refine s_iconst (v := 1) dX10_hunt_49 (by decide) ?_
        refine s_icmp_ne 58 dX10_hunt_50 (by decide) ?_ ?_
        · skip
          refine s_bipush (v := -4) dX10_hunt_53 (by decide) ?_
          refine s_goto 68 dX10_hunt_55 (by decide) ?_
          exact s_ireturn rfl rfl rfl dX10_hunt_68
        · skip
          refine s_aload_n dX10_hunt_58 1 rfl rfl ?_
          refine s_iload_n dX10_hunt_59 2 rfl rfl ?_
          refine s_iload_n dX10_hunt_60 4 rfl rfl ?_
          refine s_iload dX10_hunt_61 0 rfl ?_
          refine s_iload dX10_hunt_63 5 rfl ?_
          refine s_callVwI (As := [.int v1, .int v3, .int r2, .int v4]) mf_X10_huntOf vf_X10_huntOf ml_X10_232 (c_X10_huntOf _ E hF s6 v1 v3 r2 v4) (m100 hF) k100 (by decide) rfl rfl rfl rfl (Nat.le_of_ble_eq_true rfl) rfl dX10_hunt_65 (fun r7 s8 => ?_)
          exact s_ireturn rfl rfl rfl dX10_hunt_68
theorem dX10_flee_0 : decode cX10_flee 0 = .ok (.iload_n 1, 1) := by decide +kernel
theorem dX10_flee_1 : decode cX10_flee 1 = .ok (.iload_n 3, 1) := by decide +kernel
theorem dX10_flee_2 : decode cX10_flee 2 = .ok (.invokestatic 217, 3) := by decide +kernel
theorem dX10_flee_5 : decode cX10_flee 5 = .ok (.ifCond .ne 6, 3) := by decide +kernel
theorem dX10_flee_8 : decode cX10_flee 8 = .ok (.bipush (-3), 2) := by decide +kernel
theorem dX10_flee_10 : decode cX10_flee 10 = .ok (.ireturn, 1) := by decide +kernel
theorem dX10_flee_11 : decode cX10_flee 11 = .ok (.aload_n 0, 1) := by decide +kernel
theorem dX10_flee_12 : decode cX10_flee 12 = .ok (.iload_n 1, 1) := by decide +kernel
theorem dX10_flee_13 : decode cX10_flee 13 = .ok (.iload_n 2, 1) := by decide +kernel
theorem dX10_flee_14 : decode cX10_flee 14 = .ok (.invokevirtual 220, 3) := by decide +kernel
theorem dX10_flee_17 : decode cX10_flee 17 = .ok (.istore 5, 2) := by decide +kernel
theorem dX10_flee_19 : decode cX10_flee 19 = .ok (.iload 5, 2) := by decide +kernel
theorem dX10_flee_21 : decode cX10_flee 21 = .ok (.iconst (-1), 1) := by decide +kernel
theorem dX10_flee_22 : decode cX10_flee 22 = .ok (.if_icmp .eq 12, 3) := by decide +kernel
theorem dX10_flee_25 : decode cX10_flee 25 = .ok (.aload_n 0, 1) := by decide +kernel
theorem dX10_flee_26 : decode cX10_flee 26 = .ok (.iload 4, 2) := by decide +kernel
theorem dX10_flee_28 : decode cX10_flee 28 = .ok (.invokevirtual 165, 3) := by decide +kernel
theorem dX10_flee_31 : decode cX10_flee 31 = .ok (.ifCond .ne 6, 3) := by decide +kernel
theorem dX10_flee_34 : decode cX10_flee 34 = .ok (.bipush (-2), 2) := by decide +kernel
theorem dX10_flee_36 : decode cX10_flee 36 = .ok (.ireturn, 1) := by decide +kernel
theorem dX10_flee_37 : decode cX10_flee 37 = .ok (.aload_n 0, 1) := by decide +kernel
theorem dX10_flee_38 : decode cX10_flee 38 = .ok (.iload_n 1, 1) := by decide +kernel
theorem dX10_flee_39 : decode cX10_flee 39 = .ok (.iload 5, 2) := by decide +kernel
theorem dX10_flee_41 : decode cX10_flee 41 = .ok (.invokevirtual 193, 3) := by decide +kernel
theorem dX10_flee_44 : decode cX10_flee 44 = .ok (.iload 4, 2) := by decide +kernel
theorem dX10_flee_46 : decode cX10_flee 46 = .ok (.ishr, 1) := by decide +kernel
theorem dX10_flee_47 : decode cX10_flee 47 = .ok (.iconst 1, 1) := by decide +kernel
theorem dX10_flee_48 : decode cX10_flee 48 = .ok (.iand, 1) := by decide +kernel
theorem dX10_flee_49 : decode cX10_flee 49 = .ok (.iconst 1, 1) := by decide +kernel
theorem dX10_flee_50 : decode cX10_flee 50 = .ok (.if_icmp .ne 8, 3) := by decide +kernel
theorem dX10_flee_53 : decode cX10_flee 53 = .ok (.bipush (-4), 2) := by decide +kernel
theorem dX10_flee_55 : decode cX10_flee 55 = .ok (.goto 13, 3) := by decide +kernel
theorem dX10_flee_58 : decode cX10_flee 58 = .ok (.aload_n 0, 1) := by decide +kernel
theorem dX10_flee_59 : decode cX10_flee 59 = .ok (.iload_n 1, 1) := by decide +kernel
theorem dX10_flee_60 : decode cX10_flee 60 = .ok (.iload_n 3, 1) := by decide +kernel
theorem dX10_flee_61 : decode cX10_flee 61 = .ok (.iload 5, 2) := by decide +kernel
theorem dX10_flee_63 : decode cX10_flee 63 = .ok (.iload 4, 2) := by decide +kernel
theorem dX10_flee_65 : decode cX10_flee 65 = .ok (.invokevirtual 235, 3) := by decide +kernel
theorem dX10_flee_68 : decode cX10_flee 68 = .ok (.ireturn, 1) := by decide +kernel
def f_X10_flee (σ : St) (v1 : Int32) (v2 : Int32) (v3 : Int32) (v4 : Int32) : Option (Int32 × St) :=
  calP (f_X10_isChase σ v1 v3) fun r1 =>
    (if r1 = 0 then
      some ((-3 : Int32), σ)
       else
      cal (f_X10_told σ v1 v2) fun r2 s3 =>
        (if r2 = (-1 : Int32) then
          some ((-2 : Int32), s3)
           else
          calP (f_X10_isPlace s3 v4) fun r4 =>
            (if r4 = 0 then
              some ((-2 : Int32), s3)
               else
              cal (f_X10_placesOf s3 v1 r2) fun r5 s6 =>
                (if ((r5 >>> (v4 &&& 31)) &&& (1 : Int32)) = (1 : Int32) then
                  some ((-4 : Int32), s6)
                   else
                  cal (f_X10_fleeOf s6 v1 v3 r2 v4) fun r7 s8 =>
                    some (r7, s8)))))
set_option maxHeartbeats 4000000 in
set_option maxRecDepth 100000 in
theorem c_X10_flee (l : Launch) (E : Ev) (hF : Full E) (σ : St) (v1 : Int32) (v2 : Int32) (v3 : Int32) (v4 : Int32) : Ctr l (en2 enI) (fun q => q.2) E md_X10_flee [rV E 100, .int v1, .int v2, .int v3, .int v4] σ (f_X10_flee σ v1 v2 v3 v4) := by
  refine ctr_of rfl (Nat.le_of_ble_eq_true rfl) (fun Γ => ?_)
  show Sim _ Γ _ E md_X10_flee σ 0 [(0, rV E 100), (1, .int v1), (2, .int v2), (3, .int v3), (4, .int v4)] [] _
  unfold f_X10_flee
  refine s_iload_n dX10_flee_0 1 rfl rfl ?_
  refine s_iload_n dX10_flee_1 3 rfl rfl ?_
  refine s_callSpI (As := [.int v1, .int v3]) mf_X10_isChase vf_X10_isChase ml_X10_217 (c_X10_isChase _ E hF σ v1 v3) rfl rfl (Nat.le_of_ble_eq_true rfl) rfl dX10_flee_2 (fun r1 => ?_)
  refine s_if_ne 11 dX10_flee_5 (by decide) ?_ ?_
  · skip
    refine s_bipush (v := -3) dX10_flee_8 (by decide) ?_
    exact s_ireturn rfl rfl rfl dX10_flee_10
  · skip
    refine s_aload_n dX10_flee_11 0 rfl rfl ?_
    refine s_iload_n dX10_flee_12 1 rfl rfl ?_
    refine s_iload_n dX10_flee_13 2 rfl rfl ?_
    refine s_callVwI (As := [.int v1, .int v2]) mf_X10_told vf_X10_told ml_X10_220 (c_X10_told _ E hF σ v1 v2) (m100 hF) k100 (by decide) rfl rfl rfl rfl (Nat.le_of_ble_eq_true rfl) rfl dX10_flee_14 (fun r2 s3 => ?_)
    refine s_istore [(5, .int r2), (0, rV E 100), (1, .int v1), (2, .int v2), (3, .int v3), (4, .int v4)] dX10_flee_17 (by decide) rfl ?_
    refine s_iload dX10_flee_19 0 rfl ?_
    refine s_iconst (v := -1) dX10_flee_21 (by decide) ?_
    refine s_icmp_eq 34 dX10_flee_22 (by decide) ?_ ?_
    · skip
      refine s_bipush (v := -2) dX10_flee_34 (by decide) ?_
      exact s_ireturn rfl rfl rfl dX10_flee_36
    · skip
      refine s_aload_n dX10_flee_25 1 rfl rfl ?_
      refine s_iload dX10_flee_26 5 rfl ?_
      refine s_callVpI (As := [.int v4]) mf_X10_isPlace vf_X10_isPlace ml_X10_165 (c_X10_isPlace _ E hF s3 v4) (m100 hF) k100 (by decide) rfl rfl rfl rfl (Nat.le_of_ble_eq_true rfl) rfl dX10_flee_28 (fun r4 => ?_)
      refine s_if_ne 37 dX10_flee_31 (by decide) ?_ ?_
      · skip
        refine s_bipush (v := -2) dX10_flee_34 (by decide) ?_
        exact s_ireturn rfl rfl rfl dX10_flee_36
      · skip
        refine s_aload_n dX10_flee_37 1 rfl rfl ?_
        refine s_iload_n dX10_flee_38 2 rfl rfl ?_
        refine s_iload dX10_flee_39 0 rfl ?_
        refine s_callVwI (As := [.int v1, .int r2]) mf_X10_placesOf vf_X10_placesOf ml_X10_193 (c_X10_placesOf _ E hF s3 v1 r2) (m100 hF) k100 (by decide) rfl rfl rfl rfl (Nat.le_of_ble_eq_true rfl) rfl dX10_flee_41 (fun r5 s6 => ?_)
        refine s_iload dX10_flee_44 5 rfl ?_
        refine s_ishr dX10_flee_46 ?_
        refine s_iconst (v := 1) dX10_flee_47 (by decide) ?_
        refine s_iand dX10_flee_48 ?_
        refine s_iconst (v := 1) dX10_flee_49 (by decide) ?_
        refine s_icmp_ne 58 dX10_flee_50 (by decide) ?_ ?_
        · skip
          refine s_bipush (v := -4) dX10_flee_53 (by decide) ?_
          refine s_goto 68 dX10_flee_55 (by decide) ?_
          exact s_ireturn rfl rfl rfl dX10_flee_68
        · skip
          refine s_aload_n dX10_flee_58 1 rfl rfl ?_
          refine s_iload_n dX10_flee_59 2 rfl rfl ?_
          refine s_iload_n dX10_flee_60 4 rfl rfl ?_
          refine s_iload dX10_flee_61 0 rfl ?_
          refine s_iload dX10_flee_63 5 rfl ?_
          refine s_callVwI (As := [.int v1, .int v3, .int r2, .int v4]) mf_X10_fleeOf vf_X10_fleeOf ml_X10_235 (c_X10_fleeOf _ E hF s6 v1 v3 r2 v4) (m100 hF) k100 (by decide) rfl rfl rfl rfl (Nat.le_of_ble_eq_true rfl) rfl dX10_flee_65 (fun r7 s8 => ?_)
          exact s_ireturn rfl rfl rfl dX10_flee_68
theorem dX10_play_0 : decode cX10_play 0 = .ok (.iload_n 1, 1) := by decide +kernel
theorem dX10_play_1 : decode cX10_play 1 = .ok (.iload_n 3, 1) := by decide +kernel
theorem dX10_play_2 : decode cX10_play 2 = .ok (.invokestatic 217, 3) := by decide +kernel
theorem dX10_play_5 : decode cX10_play 5 = .ok (.ifCond .ne 6, 3) := by decide +kernel
theorem dX10_play_8 : decode cX10_play 8 = .ok (.bipush (-3), 2) := by decide +kernel
theorem dX10_play_10 : decode cX10_play 10 = .ok (.ireturn, 1) := by decide +kernel
theorem dX10_play_11 : decode cX10_play 11 = .ok (.aload_n 0, 1) := by decide +kernel
theorem dX10_play_12 : decode cX10_play 12 = .ok (.iload_n 1, 1) := by decide +kernel
theorem dX10_play_13 : decode cX10_play 13 = .ok (.iload_n 2, 1) := by decide +kernel
theorem dX10_play_14 : decode cX10_play 14 = .ok (.invokevirtual 220, 3) := by decide +kernel
theorem dX10_play_17 : decode cX10_play 17 = .ok (.istore 5, 2) := by decide +kernel
theorem dX10_play_19 : decode cX10_play 19 = .ok (.iload 5, 2) := by decide +kernel
theorem dX10_play_21 : decode cX10_play 21 = .ok (.iconst (-1), 1) := by decide +kernel
theorem dX10_play_22 : decode cX10_play 22 = .ok (.if_icmp .eq 12, 3) := by decide +kernel
theorem dX10_play_25 : decode cX10_play 25 = .ok (.aload_n 0, 1) := by decide +kernel
theorem dX10_play_26 : decode cX10_play 26 = .ok (.iload 4, 2) := by decide +kernel
theorem dX10_play_28 : decode cX10_play 28 = .ok (.invokevirtual 165, 3) := by decide +kernel
theorem dX10_play_31 : decode cX10_play 31 = .ok (.ifCond .ne 6, 3) := by decide +kernel
theorem dX10_play_34 : decode cX10_play 34 = .ok (.bipush (-2), 2) := by decide +kernel
theorem dX10_play_36 : decode cX10_play 36 = .ok (.ireturn, 1) := by decide +kernel
theorem dX10_play_37 : decode cX10_play 37 = .ok (.aload_n 0, 1) := by decide +kernel
theorem dX10_play_38 : decode cX10_play 38 = .ok (.iconst 1, 1) := by decide +kernel
theorem dX10_play_39 : decode cX10_play 39 = .ok (.putfield 91, 3) := by decide +kernel
theorem dX10_play_42 : decode cX10_play 42 = .ok (.aload_n 0, 1) := by decide +kernel
theorem dX10_play_43 : decode cX10_play 43 = .ok (.iload_n 1, 1) := by decide +kernel
theorem dX10_play_44 : decode cX10_play 44 = .ok (.putfield 238, 3) := by decide +kernel
theorem dX10_play_47 : decode cX10_play 47 = .ok (.aload_n 0, 1) := by decide +kernel
theorem dX10_play_48 : decode cX10_play 48 = .ok (.iload_n 3, 1) := by decide +kernel
theorem dX10_play_49 : decode cX10_play 49 = .ok (.putfield 241, 3) := by decide +kernel
theorem dX10_play_52 : decode cX10_play 52 = .ok (.aload_n 0, 1) := by decide +kernel
theorem dX10_play_53 : decode cX10_play 53 = .ok (.iload 5, 2) := by decide +kernel
theorem dX10_play_55 : decode cX10_play 55 = .ok (.putfield 244, 3) := by decide +kernel
theorem dX10_play_58 : decode cX10_play 58 = .ok (.aload_n 0, 1) := by decide +kernel
theorem dX10_play_59 : decode cX10_play 59 = .ok (.iload 4, 2) := by decide +kernel
theorem dX10_play_61 : decode cX10_play 61 = .ok (.putfield 247, 3) := by decide +kernel
theorem dX10_play_64 : decode cX10_play 64 = .ok (.aload_n 0, 1) := by decide +kernel
theorem dX10_play_65 : decode cX10_play 65 = .ok (.iconst 0, 1) := by decide +kernel
theorem dX10_play_66 : decode cX10_play 66 = .ok (.putfield 94, 3) := by decide +kernel
theorem dX10_play_69 : decode cX10_play 69 = .ok (.iconst 1, 1) := by decide +kernel
theorem dX10_play_70 : decode cX10_play 70 = .ok (.ireturn, 1) := by decide +kernel
def f_X10_play (σ : St) (v1 : Int32) (v2 : Int32) (v3 : Int32) (v4 : Int32) : Option (Int32 × St) :=
  calP (f_X10_isChase σ v1 v3) fun r1 =>
    (if r1 = 0 then
      some ((-3 : Int32), σ)
       else
      cal (f_X10_told σ v1 v2) fun r2 s3 =>
        (if r2 = (-1 : Int32) then
          some ((-2 : Int32), s3)
           else
          calP (f_X10_isPlace s3 v4) fun r4 =>
            (if r4 = 0 then
              some ((-2 : Int32), s3)
               else
              bd (setI s3 100 24 (1 : Int32)) fun s5 =>
                bd (setI s5 100 19 v1) fun s6 =>
                  bd (setI s6 100 20 v3) fun s7 =>
                    bd (setI s7 100 21 r2) fun s8 =>
                      bd (setI s8 100 22 v4) fun s9 =>
                        bd (setI s9 100 23 (0 : Int32)) fun s10 =>
                          some ((1 : Int32), s10))))
set_option maxHeartbeats 4000000 in
set_option maxRecDepth 100000 in
theorem c_X10_play (l : Launch) (E : Ev) (hF : Full E) (σ : St) (v1 : Int32) (v2 : Int32) (v3 : Int32) (v4 : Int32) : Ctr l (en2 enI) (fun q => q.2) E md_X10_play [rV E 100, .int v1, .int v2, .int v3, .int v4] σ (f_X10_play σ v1 v2 v3 v4) := by
  refine ctr_of rfl (Nat.le_of_ble_eq_true rfl) (fun Γ => ?_)
  show Sim _ Γ _ E md_X10_play σ 0 [(0, rV E 100), (1, .int v1), (2, .int v2), (3, .int v3), (4, .int v4)] [] _
  unfold f_X10_play
  refine s_iload_n dX10_play_0 1 rfl rfl ?_
  refine s_iload_n dX10_play_1 3 rfl rfl ?_
  refine s_callSpI (As := [.int v1, .int v3]) mf_X10_isChase vf_X10_isChase ml_X10_217 (c_X10_isChase _ E hF σ v1 v3) rfl rfl (Nat.le_of_ble_eq_true rfl) rfl dX10_play_2 (fun r1 => ?_)
  refine s_if_ne 11 dX10_play_5 (by decide) ?_ ?_
  · skip
    refine s_bipush (v := -3) dX10_play_8 (by decide) ?_
    exact s_ireturn rfl rfl rfl dX10_play_10
  · skip
    refine s_aload_n dX10_play_11 0 rfl rfl ?_
    refine s_iload_n dX10_play_12 1 rfl rfl ?_
    refine s_iload_n dX10_play_13 2 rfl rfl ?_
    refine s_callVwI (As := [.int v1, .int v2]) mf_X10_told vf_X10_told ml_X10_220 (c_X10_told _ E hF σ v1 v2) (m100 hF) k100 (by decide) rfl rfl rfl rfl (Nat.le_of_ble_eq_true rfl) rfl dX10_play_14 (fun r2 s3 => ?_)
    refine s_istore [(5, .int r2), (0, rV E 100), (1, .int v1), (2, .int v2), (3, .int v3), (4, .int v4)] dX10_play_17 (by decide) rfl ?_
    refine s_iload dX10_play_19 0 rfl ?_
    refine s_iconst (v := -1) dX10_play_21 (by decide) ?_
    refine s_icmp_eq 34 dX10_play_22 (by decide) ?_ ?_
    · skip
      refine s_bipush (v := -2) dX10_play_34 (by decide) ?_
      exact s_ireturn rfl rfl rfl dX10_play_36
    · skip
      refine s_aload_n dX10_play_25 1 rfl rfl ?_
      refine s_iload dX10_play_26 5 rfl ?_
      refine s_callVpI (As := [.int v4]) mf_X10_isPlace vf_X10_isPlace ml_X10_165 (c_X10_isPlace _ E hF s3 v4) (m100 hF) k100 (by decide) rfl rfl rfl rfl (Nat.le_of_ble_eq_true rfl) rfl dX10_play_28 (fun r4 => ?_)
      refine s_if_ne 37 dX10_play_31 (by decide) ?_ ?_
      · skip
        refine s_bipush (v := -2) dX10_play_34 (by decide) ?_
        exact s_ireturn rfl rfl rfl dX10_play_36
      · skip
        refine s_aload_n dX10_play_37 1 rfl rfl ?_
        refine s_iconst (v := 1) dX10_play_38 (by decide) ?_
        refine s_putz gf_X10_91 rfl (m100 hF) k100 (ft_of k100 rfl) (by decide) dX10_play_39 (fun s5 => ?_)
        refine s_aload_n dX10_play_42 1 rfl rfl ?_
        refine s_iload_n dX10_play_43 2 rfl rfl ?_
        refine s_puti gf_X10_238 rfl (m100 hF) k100 (ft_of k100 rfl) dX10_play_44 (fun s6 => ?_)
        refine s_aload_n dX10_play_47 1 rfl rfl ?_
        refine s_iload_n dX10_play_48 4 rfl rfl ?_
        refine s_puti gf_X10_241 rfl (m100 hF) k100 (ft_of k100 rfl) dX10_play_49 (fun s7 => ?_)
        refine s_aload_n dX10_play_52 1 rfl rfl ?_
        refine s_iload dX10_play_53 0 rfl ?_
        refine s_puti gf_X10_244 rfl (m100 hF) k100 (ft_of k100 rfl) dX10_play_55 (fun s8 => ?_)
        refine s_aload_n dX10_play_58 1 rfl rfl ?_
        refine s_iload dX10_play_59 5 rfl ?_
        refine s_puti gf_X10_247 rfl (m100 hF) k100 (ft_of k100 rfl) dX10_play_61 (fun s9 => ?_)
        refine s_aload_n dX10_play_64 1 rfl rfl ?_
        refine s_iconst (v := 0) dX10_play_65 (by decide) ?_
        refine s_puti gf_X10_94 rfl (m100 hF) k100 (ft_of k100 rfl) dX10_play_66 (fun s10 => ?_)
        refine s_iconst (v := 1) dX10_play_69 (by decide) ?_
        exact s_ireturn rfl rfl rfl dX10_play_70
theorem dX10_isCaught_0 : decode cX10_isCaught 0 = .ok (.aload_n 0, 1) := by decide +kernel
theorem dX10_isCaught_1 : decode cX10_isCaught 1 = .ok (.aload_n 0, 1) := by decide +kernel
theorem dX10_isCaught_2 : decode cX10_isCaught 2 = .ok (.getfield 238, 3) := by decide +kernel
theorem dX10_isCaught_5 : decode cX10_isCaught 5 = .ok (.aload_n 0, 1) := by decide +kernel
theorem dX10_isCaught_6 : decode cX10_isCaught 6 = .ok (.getfield 244, 3) := by decide +kernel
theorem dX10_isCaught_9 : decode cX10_isCaught 9 = .ok (.invokevirtual 193, 3) := by decide +kernel
theorem dX10_isCaught_12 : decode cX10_isCaught 12 = .ok (.aload_n 0, 1) := by decide +kernel
theorem dX10_isCaught_13 : decode cX10_isCaught 13 = .ok (.getfield 247, 3) := by decide +kernel
theorem dX10_isCaught_16 : decode cX10_isCaught 16 = .ok (.ishr, 1) := by decide +kernel
theorem dX10_isCaught_17 : decode cX10_isCaught 17 = .ok (.iconst 1, 1) := by decide +kernel
theorem dX10_isCaught_18 : decode cX10_isCaught 18 = .ok (.iand, 1) := by decide +kernel
theorem dX10_isCaught_19 : decode cX10_isCaught 19 = .ok (.iconst 1, 1) := by decide +kernel
theorem dX10_isCaught_20 : decode cX10_isCaught 20 = .ok (.if_icmp .ne 7, 3) := by decide +kernel
theorem dX10_isCaught_23 : decode cX10_isCaught 23 = .ok (.iconst 1, 1) := by decide +kernel
theorem dX10_isCaught_24 : decode cX10_isCaught 24 = .ok (.goto 4, 3) := by decide +kernel
theorem dX10_isCaught_27 : decode cX10_isCaught 27 = .ok (.iconst 0, 1) := by decide +kernel
theorem dX10_isCaught_28 : decode cX10_isCaught 28 = .ok (.ireturn, 1) := by decide +kernel
def f_X10_isCaught (σ : St) : Option (Int32 × St) :=
  cal (f_X10_placesOf σ (σ.1 100 19) (σ.1 100 21)) fun r1 s2 =>
    (if ((r1 >>> ((s2.1 100 22) &&& 31)) &&& (1 : Int32)) = (1 : Int32) then
      some ((1 : Int32), s2)
       else
      some ((0 : Int32), s2))
set_option maxHeartbeats 4000000 in
set_option maxRecDepth 100000 in
theorem c_X10_isCaught (l : Launch) (E : Ev) (hF : Full E) (σ : St) : Ctr l (en2 enI) (fun q => q.2) E md_X10_isCaught [rV E 100] σ (f_X10_isCaught σ) := by
  refine ctr_of rfl (Nat.le_of_ble_eq_true rfl) (fun Γ => ?_)
  show Sim _ Γ _ E md_X10_isCaught σ 0 [(0, rV E 100)] [] _
  unfold f_X10_isCaught
  refine s_aload_n dX10_isCaught_0 0 rfl rfl ?_
  refine s_aload_n dX10_isCaught_1 0 rfl rfl ?_
  refine s_geti gf_X10_238 rfl (m100 hF) k100 (ft_of k100 rfl) dX10_isCaught_2 ?_
  refine s_aload_n dX10_isCaught_5 0 rfl rfl ?_
  refine s_geti gf_X10_244 rfl (m100 hF) k100 (ft_of k100 rfl) dX10_isCaught_6 ?_
  refine s_callVwI (As := [.int (σ.1 100 19), .int (σ.1 100 21)]) mf_X10_placesOf vf_X10_placesOf ml_X10_193 (c_X10_placesOf _ E hF σ (σ.1 100 19) (σ.1 100 21)) (m100 hF) k100 (by decide) rfl rfl rfl rfl (Nat.le_of_ble_eq_true rfl) rfl dX10_isCaught_9 (fun r1 s2 => ?_)
  refine s_aload_n dX10_isCaught_12 0 rfl rfl ?_
  refine s_geti gf_X10_247 rfl (m100 hF) k100 (ft_of k100 rfl) dX10_isCaught_13 ?_
  refine s_ishr dX10_isCaught_16 ?_
  refine s_iconst (v := 1) dX10_isCaught_17 (by decide) ?_
  refine s_iand dX10_isCaught_18 ?_
  refine s_iconst (v := 1) dX10_isCaught_19 (by decide) ?_
  refine s_icmp_ne 27 dX10_isCaught_20 (by decide) ?_ ?_
  · skip
    refine s_iconst (v := 1) dX10_isCaught_23 (by decide) ?_
    refine s_goto 28 dX10_isCaught_24 (by decide) ?_
    exact s_zreturn rfl (by decide) rfl rfl dX10_isCaught_28
  · skip
    refine s_iconst (v := 0) dX10_isCaught_27 (by decide) ?_
    exact s_zreturn rfl (by decide) rfl rfl dX10_isCaught_28
theorem dX10_turn_0 : decode cX10_turn 0 = .ok (.aload_n 0, 1) := by decide +kernel
theorem dX10_turn_1 : decode cX10_turn 1 = .ok (.getfield 91, 3) := by decide +kernel
theorem dX10_turn_4 : decode cX10_turn 4 = .ok (.ifCond .eq 10, 3) := by decide +kernel
theorem dX10_turn_7 : decode cX10_turn 7 = .ok (.aload_n 0, 1) := by decide +kernel
theorem dX10_turn_8 : decode cX10_turn 8 = .ok (.invokevirtual 250, 3) := by decide +kernel
theorem dX10_turn_11 : decode cX10_turn 11 = .ok (.ifCond .eq 6, 3) := by decide +kernel
theorem dX10_turn_14 : decode cX10_turn 14 = .ok (.bipush (-4), 2) := by decide +kernel
theorem dX10_turn_16 : decode cX10_turn 16 = .ok (.ireturn, 1) := by decide +kernel
theorem dX10_turn_17 : decode cX10_turn 17 = .ok (.iconst 0, 1) := by decide +kernel
theorem dX10_turn_18 : decode cX10_turn 18 = .ok (.istore_n 3, 1) := by decide +kernel
theorem dX10_turn_19 : decode cX10_turn 19 = .ok (.iconst 0, 1) := by decide +kernel
theorem dX10_turn_20 : decode cX10_turn 20 = .ok (.istore 4, 2) := by decide +kernel
theorem dX10_turn_22 : decode cX10_turn 22 = .ok (.iload 4, 2) := by decide +kernel
theorem dX10_turn_24 : decode cX10_turn 24 = .ok (.aload_n 0, 1) := by decide +kernel
theorem dX10_turn_25 : decode cX10_turn 25 = .ok (.getfield 238, 3) := by decide +kernel
theorem dX10_turn_28 : decode cX10_turn 28 = .ok (.if_icmp .ge 45, 3) := by decide +kernel
theorem dX10_turn_31 : decode cX10_turn 31 = .ok (.iload_n 1, 1) := by decide +kernel
theorem dX10_turn_32 : decode cX10_turn 32 = .ok (.iconst (-1), 1) := by decide +kernel
theorem dX10_turn_33 : decode cX10_turn 33 = .ok (.if_icmp .eq 40, 3) := by decide +kernel
theorem dX10_turn_36 : decode cX10_turn 36 = .ok (.iload_n 1, 1) := by decide +kernel
theorem dX10_turn_37 : decode cX10_turn 37 = .ok (.iconst 4, 1) := by decide +kernel
theorem dX10_turn_38 : decode cX10_turn 38 = .ok (.iload 4, 2) := by decide +kernel
theorem dX10_turn_40 : decode cX10_turn 40 = .ok (.imul, 1) := by decide +kernel
theorem dX10_turn_41 : decode cX10_turn 41 = .ok (.ishr, 1) := by decide +kernel
theorem dX10_turn_42 : decode cX10_turn 42 = .ok (.bipush 15, 2) := by decide +kernel
theorem dX10_turn_44 : decode cX10_turn 44 = .ok (.iand, 1) := by decide +kernel
theorem dX10_turn_45 : decode cX10_turn 45 = .ok (.istore 5, 2) := by decide +kernel
theorem dX10_turn_47 : decode cX10_turn 47 = .ok (.iload 5, 2) := by decide +kernel
theorem dX10_turn_49 : decode cX10_turn 49 = .ok (.aload_n 0, 1) := by decide +kernel
theorem dX10_turn_50 : decode cX10_turn 50 = .ok (.getfield 7, 3) := by decide +kernel
theorem dX10_turn_53 : decode cX10_turn 53 = .ok (.if_icmp .lt 6, 3) := by decide +kernel
theorem dX10_turn_56 : decode cX10_turn 56 = .ok (.bipush (-2), 2) := by decide +kernel
theorem dX10_turn_58 : decode cX10_turn 58 = .ok (.ireturn, 1) := by decide +kernel
theorem dX10_turn_59 : decode cX10_turn 59 = .ok (.bipush 8, 2) := by decide +kernel
theorem dX10_turn_61 : decode cX10_turn 61 = .ok (.iload_n 3, 1) := by decide +kernel
theorem dX10_turn_62 : decode cX10_turn 62 = .ok (.imul, 1) := by decide +kernel
theorem dX10_turn_63 : decode cX10_turn 63 = .ok (.iload 5, 2) := by decide +kernel
theorem dX10_turn_65 : decode cX10_turn 65 = .ok (.iadd, 1) := by decide +kernel
theorem dX10_turn_66 : decode cX10_turn 66 = .ok (.istore_n 3, 1) := by decide +kernel
theorem dX10_turn_67 : decode cX10_turn 67 = .ok (.iinc 4 1, 3) := by decide +kernel
theorem dX10_turn_70 : decode cX10_turn 70 = .ok (.goto (-48), 3) := by decide +kernel
theorem dX10_turn_73 : decode cX10_turn 73 = .ok (.iload_n 2, 1) := by decide +kernel
theorem dX10_turn_74 : decode cX10_turn 74 = .ok (.iconst (-1), 1) := by decide +kernel
theorem dX10_turn_75 : decode cX10_turn 75 = .ok (.aload_n 0, 1) := by decide +kernel
theorem dX10_turn_76 : decode cX10_turn 76 = .ok (.getfield 7, 3) := by decide +kernel
theorem dX10_turn_79 : decode cX10_turn 79 = .ok (.iconst 1, 1) := by decide +kernel
theorem dX10_turn_80 : decode cX10_turn 80 = .ok (.isub, 1) := by decide +kernel
theorem dX10_turn_81 : decode cX10_turn 81 = .ok (.invokestatic 83, 3) := by decide +kernel
theorem dX10_turn_84 : decode cX10_turn 84 = .ok (.ifCond .ne 6, 3) := by decide +kernel
theorem dX10_turn_87 : decode cX10_turn 87 = .ok (.bipush (-2), 2) := by decide +kernel
theorem dX10_turn_89 : decode cX10_turn 89 = .ok (.ireturn, 1) := by decide +kernel
theorem dX10_turn_90 : decode cX10_turn 90 = .ok (.iload_n 1, 1) := by decide +kernel
theorem dX10_turn_91 : decode cX10_turn 91 = .ok (.iconst (-1), 1) := by decide +kernel
theorem dX10_turn_92 : decode cX10_turn 92 = .ok (.if_icmp .ne 26, 3) := by decide +kernel
theorem dX10_turn_95 : decode cX10_turn 95 = .ok (.aload_n 0, 1) := by decide +kernel
theorem dX10_turn_96 : decode cX10_turn 96 = .ok (.aload_n 0, 1) := by decide +kernel
theorem dX10_turn_97 : decode cX10_turn 97 = .ok (.getfield 238, 3) := by decide +kernel
theorem dX10_turn_100 : decode cX10_turn 100 = .ok (.aload_n 0, 1) := by decide +kernel
theorem dX10_turn_101 : decode cX10_turn 101 = .ok (.getfield 241, 3) := by decide +kernel
theorem dX10_turn_104 : decode cX10_turn 104 = .ok (.aload_n 0, 1) := by decide +kernel
theorem dX10_turn_105 : decode cX10_turn 105 = .ok (.getfield 244, 3) := by decide +kernel
theorem dX10_turn_108 : decode cX10_turn 108 = .ok (.aload_n 0, 1) := by decide +kernel
theorem dX10_turn_109 : decode cX10_turn 109 = .ok (.getfield 247, 3) := by decide +kernel
theorem dX10_turn_112 : decode cX10_turn 112 = .ok (.invokevirtual 232, 3) := by decide +kernel
theorem dX10_turn_115 : decode cX10_turn 115 = .ok (.goto 16, 3) := by decide +kernel
theorem dX10_turn_118 : decode cX10_turn 118 = .ok (.aload_n 0, 1) := by decide +kernel
theorem dX10_turn_119 : decode cX10_turn 119 = .ok (.aload_n 0, 1) := by decide +kernel
theorem dX10_turn_120 : decode cX10_turn 120 = .ok (.getfield 238, 3) := by decide +kernel
theorem dX10_turn_123 : decode cX10_turn 123 = .ok (.aload_n 0, 1) := by decide +kernel
theorem dX10_turn_124 : decode cX10_turn 124 = .ok (.getfield 244, 3) := by decide +kernel
theorem dX10_turn_127 : decode cX10_turn 127 = .ok (.iload_n 3, 1) := by decide +kernel
theorem dX10_turn_128 : decode cX10_turn 128 = .ok (.invokevirtual 201, 3) := by decide +kernel
theorem dX10_turn_131 : decode cX10_turn 131 = .ok (.istore 4, 2) := by decide +kernel
theorem dX10_turn_133 : decode cX10_turn 133 = .ok (.iload 4, 2) := by decide +kernel
theorem dX10_turn_135 : decode cX10_turn 135 = .ok (.iconst (-1), 1) := by decide +kernel
theorem dX10_turn_136 : decode cX10_turn 136 = .ok (.if_icmp .ne 6, 3) := by decide +kernel
theorem dX10_turn_139 : decode cX10_turn 139 = .ok (.bipush (-4), 2) := by decide +kernel
theorem dX10_turn_141 : decode cX10_turn 141 = .ok (.ireturn, 1) := by decide +kernel
theorem dX10_turn_142 : decode cX10_turn 142 = .ok (.aload_n 0, 1) := by decide +kernel
theorem dX10_turn_143 : decode cX10_turn 143 = .ok (.aload_n 0, 1) := by decide +kernel
theorem dX10_turn_144 : decode cX10_turn 144 = .ok (.getfield 238, 3) := by decide +kernel
theorem dX10_turn_147 : decode cX10_turn 147 = .ok (.iload 4, 2) := by decide +kernel
theorem dX10_turn_149 : decode cX10_turn 149 = .ok (.invokevirtual 193, 3) := by decide +kernel
theorem dX10_turn_152 : decode cX10_turn 152 = .ok (.aload_n 0, 1) := by decide +kernel
theorem dX10_turn_153 : decode cX10_turn 153 = .ok (.getfield 247, 3) := by decide +kernel
theorem dX10_turn_156 : decode cX10_turn 156 = .ok (.ishr, 1) := by decide +kernel
theorem dX10_turn_157 : decode cX10_turn 157 = .ok (.iconst 1, 1) := by decide +kernel
theorem dX10_turn_158 : decode cX10_turn 158 = .ok (.iand, 1) := by decide +kernel
theorem dX10_turn_159 : decode cX10_turn 159 = .ok (.iconst 1, 1) := by decide +kernel
theorem dX10_turn_160 : decode cX10_turn 160 = .ok (.if_icmp .ne 7, 3) := by decide +kernel
theorem dX10_turn_163 : decode cX10_turn 163 = .ok (.iconst 1, 1) := by decide +kernel
theorem dX10_turn_164 : decode cX10_turn 164 = .ok (.goto 4, 3) := by decide +kernel
theorem dX10_turn_167 : decode cX10_turn 167 = .ok (.iconst 0, 1) := by decide +kernel
theorem dX10_turn_168 : decode cX10_turn 168 = .ok (.istore 5, 2) := by decide +kernel
theorem dX10_turn_170 : decode cX10_turn 170 = .ok (.aload_n 0, 1) := by decide +kernel
theorem dX10_turn_171 : decode cX10_turn 171 = .ok (.aload_n 0, 1) := by decide +kernel
theorem dX10_turn_172 : decode cX10_turn 172 = .ok (.getfield 238, 3) := by decide +kernel
theorem dX10_turn_175 : decode cX10_turn 175 = .ok (.aload_n 0, 1) := by decide +kernel
theorem dX10_turn_176 : decode cX10_turn 176 = .ok (.getfield 241, 3) := by decide +kernel
theorem dX10_turn_179 : decode cX10_turn 179 = .ok (.invokevirtual 223, 3) := by decide +kernel
theorem dX10_turn_182 : decode cX10_turn 182 = .ok (.iload 5, 2) := by decide +kernel
theorem dX10_turn_184 : decode cX10_turn 184 = .ok (.ifCond .ne 33, 3) := by decide +kernel
theorem dX10_turn_187 : decode cX10_turn 187 = .ok (.iload_n 2, 1) := by decide +kernel
theorem dX10_turn_188 : decode cX10_turn 188 = .ok (.iconst (-1), 1) := by decide +kernel
theorem dX10_turn_189 : decode cX10_turn 189 = .ok (.if_icmp .eq 28, 3) := by decide +kernel
theorem dX10_turn_192 : decode cX10_turn 192 = .ok (.aload_n 0, 1) := by decide +kernel
theorem dX10_turn_193 : decode cX10_turn 193 = .ok (.getfield 31, 3) := by decide +kernel
theorem dX10_turn_196 : decode cX10_turn 196 = .ok (.bipush 8, 2) := by decide +kernel
theorem dX10_turn_198 : decode cX10_turn 198 = .ok (.iload 4, 2) := by decide +kernel
theorem dX10_turn_200 : decode cX10_turn 200 = .ok (.imul, 1) := by decide +kernel
theorem dX10_turn_201 : decode cX10_turn 201 = .ok (.aload_n 0, 1) := by decide +kernel
theorem dX10_turn_202 : decode cX10_turn 202 = .ok (.getfield 247, 3) := by decide +kernel
theorem dX10_turn_205 : decode cX10_turn 205 = .ok (.iadd, 1) := by decide +kernel
theorem dX10_turn_206 : decode cX10_turn 206 = .ok (.iaload, 1) := by decide +kernel
theorem dX10_turn_207 : decode cX10_turn 207 = .ok (.iload_n 2, 1) := by decide +kernel
theorem dX10_turn_208 : decode cX10_turn 208 = .ok (.ishr, 1) := by decide +kernel
theorem dX10_turn_209 : decode cX10_turn 209 = .ok (.iconst 1, 1) := by decide +kernel
theorem dX10_turn_210 : decode cX10_turn 210 = .ok (.iand, 1) := by decide +kernel
theorem dX10_turn_211 : decode cX10_turn 211 = .ok (.ifCond .ne 6, 3) := by decide +kernel
theorem dX10_turn_214 : decode cX10_turn 214 = .ok (.bipush (-4), 2) := by decide +kernel
theorem dX10_turn_216 : decode cX10_turn 216 = .ok (.ireturn, 1) := by decide +kernel
theorem dX10_turn_217 : decode cX10_turn 217 = .ok (.aload_n 0, 1) := by decide +kernel
theorem dX10_turn_218 : decode cX10_turn 218 = .ok (.iload 4, 2) := by decide +kernel
theorem dX10_turn_220 : decode cX10_turn 220 = .ok (.putfield 244, 3) := by decide +kernel
theorem dX10_turn_223 : decode cX10_turn 223 = .ok (.aload_n 0, 1) := by decide +kernel
theorem dX10_turn_224 : decode cX10_turn 224 = .ok (.iload 5, 2) := by decide +kernel
theorem dX10_turn_226 : decode cX10_turn 226 = .ok (.ifCond .eq 10, 3) := by decide +kernel
theorem dX10_turn_229 : decode cX10_turn 229 = .ok (.aload_n 0, 1) := by decide +kernel
theorem dX10_turn_230 : decode cX10_turn 230 = .ok (.getfield 247, 3) := by decide +kernel
theorem dX10_turn_233 : decode cX10_turn 233 = .ok (.goto 30, 3) := by decide +kernel
theorem dX10_turn_236 : decode cX10_turn 236 = .ok (.iload_n 2, 1) := by decide +kernel
theorem dX10_turn_237 : decode cX10_turn 237 = .ok (.iconst (-1), 1) := by decide +kernel
theorem dX10_turn_238 : decode cX10_turn 238 = .ok (.if_icmp .ne 24, 3) := by decide +kernel
theorem dX10_turn_241 : decode cX10_turn 241 = .ok (.aload_n 0, 1) := by decide +kernel
theorem dX10_turn_242 : decode cX10_turn 242 = .ok (.aload_n 0, 1) := by decide +kernel
theorem dX10_turn_243 : decode cX10_turn 243 = .ok (.getfield 238, 3) := by decide +kernel
theorem dX10_turn_246 : decode cX10_turn 246 = .ok (.aload_n 0, 1) := by decide +kernel
theorem dX10_turn_247 : decode cX10_turn 247 = .ok (.getfield 241, 3) := by decide +kernel
theorem dX10_turn_250 : decode cX10_turn 250 = .ok (.iload 4, 2) := by decide +kernel
theorem dX10_turn_252 : decode cX10_turn 252 = .ok (.aload_n 0, 1) := by decide +kernel
theorem dX10_turn_253 : decode cX10_turn 253 = .ok (.getfield 247, 3) := by decide +kernel
theorem dX10_turn_256 : decode cX10_turn 256 = .ok (.invokevirtual 235, 3) := by decide +kernel
theorem dX10_turn_259 : decode cX10_turn 259 = .ok (.goto 4, 3) := by decide +kernel
theorem dX10_turn_262 : decode cX10_turn 262 = .ok (.iload_n 2, 1) := by decide +kernel
theorem dX10_turn_263 : decode cX10_turn 263 = .ok (.putfield 247, 3) := by decide +kernel
theorem dX10_turn_266 : decode cX10_turn 266 = .ok (.aload_n 0, 1) := by decide +kernel
theorem dX10_turn_267 : decode cX10_turn 267 = .ok (.dup, 1) := by decide +kernel
theorem dX10_turn_268 : decode cX10_turn 268 = .ok (.getfield 94, 3) := by decide +kernel
theorem dX10_turn_271 : decode cX10_turn 271 = .ok (.iconst 1, 1) := by decide +kernel
theorem dX10_turn_272 : decode cX10_turn 272 = .ok (.iadd, 1) := by decide +kernel
theorem dX10_turn_273 : decode cX10_turn 273 = .ok (.putfield 94, 3) := by decide +kernel
theorem dX10_turn_276 : decode cX10_turn 276 = .ok (.iload 5, 2) := by decide +kernel
theorem dX10_turn_278 : decode cX10_turn 278 = .ok (.ifCond .eq 7, 3) := by decide +kernel
theorem dX10_turn_281 : decode cX10_turn 281 = .ok (.iconst 1, 1) := by decide +kernel
theorem dX10_turn_282 : decode cX10_turn 282 = .ok (.goto 4, 3) := by decide +kernel
theorem dX10_turn_285 : decode cX10_turn 285 = .ok (.iconst 0, 1) := by decide +kernel
theorem dX10_turn_286 : decode cX10_turn 286 = .ok (.ireturn, 1) := by decide +kernel
def f_X10_turn (σ : St) (v1 : Int32) (v2 : Int32) : Option (Int32 × St) :=
  (if (σ.1 100 24) = 0 then
    some ((-4 : Int32), σ)
     else
    cal (f_X10_isCaught σ) fun r1 s2 =>
      (if r1 = 0 then
        lo2 FU (fun rec5 (x3 : Int32) (x4 : Int32) =>
          jn0 (fun jk7 =>
            (if x4 < (s2.1 100 19) then
              (if v1 = (-1 : Int32) then
                jk7
                 else
                bd ((v1 >>> (((4 : Int32) * x4) &&& 31)) &&& (15 : Int32)) fun x30 =>
                  (if x30 < (s2.1 100 0) then
                    bd (((8 : Int32) * x3) + x30) fun x31 =>
                      rec5 x31 (x4 + 1)
                     else
                    some ((-2 : Int32), s2)))
               else
              jk7))
            (
            calP (f_X10_in s2 v2 (-1 : Int32) ((s2.1 100 0) - (1 : Int32))) fun r8 =>
                (if r8 = 0 then
                  some ((-2 : Int32), s2)
                   else
                  jn2 (fun jk11 =>
                    (if v1 = (-1 : Int32) then
                      cal (f_X10_huntOf s2 (s2.1 100 19) (s2.1 100 20) (s2.1 100 21) (s2.1 100 22)) fun r26 s27 =>
                        jk11 s27 r26
                       else
                      cal (f_X10_moved s2 (s2.1 100 19) (s2.1 100 21) x3) fun r28 s29 =>
                        jk11 s29 r28))
                    (fun (s9 : St) (x10 : Int32) => 
                    (if x10 = (-1 : Int32) then
                        some ((-4 : Int32), s9)
                         else
                        cal (f_X10_placesOf s9 (s9.1 100 19) x10) fun r12 s13 =>
                          bd (if ((r12 >>> ((s13.1 100 22) &&& 31)) &&& (1 : Int32)) = (1 : Int32) then (1 : Int32) else (0 : Int32)) fun x14 =>
                            cal (f_X10_reckon s13 (s13.1 100 19) (s13.1 100 20)) fun _ s16 =>
                              jn0 (fun jk17 =>
                                (if x14 = 0 then
                                  (if v2 = (-1 : Int32) then
                                    jk17
                                     else
                                    ck (((8 : Int32) * x10) + (s16.1 100 22)) 4096 <|
                                      (if (((s16.1 106 (((8 : Int32) * x10) + (s16.1 100 22)).toNatClampNeg) >>> (v2 &&& 31)) &&& (1 : Int32)) = 0 then
                                        some ((-4 : Int32), s16)
                                         else
                                        jk17))
                                   else
                                  jk17))
                                (
                                bd (setI s16 100 21 x10) fun s18 =>
                                    jn2 (fun jk21 =>
                                      (if x14 = 0 then
                                        (if v2 = (-1 : Int32) then
                                          cal (f_X10_fleeOf s18 (s18.1 100 19) (s18.1 100 20) x10 (s18.1 100 22)) fun r24 s25 =>
                                            jk21 s25 r24
                                           else
                                          jk21 s18 v2)
                                         else
                                        jk21 s18 (s18.1 100 22)))
                                      (fun (s19 : St) (x20 : Int32) => 
                                      bd (setI s19 100 22 x20) fun s22 =>
                                          bd (setI s22 100 23 ((s22.1 100 23) + (1 : Int32))) fun s23 =>
                                            (if x14 = 0 then
                                              some ((0 : Int32), s23)
                                               else
                                              some ((1 : Int32), s23))))))))) (0 : Int32) (0 : Int32)
         else
        some ((-4 : Int32), s2)))
set_option maxHeartbeats 4000000 in
set_option maxRecDepth 100000 in
theorem c_X10_turn (l : Launch) (E : Ev) (hF : Full E) (σ : St) (v1 : Int32) (v2 : Int32) : Ctr l (en2 enI) (fun q => q.2) E md_X10_turn [rV E 100, .int v1, .int v2] σ (f_X10_turn σ v1 v2) := by
  refine ctr_of rfl (Nat.le_of_ble_eq_true rfl) (fun Γ => ?_)
  show Sim _ Γ _ E md_X10_turn σ 0 [(0, rV E 100), (1, .int v1), (2, .int v2)] [] _
  unfold f_X10_turn
  refine s_aload_n dX10_turn_0 0 rfl rfl ?_
  refine s_geti gf_X10_91 rfl (m100 hF) k100 (ft_of k100 rfl) dX10_turn_1 ?_
  refine s_if_eq 14 dX10_turn_4 (by decide) ?_ ?_
  · skip
    refine s_bipush (v := -4) dX10_turn_14 (by decide) ?_
    exact s_ireturn rfl rfl rfl dX10_turn_16
  · skip
    refine s_aload_n dX10_turn_7 0 rfl rfl ?_
    refine s_callVwI (As := []) mf_X10_isCaught vf_X10_isCaught ml_X10_250 (c_X10_isCaught _ E hF σ) (m100 hF) k100 (by decide) rfl rfl rfl rfl (Nat.le_of_ble_eq_true rfl) rfl dX10_turn_8 (fun r1 s2 => ?_)
    refine s_if_eq 17 dX10_turn_11 (by decide) ?_ ?_
    · skip
      refine s_iconst (v := 0) dX10_turn_17 (by decide) ?_
      refine s_istore_n [(3, .int (0 : Int32)), (0, rV E 100), (1, .int v1), (2, .int v2)] dX10_turn_18 rfl (by decide) rfl ?_
      refine s_iconst (v := 0) dX10_turn_19 (by decide) ?_
      refine s_istore [(4, .int (0 : Int32)), (3, .int (0 : Int32)), (0, rV E 100), (1, .int v1), (2, .int v2)] dX10_turn_20 (by decide) rfl ?_
      refine s_sub (lv' := [(0, rV E 100), (1, .int v1), (2, .int v2), (3, .int (0 : Int32)), (4, .int (0 : Int32))]) [2, 3, 4, 1, 0] rfl ?_
      refine s_lo2 (σf := fun x3 x4 => s2) (lvf := fun x3 x4 => [(0, rV E 100), (1, .int v1), (2, .int v2), (3, .int x3), (4, .int x4)]) (fun rec5 ih6 x3 x4 => ?_)
      refine s_iload dX10_turn_22 4 rfl ?_
      refine s_aload_n dX10_turn_24 0 rfl rfl ?_
      refine s_geti gf_X10_238 rfl (m100 hF) k100 (ft_of k100 rfl) dX10_turn_25 ?_
      refine s_jn0 s2 73 [(0, rV E 100), (1, .int v1), (2, .int v2), (3, .int x3)] [] ?_ ?_
      · skip
        refine s_iload_n dX10_turn_73 2 rfl rfl ?_
        refine s_iconst (v := -1) dX10_turn_74 (by decide) ?_
        refine s_aload_n dX10_turn_75 0 rfl rfl ?_
        refine s_geti gf_X10_7 rfl (m100 hF) k100 (ft_of k100 rfl) dX10_turn_76 ?_
        refine s_iconst (v := 1) dX10_turn_79 (by decide) ?_
        refine s_isub dX10_turn_80 ?_
        refine s_callSpI (As := [.int v2, .int (-1 : Int32), .int ((s2.1 100 0) - (1 : Int32))]) mf_X10_in vf_X10_in ml_X10_83 (c_X10_in _ E hF s2 v2 (-1 : Int32) ((s2.1 100 0) - (1 : Int32))) rfl rfl (Nat.le_of_ble_eq_true rfl) rfl dX10_turn_81 (fun r8 => ?_)
        refine s_if_ne 90 dX10_turn_84 (by decide) ?_ ?_
        · skip
          refine s_bipush (v := -2) dX10_turn_87 (by decide) ?_
          exact s_ireturn rfl rfl rfl dX10_turn_89
        · skip
          refine s_iload_n dX10_turn_90 1 rfl rfl ?_
          refine s_iconst (v := -1) dX10_turn_91 (by decide) ?_
          refine s_jn2 131 (fun s9 x10 => s9) (fun s9 x10 => [(0, rV E 100), (2, .int v2)]) (fun s9 x10 => [.int x10]) ?_ ?_
          · intro s9 x10
            refine s_istore [(4, .int x10), (0, rV E 100), (2, .int v2)] dX10_turn_131 (by decide) rfl ?_
            refine s_iload dX10_turn_133 0 rfl ?_
            refine s_iconst (v := -1) dX10_turn_135 (by decide) ?_
            refine s_icmp_ne 142 dX10_turn_136 (by decide) ?_ ?_
            · skip
              refine s_bipush (v := -4) dX10_turn_139 (by decide) ?_
              exact s_ireturn rfl rfl rfl dX10_turn_141
            · skip
              refine s_aload_n dX10_turn_142 1 rfl rfl ?_
              refine s_aload_n dX10_turn_143 1 rfl rfl ?_
              refine s_geti gf_X10_238 rfl (m100 hF) k100 (ft_of k100 rfl) dX10_turn_144 ?_
              refine s_iload dX10_turn_147 0 rfl ?_
              refine s_callVwI (As := [.int (s9.1 100 19), .int x10]) mf_X10_placesOf vf_X10_placesOf ml_X10_193 (c_X10_placesOf _ E hF s9 (s9.1 100 19) x10) (m100 hF) k100 (by decide) rfl rfl rfl rfl (Nat.le_of_ble_eq_true rfl) rfl dX10_turn_149 (fun r12 s13 => ?_)
              refine s_aload_n dX10_turn_152 1 rfl rfl ?_
              refine s_geti gf_X10_247 rfl (m100 hF) k100 (ft_of k100 rfl) dX10_turn_153 ?_
              refine s_ishr dX10_turn_156 ?_
              refine s_iconst (v := 1) dX10_turn_157 (by decide) ?_
              refine s_iand dX10_turn_158 ?_
              refine s_iconst (v := 1) dX10_turn_159 (by decide) ?_
              refine s_bd 168 (fun x14 => [(0, rV E 100), (2, .int v2), (4, .int x10)]) (fun x14 => [.int x14]) (fun jk15 => (if ((r12 >>> ((s13.1 100 22) &&& 31)) &&& (1 : Int32)) = (1 : Int32) then jk15 (1 : Int32) else jk15 (0 : Int32))) (fun jk15 => (j_ite rfl rfl)) ?_ ?_
              · intro x14
                refine s_istore [(5, .int x14), (0, rV E 100), (2, .int v2), (4, .int x10)] dX10_turn_168 (by decide) rfl ?_
                refine s_aload_n dX10_turn_170 1 rfl rfl ?_
                refine s_aload_n dX10_turn_171 1 rfl rfl ?_
                refine s_geti gf_X10_238 rfl (m100 hF) k100 (ft_of k100 rfl) dX10_turn_172 ?_
                refine s_aload_n dX10_turn_175 1 rfl rfl ?_
                refine s_geti gf_X10_241 rfl (m100 hF) k100 (ft_of k100 rfl) dX10_turn_176 ?_
                refine s_callVwV (As := [.int (s13.1 100 19), .int (s13.1 100 20)]) mf_X10_reckon vf_X10_reckon ml_X10_223 (c_X10_reckon _ E hF s13 (s13.1 100 19) (s13.1 100 20)) (m100 hF) k100 (by decide) rfl rfl rfl rfl (Nat.le_of_ble_eq_true rfl) rfl dX10_turn_179 (fun _ s16 => ?_)
                refine s_iload dX10_turn_182 0 rfl ?_
                refine s_jn0 s16 217 [(0, rV E 100), (2, .int v2), (4, .int x10), (5, .int x14)] [] ?_ ?_
                · skip
                  refine s_aload_n dX10_turn_217 0 rfl rfl ?_
                  refine s_iload dX10_turn_218 2 rfl ?_
                  refine s_puti gf_X10_244 rfl (m100 hF) k100 (ft_of k100 rfl) dX10_turn_220 (fun s18 => ?_)
                  refine s_aload_n dX10_turn_223 0 rfl rfl ?_
                  refine s_iload dX10_turn_224 3 rfl ?_
                  refine s_jn2 263 (fun s19 x20 => s19) (fun s19 x20 => [(0, rV E 100), (5, .int x14)]) (fun s19 x20 => [.int x20, rV E 100]) ?_ ?_
                  · intro s19 x20
                    refine s_puti gf_X10_247 rfl (m100 hF) k100 (ft_of k100 rfl) dX10_turn_263 (fun s22 => ?_)
                    refine s_aload_n dX10_turn_266 0 rfl rfl ?_
                    refine s_dup dX10_turn_267 rfl ?_
                    refine s_geti gf_X10_94 rfl (m100 hF) k100 (ft_of k100 rfl) dX10_turn_268 ?_
                    refine s_iconst (v := 1) dX10_turn_271 (by decide) ?_
                    refine s_iadd dX10_turn_272 ?_
                    refine s_puti gf_X10_94 rfl (m100 hF) k100 (ft_of k100 rfl) dX10_turn_273 (fun s23 => ?_)
                    refine s_iload dX10_turn_276 1 rfl ?_
                    refine s_if_eq 285 dX10_turn_278 (by decide) ?_ ?_
                    · skip
                      refine s_iconst (v := 0) dX10_turn_285 (by decide) ?_
                      exact s_ireturn rfl rfl rfl dX10_turn_286
                    · skip
                      refine s_iconst (v := 1) dX10_turn_281 (by decide) ?_
                      refine s_goto 286 dX10_turn_282 (by decide) ?_
                      exact s_ireturn rfl rfl rfl dX10_turn_286
                  · intro jk21 hjk21
                    refine s_if_eq 236 dX10_turn_226 (by decide) ?_ ?_
                    · skip
                      refine s_iload_n dX10_turn_236 1 rfl rfl ?_
                      refine s_iconst (v := -1) dX10_turn_237 (by decide) ?_
                      refine s_icmp_ne 262 dX10_turn_238 (by decide) ?_ ?_
                      · skip
                        refine s_aload_n dX10_turn_241 0 rfl rfl ?_
                        refine s_aload_n dX10_turn_242 0 rfl rfl ?_
                        refine s_geti gf_X10_238 rfl (m100 hF) k100 (ft_of k100 rfl) dX10_turn_243 ?_
                        refine s_aload_n dX10_turn_246 0 rfl rfl ?_
                        refine s_geti gf_X10_241 rfl (m100 hF) k100 (ft_of k100 rfl) dX10_turn_247 ?_
                        refine s_iload dX10_turn_250 2 rfl ?_
                        refine s_aload_n dX10_turn_252 0 rfl rfl ?_
                        refine s_geti gf_X10_247 rfl (m100 hF) k100 (ft_of k100 rfl) dX10_turn_253 ?_
                        refine s_callVwI (As := [.int (s18.1 100 19), .int (s18.1 100 20), .int x10, .int (s18.1 100 22)]) mf_X10_fleeOf vf_X10_fleeOf ml_X10_235 (c_X10_fleeOf _ E hF s18 (s18.1 100 19) (s18.1 100 20) x10 (s18.1 100 22)) (m100 hF) k100 (by decide) rfl rfl rfl rfl (Nat.le_of_ble_eq_true rfl) rfl dX10_turn_256 (fun r24 s25 => ?_)
                        refine s_goto 263 dX10_turn_259 (by decide) ?_
                        refine s_sub [0, 3] rfl ?_
                        exact hjk21 s25 r24
                      · skip
                        refine s_iload_n dX10_turn_262 1 rfl rfl ?_
                        refine s_sub [0, 3] rfl ?_
                        exact hjk21 s18 v2
                    · skip
                      refine s_aload_n dX10_turn_229 0 rfl rfl ?_
                      refine s_geti gf_X10_247 rfl (m100 hF) k100 (ft_of k100 rfl) dX10_turn_230 ?_
                      refine s_goto 263 dX10_turn_233 (by decide) ?_
                      refine s_sub [0, 3] rfl ?_
                      exact hjk21 s18 (s18.1 100 22)
                · intro jk17 hjk17
                  refine s_if_ne 217 dX10_turn_184 (by decide) ?_ ?_
                  · skip
                    refine s_iload_n dX10_turn_187 2 rfl rfl ?_
                    refine s_iconst (v := -1) dX10_turn_188 (by decide) ?_
                    refine s_icmp_eq 217 dX10_turn_189 (by decide) ?_ ?_
                    · skip
                      refine s_sub [1, 2, 3, 0] rfl ?_
                      exact hjk17
                    · skip
                      refine s_aload_n dX10_turn_192 1 rfl rfl ?_
                      refine s_getr (b := 106) gf_X10_31 rfl (m100 hF) k100 (ft_of k100 rfl) (hF.2 _ _) rfl dX10_turn_193 ?_
                      refine s_bipush (v := 8) dX10_turn_196 (by decide) ?_
                      refine s_iload dX10_turn_198 3 rfl ?_
                      refine s_imul dX10_turn_200 ?_
                      refine s_aload_n dX10_turn_201 1 rfl rfl ?_
                      refine s_geti gf_X10_247 rfl (m100 hF) k100 (ft_of k100 rfl) dX10_turn_202 ?_
                      refine s_iadd dX10_turn_205 ?_
                      refine s_iald (m106 hF) k106 l106 dX10_turn_206 ?_
                      refine s_iload_n dX10_turn_207 2 rfl rfl ?_
                      refine s_ishr dX10_turn_208 ?_
                      refine s_iconst (v := 1) dX10_turn_209 (by decide) ?_
                      refine s_iand dX10_turn_210 ?_
                      refine s_if_ne 217 dX10_turn_211 (by decide) ?_ ?_
                      · skip
                        refine s_bipush (v := -4) dX10_turn_214 (by decide) ?_
                        exact s_ireturn rfl rfl rfl dX10_turn_216
                      · skip
                        refine s_sub [1, 2, 3, 0] rfl ?_
                        exact hjk17
                  · skip
                    refine s_sub [1, 2, 3, 0] rfl ?_
                    exact hjk17
              · intro jk15 hjk15
                refine s_icmp_ne 167 dX10_turn_160 (by decide) ?_ ?_
                · skip
                  refine s_iconst (v := 1) dX10_turn_163 (by decide) ?_
                  refine s_goto 168 dX10_turn_164 (by decide) ?_
                  refine s_sub [1, 2, 0] rfl ?_
                  exact hjk15 (1 : Int32)
                · skip
                  refine s_iconst (v := 0) dX10_turn_167 (by decide) ?_
                  refine s_sub [1, 2, 0] rfl ?_
                  exact hjk15 (0 : Int32)
          · intro jk11 hjk11
            refine s_icmp_ne 118 dX10_turn_92 (by decide) ?_ ?_
            · skip
              refine s_aload_n dX10_turn_95 0 rfl rfl ?_
              refine s_aload_n dX10_turn_96 0 rfl rfl ?_
              refine s_geti gf_X10_238 rfl (m100 hF) k100 (ft_of k100 rfl) dX10_turn_97 ?_
              refine s_aload_n dX10_turn_100 0 rfl rfl ?_
              refine s_geti gf_X10_241 rfl (m100 hF) k100 (ft_of k100 rfl) dX10_turn_101 ?_
              refine s_aload_n dX10_turn_104 0 rfl rfl ?_
              refine s_geti gf_X10_244 rfl (m100 hF) k100 (ft_of k100 rfl) dX10_turn_105 ?_
              refine s_aload_n dX10_turn_108 0 rfl rfl ?_
              refine s_geti gf_X10_247 rfl (m100 hF) k100 (ft_of k100 rfl) dX10_turn_109 ?_
              refine s_callVwI (As := [.int (s2.1 100 19), .int (s2.1 100 20), .int (s2.1 100 21), .int (s2.1 100 22)]) mf_X10_huntOf vf_X10_huntOf ml_X10_232 (c_X10_huntOf _ E hF s2 (s2.1 100 19) (s2.1 100 20) (s2.1 100 21) (s2.1 100 22)) (m100 hF) k100 (by decide) rfl rfl rfl rfl (Nat.le_of_ble_eq_true rfl) rfl dX10_turn_112 (fun r26 s27 => ?_)
              refine s_goto 131 dX10_turn_115 (by decide) ?_
              refine s_sub [0, 2] rfl ?_
              exact hjk11 s27 r26
            · skip
              refine s_aload_n dX10_turn_118 0 rfl rfl ?_
              refine s_aload_n dX10_turn_119 0 rfl rfl ?_
              refine s_geti gf_X10_238 rfl (m100 hF) k100 (ft_of k100 rfl) dX10_turn_120 ?_
              refine s_aload_n dX10_turn_123 0 rfl rfl ?_
              refine s_geti gf_X10_244 rfl (m100 hF) k100 (ft_of k100 rfl) dX10_turn_124 ?_
              refine s_iload_n dX10_turn_127 3 rfl rfl ?_
              refine s_callVwI (As := [.int (s2.1 100 19), .int (s2.1 100 21), .int x3]) mf_X10_moved vf_X10_moved ml_X10_201 (c_X10_moved _ E hF s2 (s2.1 100 19) (s2.1 100 21) x3) (m100 hF) k100 (by decide) rfl rfl rfl rfl (Nat.le_of_ble_eq_true rfl) rfl dX10_turn_128 (fun r28 s29 => ?_)
              refine s_sub [0, 2] rfl ?_
              exact hjk11 s29 r28
      · intro jk7 hjk7
        refine s_icmp_ge 73 dX10_turn_28 (by decide) ?_ ?_
        · skip
          refine s_iload_n dX10_turn_31 1 rfl rfl ?_
          refine s_iconst (v := -1) dX10_turn_32 (by decide) ?_
          refine s_icmp_eq 73 dX10_turn_33 (by decide) ?_ ?_
          · skip
            refine s_sub [0, 1, 2, 3] rfl ?_
            exact hjk7
          · skip
            refine s_iload_n dX10_turn_36 1 rfl rfl ?_
            refine s_iconst (v := 4) dX10_turn_37 (by decide) ?_
            refine s_iload dX10_turn_38 4 rfl ?_
            refine s_imul dX10_turn_40 ?_
            refine s_ishr dX10_turn_41 ?_
            refine s_bipush (v := 15) dX10_turn_42 (by decide) ?_
            refine s_iand dX10_turn_44 ?_
            refine s_istoreB (fun x30 => [(5, .int x30), (0, rV E 100), (1, .int v1), (2, .int v2), (3, .int x3), (4, .int x4)]) dX10_turn_45 (by decide) (fun _ => rfl) (fun x30 => ?_)
            refine s_iload dX10_turn_47 0 rfl ?_
            refine s_aload_n dX10_turn_49 1 rfl rfl ?_
            refine s_geti gf_X10_7 rfl (m100 hF) k100 (ft_of k100 rfl) dX10_turn_50 ?_
            refine s_icmp_lt 59 dX10_turn_53 (by decide) ?_ ?_
            · skip
              refine s_bipush (v := 8) dX10_turn_59 (by decide) ?_
              refine s_iload_n dX10_turn_61 4 rfl rfl ?_
              refine s_imul dX10_turn_62 ?_
              refine s_iload dX10_turn_63 0 rfl ?_
              refine s_iadd dX10_turn_65 ?_
              refine s_istore_nB (fun x31 => [(3, .int x31), (5, .int x30), (0, rV E 100), (1, .int v1), (2, .int v2), (4, .int x4)]) dX10_turn_66 rfl (by decide) (fun _ => rfl) (fun x31 => ?_)
              refine s_iinc [(4, .int (x4 + 1)), (3, .int x31), (5, .int x30), (0, rV E 100), (1, .int v1), (2, .int v2)] dX10_turn_67 5 rfl rfl (by decide) rfl ?_
              refine s_goto 22 dX10_turn_70 (by decide) ?_
              refine s_sub [3, 4, 5, 1, 0] rfl ?_
              exact ih6 x31 (x4 + 1)
            · skip
              refine s_bipush (v := -2) dX10_turn_56 (by decide) ?_
              exact s_ireturn rfl rfl rfl dX10_turn_58
        · skip
          refine s_sub [0, 1, 2, 3] rfl ?_
          exact hjk7
    · skip
      refine s_bipush (v := -4) dX10_turn_14 (by decide) ?_
      exact s_ireturn rfl rfl rfl dX10_turn_16
theorem dX10_now_0 : decode cX10_now 0 = .ok (.iload_n 1, 1) := by decide +kernel
theorem dX10_now_1 : decode cX10_now 1 = .ok (.iconst 0, 1) := by decide +kernel
theorem dX10_now_2 : decode cX10_now 2 = .ok (.iconst 3, 1) := by decide +kernel
theorem dX10_now_3 : decode cX10_now 3 = .ok (.invokestatic 83, 3) := by decide +kernel
theorem dX10_now_6 : decode cX10_now 6 = .ok (.ifCond .ne 6, 3) := by decide +kernel
theorem dX10_now_9 : decode cX10_now 9 = .ok (.bipush (-3), 2) := by decide +kernel
theorem dX10_now_11 : decode cX10_now 11 = .ok (.ireturn, 1) := by decide +kernel
theorem dX10_now_12 : decode cX10_now 12 = .ok (.aload_n 0, 1) := by decide +kernel
theorem dX10_now_13 : decode cX10_now 13 = .ok (.getfield 91, 3) := by decide +kernel
theorem dX10_now_16 : decode cX10_now 16 = .ok (.ifCond .ne 6, 3) := by decide +kernel
theorem dX10_now_19 : decode cX10_now 19 = .ok (.bipush (-4), 2) := by decide +kernel
theorem dX10_now_21 : decode cX10_now 21 = .ok (.ireturn, 1) := by decide +kernel
theorem dX10_now_22 : decode cX10_now 22 = .ok (.iload_n 1, 1) := by decide +kernel
theorem dX10_now_23 : decode cX10_now 23 = .ok (.ifCond .ne 10, 3) := by decide +kernel
theorem dX10_now_26 : decode cX10_now 26 = .ok (.aload_n 0, 1) := by decide +kernel
theorem dX10_now_27 : decode cX10_now 27 = .ok (.getfield 244, 3) := by decide +kernel
theorem dX10_now_30 : decode cX10_now 30 = .ok (.goto 39, 3) := by decide +kernel
theorem dX10_now_33 : decode cX10_now 33 = .ok (.iload_n 1, 1) := by decide +kernel
theorem dX10_now_34 : decode cX10_now 34 = .ok (.iconst 1, 1) := by decide +kernel
theorem dX10_now_35 : decode cX10_now 35 = .ok (.if_icmp .ne 10, 3) := by decide +kernel
theorem dX10_now_38 : decode cX10_now 38 = .ok (.aload_n 0, 1) := by decide +kernel
theorem dX10_now_39 : decode cX10_now 39 = .ok (.getfield 247, 3) := by decide +kernel
theorem dX10_now_42 : decode cX10_now 42 = .ok (.goto 27, 3) := by decide +kernel
theorem dX10_now_45 : decode cX10_now 45 = .ok (.iload_n 1, 1) := by decide +kernel
theorem dX10_now_46 : decode cX10_now 46 = .ok (.iconst 2, 1) := by decide +kernel
theorem dX10_now_47 : decode cX10_now 47 = .ok (.if_icmp .ne 10, 3) := by decide +kernel
theorem dX10_now_50 : decode cX10_now 50 = .ok (.aload_n 0, 1) := by decide +kernel
theorem dX10_now_51 : decode cX10_now 51 = .ok (.getfield 94, 3) := by decide +kernel
theorem dX10_now_54 : decode cX10_now 54 = .ok (.goto 15, 3) := by decide +kernel
theorem dX10_now_57 : decode cX10_now 57 = .ok (.aload_n 0, 1) := by decide +kernel
theorem dX10_now_58 : decode cX10_now 58 = .ok (.invokevirtual 250, 3) := by decide +kernel
theorem dX10_now_61 : decode cX10_now 61 = .ok (.ifCond .eq 7, 3) := by decide +kernel
theorem dX10_now_64 : decode cX10_now 64 = .ok (.iconst 1, 1) := by decide +kernel
theorem dX10_now_65 : decode cX10_now 65 = .ok (.goto 4, 3) := by decide +kernel
theorem dX10_now_68 : decode cX10_now 68 = .ok (.iconst 0, 1) := by decide +kernel
theorem dX10_now_69 : decode cX10_now 69 = .ok (.ireturn, 1) := by decide +kernel
def f_X10_now (σ : St) (v1 : Int32) : Option (Int32 × St) :=
  calP (f_X10_in σ v1 (0 : Int32) (3 : Int32)) fun r1 =>
    (if r1 = 0 then
      some ((-3 : Int32), σ)
       else
      (if (σ.1 100 24) = 0 then
        some ((-4 : Int32), σ)
         else
        (if v1 = 0 then
          some ((σ.1 100 21), σ)
           else
          (if v1 = (1 : Int32) then
            some ((σ.1 100 22), σ)
             else
            (if v1 = (2 : Int32) then
              some ((σ.1 100 23), σ)
               else
              cal (f_X10_isCaught σ) fun r2 s3 =>
                (if r2 = 0 then
                  some ((0 : Int32), s3)
                   else
                  some ((1 : Int32), s3)))))))
set_option maxHeartbeats 4000000 in
set_option maxRecDepth 100000 in
theorem c_X10_now (l : Launch) (E : Ev) (hF : Full E) (σ : St) (v1 : Int32) : Ctr l (en2 enI) (fun q => q.2) E md_X10_now [rV E 100, .int v1] σ (f_X10_now σ v1) := by
  refine ctr_of rfl (Nat.le_of_ble_eq_true rfl) (fun Γ => ?_)
  show Sim _ Γ _ E md_X10_now σ 0 [(0, rV E 100), (1, .int v1)] [] _
  unfold f_X10_now
  refine s_iload_n dX10_now_0 1 rfl rfl ?_
  refine s_iconst (v := 0) dX10_now_1 (by decide) ?_
  refine s_iconst (v := 3) dX10_now_2 (by decide) ?_
  refine s_callSpI (As := [.int v1, .int (0 : Int32), .int (3 : Int32)]) mf_X10_in vf_X10_in ml_X10_83 (c_X10_in _ E hF σ v1 (0 : Int32) (3 : Int32)) rfl rfl (Nat.le_of_ble_eq_true rfl) rfl dX10_now_3 (fun r1 => ?_)
  refine s_if_ne 12 dX10_now_6 (by decide) ?_ ?_
  · skip
    refine s_bipush (v := -3) dX10_now_9 (by decide) ?_
    exact s_ireturn rfl rfl rfl dX10_now_11
  · skip
    refine s_aload_n dX10_now_12 0 rfl rfl ?_
    refine s_geti gf_X10_91 rfl (m100 hF) k100 (ft_of k100 rfl) dX10_now_13 ?_
    refine s_if_ne 22 dX10_now_16 (by decide) ?_ ?_
    · skip
      refine s_bipush (v := -4) dX10_now_19 (by decide) ?_
      exact s_ireturn rfl rfl rfl dX10_now_21
    · skip
      refine s_iload_n dX10_now_22 1 rfl rfl ?_
      refine s_if_ne 33 dX10_now_23 (by decide) ?_ ?_
      · skip
        refine s_aload_n dX10_now_26 0 rfl rfl ?_
        refine s_geti gf_X10_244 rfl (m100 hF) k100 (ft_of k100 rfl) dX10_now_27 ?_
        refine s_goto 69 dX10_now_30 (by decide) ?_
        exact s_ireturn rfl rfl rfl dX10_now_69
      · skip
        refine s_iload_n dX10_now_33 1 rfl rfl ?_
        refine s_iconst (v := 1) dX10_now_34 (by decide) ?_
        refine s_icmp_ne 45 dX10_now_35 (by decide) ?_ ?_
        · skip
          refine s_aload_n dX10_now_38 0 rfl rfl ?_
          refine s_geti gf_X10_247 rfl (m100 hF) k100 (ft_of k100 rfl) dX10_now_39 ?_
          refine s_goto 69 dX10_now_42 (by decide) ?_
          exact s_ireturn rfl rfl rfl dX10_now_69
        · skip
          refine s_iload_n dX10_now_45 1 rfl rfl ?_
          refine s_iconst (v := 2) dX10_now_46 (by decide) ?_
          refine s_icmp_ne 57 dX10_now_47 (by decide) ?_ ?_
          · skip
            refine s_aload_n dX10_now_50 0 rfl rfl ?_
            refine s_geti gf_X10_94 rfl (m100 hF) k100 (ft_of k100 rfl) dX10_now_51 ?_
            refine s_goto 69 dX10_now_54 (by decide) ?_
            exact s_ireturn rfl rfl rfl dX10_now_69
          · skip
            refine s_aload_n dX10_now_57 0 rfl rfl ?_
            refine s_callVwI (As := []) mf_X10_isCaught vf_X10_isCaught ml_X10_250 (c_X10_isCaught _ E hF σ) (m100 hF) k100 (by decide) rfl rfl rfl rfl (Nat.le_of_ble_eq_true rfl) rfl dX10_now_58 (fun r2 s3 => ?_)
            refine s_if_eq 68 dX10_now_61 (by decide) ?_ ?_
            · skip
              refine s_iconst (v := 0) dX10_now_68 (by decide) ?_
              exact s_ireturn rfl rfl rfl dX10_now_69
            · skip
              refine s_iconst (v := 1) dX10_now_64 (by decide) ?_
              refine s_goto 69 dX10_now_65 (by decide) ?_
              exact s_ireturn rfl rfl rfl dX10_now_69
