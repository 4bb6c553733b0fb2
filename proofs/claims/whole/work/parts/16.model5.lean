theorem dX10_stepsBoth_0 : decode cX10_stepsBoth 0 = .ok (.iconst 1, 1) := by decide +kernel
theorem dX10_stepsBoth_1 : decode cX10_stepsBoth 1 = .ok (.iload_n 1, 1) := by decide +kernel
theorem dX10_stepsBoth_2 : decode cX10_stepsBoth 2 = .ok (.ishl, 1) := by decide +kernel
theorem dX10_stepsBoth_3 : decode cX10_stepsBoth 3 = .ok (.istore_n 2, 1) := by decide +kernel
theorem dX10_stepsBoth_4 : decode cX10_stepsBoth 4 = .ok (.iconst 0, 1) := by decide +kernel
theorem dX10_stepsBoth_5 : decode cX10_stepsBoth 5 = .ok (.istore_n 3, 1) := by decide +kernel
theorem dX10_stepsBoth_6 : decode cX10_stepsBoth 6 = .ok (.iload_n 3, 1) := by decide +kernel
theorem dX10_stepsBoth_7 : decode cX10_stepsBoth 7 = .ok (.aload_n 0, 1) := by decide +kernel
theorem dX10_stepsBoth_8 : decode cX10_stepsBoth 8 = .ok (.getfield 7, 3) := by decide +kernel
theorem dX10_stepsBoth_11 : decode cX10_stepsBoth 11 = .ok (.if_icmp .ge 47, 3) := by decide +kernel
theorem dX10_stepsBoth_14 : decode cX10_stepsBoth 14 = .ok (.iload_n 2, 1) := by decide +kernel
theorem dX10_stepsBoth_15 : decode cX10_stepsBoth 15 = .ok (.aload_n 0, 1) := by decide +kernel
theorem dX10_stepsBoth_16 : decode cX10_stepsBoth 16 = .ok (.getfield 13, 3) := by decide +kernel
theorem dX10_stepsBoth_19 : decode cX10_stepsBoth 19 = .ok (.iload_n 1, 1) := by decide +kernel
theorem dX10_stepsBoth_20 : decode cX10_stepsBoth 20 = .ok (.iaload, 1) := by decide +kernel
theorem dX10_stepsBoth_21 : decode cX10_stepsBoth 21 = .ok (.iload_n 3, 1) := by decide +kernel
theorem dX10_stepsBoth_22 : decode cX10_stepsBoth 22 = .ok (.ishr, 1) := by decide +kernel
theorem dX10_stepsBoth_23 : decode cX10_stepsBoth 23 = .ok (.iconst 1, 1) := by decide +kernel
theorem dX10_stepsBoth_24 : decode cX10_stepsBoth 24 = .ok (.iand, 1) := by decide +kernel
theorem dX10_stepsBoth_25 : decode cX10_stepsBoth 25 = .ok (.iconst 1, 1) := by decide +kernel
theorem dX10_stepsBoth_26 : decode cX10_stepsBoth 26 = .ok (.if_icmp .ne 23, 3) := by decide +kernel
theorem dX10_stepsBoth_29 : decode cX10_stepsBoth 29 = .ok (.aload_n 0, 1) := by decide +kernel
theorem dX10_stepsBoth_30 : decode cX10_stepsBoth 30 = .ok (.getfield 13, 3) := by decide +kernel
theorem dX10_stepsBoth_33 : decode cX10_stepsBoth 33 = .ok (.iload_n 3, 1) := by decide +kernel
theorem dX10_stepsBoth_34 : decode cX10_stepsBoth 34 = .ok (.iaload, 1) := by decide +kernel
theorem dX10_stepsBoth_35 : decode cX10_stepsBoth 35 = .ok (.iload_n 1, 1) := by decide +kernel
theorem dX10_stepsBoth_36 : decode cX10_stepsBoth 36 = .ok (.ishr, 1) := by decide +kernel
theorem dX10_stepsBoth_37 : decode cX10_stepsBoth 37 = .ok (.iconst 1, 1) := by decide +kernel
theorem dX10_stepsBoth_38 : decode cX10_stepsBoth 38 = .ok (.iand, 1) := by decide +kernel
theorem dX10_stepsBoth_39 : decode cX10_stepsBoth 39 = .ok (.iconst 1, 1) := by decide +kernel
theorem dX10_stepsBoth_40 : decode cX10_stepsBoth 40 = .ok (.if_icmp .ne 9, 3) := by decide +kernel
theorem dX10_stepsBoth_43 : decode cX10_stepsBoth 43 = .ok (.iconst 1, 1) := by decide +kernel
theorem dX10_stepsBoth_44 : decode cX10_stepsBoth 44 = .ok (.iload_n 3, 1) := by decide +kernel
theorem dX10_stepsBoth_45 : decode cX10_stepsBoth 45 = .ok (.ishl, 1) := by decide +kernel
theorem dX10_stepsBoth_46 : decode cX10_stepsBoth 46 = .ok (.goto 4, 3) := by decide +kernel
theorem dX10_stepsBoth_49 : decode cX10_stepsBoth 49 = .ok (.iconst 0, 1) := by decide +kernel
theorem dX10_stepsBoth_50 : decode cX10_stepsBoth 50 = .ok (.ior, 1) := by decide +kernel
theorem dX10_stepsBoth_51 : decode cX10_stepsBoth 51 = .ok (.istore_n 2, 1) := by decide +kernel
theorem dX10_stepsBoth_52 : decode cX10_stepsBoth 52 = .ok (.iinc 3 1, 3) := by decide +kernel
theorem dX10_stepsBoth_55 : decode cX10_stepsBoth 55 = .ok (.goto (-49), 3) := by decide +kernel
theorem dX10_stepsBoth_58 : decode cX10_stepsBoth 58 = .ok (.iload_n 2, 1) := by decide +kernel
theorem dX10_stepsBoth_59 : decode cX10_stepsBoth 59 = .ok (.ireturn, 1) := by decide +kernel
def f_X10_stepsBoth (σ : St) (v1 : Int32) : Option Int32 :=
  bd ((1 : Int32) <<< (v1 &&& 31)) fun x1 =>
    lo2 FU (fun rec4 (x2 : Int32) (x3 : Int32) =>
      (if x3 < (σ.1 100 0) then
        ck v1 8 <|
          (if (((σ.1 101 v1.toNatClampNeg) >>> (x3 &&& 31)) &&& (1 : Int32)) = (1 : Int32) then
            ck x3 8 <|
              (if (((σ.1 101 x3.toNatClampNeg) >>> (v1 &&& 31)) &&& (1 : Int32)) = (1 : Int32) then
                bd (x2 ||| ((1 : Int32) <<< (x3 &&& 31))) fun x6 =>
                  rec4 x6 (x3 + 1)
                 else
                bd (x2 ||| (0 : Int32)) fun x7 =>
                  rec4 x7 (x3 + 1))
             else
            bd (x2 ||| (0 : Int32)) fun x8 =>
              rec4 x8 (x3 + 1))
         else
        some x2)) x1 (0 : Int32)
set_option maxHeartbeats 4000000 in
set_option maxRecDepth 100000 in
theorem c_X10_stepsBoth (l : Launch) (E : Ev) (hF : Full E) (σ : St) (v1 : Int32) : Ctr l enI (fun _ => σ) E md_X10_stepsBoth [rV E 100, .int v1] σ (f_X10_stepsBoth σ v1) := by
  refine ctr_of rfl (Nat.le_of_ble_eq_true rfl) (fun Γ => ?_)
  show Sim _ Γ _ E md_X10_stepsBoth σ 0 [(0, rV E 100), (1, .int v1)] [] _
  unfold f_X10_stepsBoth
  refine s_iconst (v := 1) dX10_stepsBoth_0 (by decide) ?_
  refine s_iload_n dX10_stepsBoth_1 1 rfl rfl ?_
  refine s_ishl dX10_stepsBoth_2 ?_
  refine s_istore_nB (fun x1 => [(2, .int x1), (0, rV E 100), (1, .int v1)]) dX10_stepsBoth_3 rfl (by decide) (fun _ => rfl) (fun x1 => ?_)
  refine s_iconst (v := 0) dX10_stepsBoth_4 (by decide) ?_
  refine s_istore_n [(3, .int (0 : Int32)), (2, .int x1), (0, rV E 100), (1, .int v1)] dX10_stepsBoth_5 rfl (by decide) rfl ?_
  refine s_sub (lv' := [(0, rV E 100), (1, .int v1), (2, .int x1), (3, .int (0 : Int32))]) [2, 3, 1, 0] rfl ?_
  refine s_lo2 (σf := fun x2 x3 => σ) (lvf := fun x2 x3 => [(0, rV E 100), (1, .int v1), (2, .int x2), (3, .int x3)]) (fun rec4 ih5 x2 x3 => ?_)
  refine s_iload_n dX10_stepsBoth_6 3 rfl rfl ?_
  refine s_aload_n dX10_stepsBoth_7 0 rfl rfl ?_
  refine s_geti gf_X10_7 rfl (m100 hF) k100 (ft_of k100 rfl) dX10_stepsBoth_8 ?_
  refine s_icmp_ge 58 dX10_stepsBoth_11 (by decide) ?_ ?_
  · skip
    refine s_iload_n dX10_stepsBoth_14 2 rfl rfl ?_
    refine s_aload_n dX10_stepsBoth_15 0 rfl rfl ?_
    refine s_getr (b := 101) gf_X10_13 rfl (m100 hF) k100 (ft_of k100 rfl) (hF.2 _ _) rfl dX10_stepsBoth_16 ?_
    refine s_iload_n dX10_stepsBoth_19 1 rfl rfl ?_
    refine s_iald (m101 hF) k101 l101 dX10_stepsBoth_20 ?_
    refine s_iload_n dX10_stepsBoth_21 3 rfl rfl ?_
    refine s_ishr dX10_stepsBoth_22 ?_
    refine s_iconst (v := 1) dX10_stepsBoth_23 (by decide) ?_
    refine s_iand dX10_stepsBoth_24 ?_
    refine s_iconst (v := 1) dX10_stepsBoth_25 (by decide) ?_
    refine s_icmp_ne 49 dX10_stepsBoth_26 (by decide) ?_ ?_
    · skip
      refine s_aload_n dX10_stepsBoth_29 0 rfl rfl ?_
      refine s_getr (b := 101) gf_X10_13 rfl (m100 hF) k100 (ft_of k100 rfl) (hF.2 _ _) rfl dX10_stepsBoth_30 ?_
      refine s_iload_n dX10_stepsBoth_33 3 rfl rfl ?_
      refine s_iald (m101 hF) k101 l101 dX10_stepsBoth_34 ?_
      refine s_iload_n dX10_stepsBoth_35 1 rfl rfl ?_
      refine s_ishr dX10_stepsBoth_36 ?_
      refine s_iconst (v := 1) dX10_stepsBoth_37 (by decide) ?_
      refine s_iand dX10_stepsBoth_38 ?_
      refine s_iconst (v := 1) dX10_stepsBoth_39 (by decide) ?_
      refine s_icmp_ne 49 dX10_stepsBoth_40 (by decide) ?_ ?_
      · skip
        refine s_iconst (v := 1) dX10_stepsBoth_43 (by decide) ?_
        refine s_iload_n dX10_stepsBoth_44 3 rfl rfl ?_
        refine s_ishl dX10_stepsBoth_45 ?_
        refine s_goto 50 dX10_stepsBoth_46 (by decide) ?_
        refine s_ior dX10_stepsBoth_50 ?_
        refine s_istore_nB (fun x6 => [(2, .int x6), (0, rV E 100), (1, .int v1), (3, .int x3)]) dX10_stepsBoth_51 rfl (by decide) (fun _ => rfl) (fun x6 => ?_)
        refine s_iinc [(3, .int (x3 + 1)), (2, .int x6), (0, rV E 100), (1, .int v1)] dX10_stepsBoth_52 3 rfl rfl (by decide) rfl ?_
        refine s_goto 6 dX10_stepsBoth_55 (by decide) ?_
        refine s_sub [2, 3, 1, 0] rfl ?_
        exact ih5 x6 (x3 + 1)
      · skip
        refine s_iconst (v := 0) dX10_stepsBoth_49 (by decide) ?_
        refine s_ior dX10_stepsBoth_50 ?_
        refine s_istore_nB (fun x7 => [(2, .int x7), (0, rV E 100), (1, .int v1), (3, .int x3)]) dX10_stepsBoth_51 rfl (by decide) (fun _ => rfl) (fun x7 => ?_)
        refine s_iinc [(3, .int (x3 + 1)), (2, .int x7), (0, rV E 100), (1, .int v1)] dX10_stepsBoth_52 3 rfl rfl (by decide) rfl ?_
        refine s_goto 6 dX10_stepsBoth_55 (by decide) ?_
        refine s_sub [2, 3, 1, 0] rfl ?_
        exact ih5 x7 (x3 + 1)
    · skip
      refine s_iconst (v := 0) dX10_stepsBoth_49 (by decide) ?_
      refine s_ior dX10_stepsBoth_50 ?_
      refine s_istore_nB (fun x8 => [(2, .int x8), (0, rV E 100), (1, .int v1), (3, .int x3)]) dX10_stepsBoth_51 rfl (by decide) (fun _ => rfl) (fun x8 => ?_)
      refine s_iinc [(3, .int (x3 + 1)), (2, .int x8), (0, rV E 100), (1, .int v1)] dX10_stepsBoth_52 3 rfl rfl (by decide) rfl ?_
      refine s_goto 6 dX10_stepsBoth_55 (by decide) ?_
      refine s_sub [2, 3, 1, 0] rfl ?_
      exact ih5 x8 (x3 + 1)
  · skip
    refine s_iload_n dX10_stepsBoth_58 2 rfl rfl ?_
    exact s_ireturn rfl rfl rfl dX10_stepsBoth_59
theorem dX10_coveredIn_0 : decode cX10_coveredIn 0 = .ok (.iconst (-1), 1) := by decide +kernel
theorem dX10_coveredIn_1 : decode cX10_coveredIn 1 = .ok (.istore_n 2, 1) := by decide +kernel
theorem dX10_coveredIn_2 : decode cX10_coveredIn 2 = .ok (.aload_n 0, 1) := by decide +kernel
theorem dX10_coveredIn_3 : decode cX10_coveredIn 3 = .ok (.getfield 7, 3) := by decide +kernel
theorem dX10_coveredIn_6 : decode cX10_coveredIn 6 = .ok (.iconst 1, 1) := by decide +kernel
theorem dX10_coveredIn_7 : decode cX10_coveredIn 7 = .ok (.isub, 1) := by decide +kernel
theorem dX10_coveredIn_8 : decode cX10_coveredIn 8 = .ok (.istore_n 3, 1) := by decide +kernel
theorem dX10_coveredIn_9 : decode cX10_coveredIn 9 = .ok (.iload_n 3, 1) := by decide +kernel
theorem dX10_coveredIn_10 : decode cX10_coveredIn 10 = .ok (.ifCond .lt 89, 3) := by decide +kernel
theorem dX10_coveredIn_13 : decode cX10_coveredIn 13 = .ok (.iconst 0, 1) := by decide +kernel
theorem dX10_coveredIn_14 : decode cX10_coveredIn 14 = .ok (.istore 4, 2) := by decide +kernel
theorem dX10_coveredIn_16 : decode cX10_coveredIn 16 = .ok (.iload 4, 2) := by decide +kernel
theorem dX10_coveredIn_18 : decode cX10_coveredIn 18 = .ok (.aload_n 0, 1) := by decide +kernel
theorem dX10_coveredIn_19 : decode cX10_coveredIn 19 = .ok (.getfield 7, 3) := by decide +kernel
theorem dX10_coveredIn_22 : decode cX10_coveredIn 22 = .ok (.if_icmp .ge 71, 3) := by decide +kernel
theorem dX10_coveredIn_25 : decode cX10_coveredIn 25 = .ok (.iload_n 3, 1) := by decide +kernel
theorem dX10_coveredIn_26 : decode cX10_coveredIn 26 = .ok (.iload 4, 2) := by decide +kernel
theorem dX10_coveredIn_28 : decode cX10_coveredIn 28 = .ok (.if_icmp .eq 26, 3) := by decide +kernel
theorem dX10_coveredIn_31 : decode cX10_coveredIn 31 = .ok (.iload_n 1, 1) := by decide +kernel
theorem dX10_coveredIn_32 : decode cX10_coveredIn 32 = .ok (.iload_n 3, 1) := by decide +kernel
theorem dX10_coveredIn_33 : decode cX10_coveredIn 33 = .ok (.ishr, 1) := by decide +kernel
theorem dX10_coveredIn_34 : decode cX10_coveredIn 34 = .ok (.iconst 1, 1) := by decide +kernel
theorem dX10_coveredIn_35 : decode cX10_coveredIn 35 = .ok (.iand, 1) := by decide +kernel
theorem dX10_coveredIn_36 : decode cX10_coveredIn 36 = .ok (.iconst 1, 1) := by decide +kernel
theorem dX10_coveredIn_37 : decode cX10_coveredIn 37 = .ok (.if_icmp .ne 17, 3) := by decide +kernel
theorem dX10_coveredIn_40 : decode cX10_coveredIn 40 = .ok (.iload_n 1, 1) := by decide +kernel
theorem dX10_coveredIn_41 : decode cX10_coveredIn 41 = .ok (.iload 4, 2) := by decide +kernel
theorem dX10_coveredIn_43 : decode cX10_coveredIn 43 = .ok (.ishr, 1) := by decide +kernel
theorem dX10_coveredIn_44 : decode cX10_coveredIn 44 = .ok (.iconst 1, 1) := by decide +kernel
theorem dX10_coveredIn_45 : decode cX10_coveredIn 45 = .ok (.iand, 1) := by decide +kernel
theorem dX10_coveredIn_46 : decode cX10_coveredIn 46 = .ok (.iconst 1, 1) := by decide +kernel
theorem dX10_coveredIn_47 : decode cX10_coveredIn 47 = .ok (.if_icmp .ne 7, 3) := by decide +kernel
theorem dX10_coveredIn_50 : decode cX10_coveredIn 50 = .ok (.iconst 1, 1) := by decide +kernel
theorem dX10_coveredIn_51 : decode cX10_coveredIn 51 = .ok (.goto 4, 3) := by decide +kernel
theorem dX10_coveredIn_54 : decode cX10_coveredIn 54 = .ok (.iconst 0, 1) := by decide +kernel
theorem dX10_coveredIn_55 : decode cX10_coveredIn 55 = .ok (.istore 5, 2) := by decide +kernel
theorem dX10_coveredIn_57 : decode cX10_coveredIn 57 = .ok (.iload 5, 2) := by decide +kernel
theorem dX10_coveredIn_59 : decode cX10_coveredIn 59 = .ok (.ifCond .eq 26, 3) := by decide +kernel
theorem dX10_coveredIn_62 : decode cX10_coveredIn 62 = .ok (.aload_n 0, 1) := by decide +kernel
theorem dX10_coveredIn_63 : decode cX10_coveredIn 63 = .ok (.iload_n 3, 1) := by decide +kernel
theorem dX10_coveredIn_64 : decode cX10_coveredIn 64 = .ok (.invokevirtual 292, 3) := by decide +kernel
theorem dX10_coveredIn_67 : decode cX10_coveredIn 67 = .ok (.iload_n 1, 1) := by decide +kernel
theorem dX10_coveredIn_68 : decode cX10_coveredIn 68 = .ok (.iand, 1) := by decide +kernel
theorem dX10_coveredIn_69 : decode cX10_coveredIn 69 = .ok (.aload_n 0, 1) := by decide +kernel
theorem dX10_coveredIn_70 : decode cX10_coveredIn 70 = .ok (.iload 4, 2) := by decide +kernel
theorem dX10_coveredIn_72 : decode cX10_coveredIn 72 = .ok (.invokevirtual 292, 3) := by decide +kernel
theorem dX10_coveredIn_75 : decode cX10_coveredIn 75 = .ok (.iconst (-1), 1) := by decide +kernel
theorem dX10_coveredIn_76 : decode cX10_coveredIn 76 = .ok (.ixor, 1) := by decide +kernel
theorem dX10_coveredIn_77 : decode cX10_coveredIn 77 = .ok (.iand, 1) := by decide +kernel
theorem dX10_coveredIn_78 : decode cX10_coveredIn 78 = .ok (.ifCond .ne 7, 3) := by decide +kernel
theorem dX10_coveredIn_81 : decode cX10_coveredIn 81 = .ok (.iload_n 3, 1) := by decide +kernel
theorem dX10_coveredIn_82 : decode cX10_coveredIn 82 = .ok (.goto 4, 3) := by decide +kernel
theorem dX10_coveredIn_85 : decode cX10_coveredIn 85 = .ok (.iload_n 2, 1) := by decide +kernel
theorem dX10_coveredIn_86 : decode cX10_coveredIn 86 = .ok (.istore_n 2, 1) := by decide +kernel
theorem dX10_coveredIn_87 : decode cX10_coveredIn 87 = .ok (.iinc 4 1, 3) := by decide +kernel
theorem dX10_coveredIn_90 : decode cX10_coveredIn 90 = .ok (.goto (-74), 3) := by decide +kernel
theorem dX10_coveredIn_93 : decode cX10_coveredIn 93 = .ok (.iinc 3 (-1), 3) := by decide +kernel
theorem dX10_coveredIn_96 : decode cX10_coveredIn 96 = .ok (.goto (-87), 3) := by decide +kernel
theorem dX10_coveredIn_99 : decode cX10_coveredIn 99 = .ok (.iload_n 2, 1) := by decide +kernel
theorem dX10_coveredIn_100 : decode cX10_coveredIn 100 = .ok (.ireturn, 1) := by decide +kernel
def f_X10_coveredIn (σ : St) (v1 : Int32) : Option Int32 :=
  bd ((σ.1 100 0) - (1 : Int32)) fun x1 =>
    lo2 FU (fun rec4 (x2 : Int32) (x3 : Int32) =>
      (if x3 < 0 then
        some x2
         else
        lo2 FU (fun rec8 (x6 : Int32) (x7 : Int32) =>
          (if x7 < (σ.1 100 0) then
            bd (if x3 = x7 then (0 : Int32) else (if ((v1 >>> (x3 &&& 31)) &&& (1 : Int32)) = (1 : Int32) then (if ((v1 >>> (x7 &&& 31)) &&& (1 : Int32)) = (1 : Int32) then (1 : Int32) else (0 : Int32)) else (0 : Int32))) fun x10 =>
              (if x10 = 0 then
                rec8 x6 (x7 + 1)
                 else
                calP (f_X10_stepsBoth σ x3) fun r12 =>
                  calP (f_X10_stepsBoth σ x7) fun r13 =>
                    (if ((r12 &&& v1) &&& (r13 ^^^ (-1 : Int32))) = 0 then
                      rec8 x3 (x7 + 1)
                       else
                      rec8 x6 (x7 + 1)))
             else
            rec4 x6 (x3 + (-1)))) x2 (0 : Int32))) (-1 : Int32) x1
set_option maxHeartbeats 4000000 in
set_option maxRecDepth 100000 in
theorem c_X10_coveredIn (l : Launch) (E : Ev) (hF : Full E) (σ : St) (v1 : Int32) : Ctr l enI (fun _ => σ) E md_X10_coveredIn [rV E 100, .int v1] σ (f_X10_coveredIn σ v1) := by
  refine ctr_of rfl (Nat.le_of_ble_eq_true rfl) (fun Γ => ?_)
  show Sim _ Γ _ E md_X10_coveredIn σ 0 [(0, rV E 100), (1, .int v1)] [] _
  unfold f_X10_coveredIn
  refine s_iconst (v := -1) dX10_coveredIn_0 (by decide) ?_
  refine s_istore_n [(2, .int (-1 : Int32)), (0, rV E 100), (1, .int v1)] dX10_coveredIn_1 rfl (by decide) rfl ?_
  refine s_aload_n dX10_coveredIn_2 1 rfl rfl ?_
  refine s_geti gf_X10_7 rfl (m100 hF) k100 (ft_of k100 rfl) dX10_coveredIn_3 ?_
  refine s_iconst (v := 1) dX10_coveredIn_6 (by decide) ?_
  refine s_isub dX10_coveredIn_7 ?_
  refine s_istore_nB (fun x1 => [(3, .int x1), (2, .int (-1 : Int32)), (0, rV E 100), (1, .int v1)]) dX10_coveredIn_8 rfl (by decide) (fun _ => rfl) (fun x1 => ?_)
  refine s_sub (lv' := [(0, rV E 100), (1, .int v1), (2, .int (-1 : Int32)), (3, .int x1)]) [2, 3, 1, 0] rfl ?_
  refine s_lo2 (σf := fun x2 x3 => σ) (lvf := fun x2 x3 => [(0, rV E 100), (1, .int v1), (2, .int x2), (3, .int x3)]) (fun rec4 ih5 x2 x3 => ?_)
  refine s_iload_n dX10_coveredIn_9 3 rfl rfl ?_
  refine s_if_lt 99 dX10_coveredIn_10 (by decide) ?_ ?_
  · skip
    refine s_iload_n dX10_coveredIn_99 2 rfl rfl ?_
    exact s_ireturn rfl rfl rfl dX10_coveredIn_100
  · skip
    refine s_iconst (v := 0) dX10_coveredIn_13 (by decide) ?_
    refine s_istore [(4, .int (0 : Int32)), (0, rV E 100), (1, .int v1), (2, .int x2), (3, .int x3)] dX10_coveredIn_14 (by decide) rfl ?_
    refine s_sub (lv' := [(0, rV E 100), (1, .int v1), (2, .int x2), (3, .int x3), (4, .int (0 : Int32))]) [1, 2, 3, 4, 0] rfl ?_
    refine s_lo2 (σf := fun x6 x7 => σ) (lvf := fun x6 x7 => [(0, rV E 100), (1, .int v1), (2, .int x6), (3, .int x3), (4, .int x7)]) (fun rec8 ih9 x6 x7 => ?_)
    refine s_iload dX10_coveredIn_16 4 rfl ?_
    refine s_aload_n dX10_coveredIn_18 0 rfl rfl ?_
    refine s_geti gf_X10_7 rfl (m100 hF) k100 (ft_of k100 rfl) dX10_coveredIn_19 ?_
    refine s_icmp_ge 93 dX10_coveredIn_22 (by decide) ?_ ?_
    · skip
      refine s_iload_n dX10_coveredIn_25 3 rfl rfl ?_
      refine s_iload dX10_coveredIn_26 4 rfl ?_
      refine s_bd 55 (fun x10 => [(0, rV E 100), (1, .int v1), (2, .int x6), (3, .int x3), (4, .int x7)]) (fun x10 => [.int x10]) (fun jk11 => (if x3 = x7 then jk11 (0 : Int32) else (if ((v1 >>> (x3 &&& 31)) &&& (1 : Int32)) = (1 : Int32) then (if ((v1 >>> (x7 &&& 31)) &&& (1 : Int32)) = (1 : Int32) then jk11 (1 : Int32) else jk11 (0 : Int32)) else jk11 (0 : Int32)))) (fun jk11 => (j_ite rfl (j_ite (j_ite rfl rfl) rfl))) ?_ ?_
      · intro x10
        refine s_istore [(5, .int x10), (0, rV E 100), (1, .int v1), (2, .int x6), (3, .int x3), (4, .int x7)] dX10_coveredIn_55 (by decide) rfl ?_
        refine s_iload dX10_coveredIn_57 0 rfl ?_
        refine s_if_eq 85 dX10_coveredIn_59 (by decide) ?_ ?_
        · skip
          refine s_iload_n dX10_coveredIn_85 3 rfl rfl ?_
          refine s_istore_n [(2, .int x6), (5, .int x10), (0, rV E 100), (1, .int v1), (3, .int x3), (4, .int x7)] dX10_coveredIn_86 rfl (by decide) rfl ?_
          refine s_iinc [(4, .int (x7 + 1)), (2, .int x6), (5, .int x10), (0, rV E 100), (1, .int v1), (3, .int x3)] dX10_coveredIn_87 5 rfl rfl (by decide) rfl ?_
          refine s_goto 16 dX10_coveredIn_90 (by decide) ?_
          refine s_sub [3, 4, 1, 5, 0] rfl ?_
          exact ih9 x6 (x7 + 1)
        · skip
          refine s_aload_n dX10_coveredIn_62 1 rfl rfl ?_
          refine s_iload_n dX10_coveredIn_63 4 rfl rfl ?_
          refine s_callVpI (As := [.int x3]) mf_X10_stepsBoth vf_X10_stepsBoth ml_X10_292 (c_X10_stepsBoth _ E hF σ x3) (m100 hF) k100 (by decide) rfl rfl rfl rfl (Nat.le_of_ble_eq_true rfl) rfl dX10_coveredIn_64 (fun r12 => ?_)
          refine s_iload_n dX10_coveredIn_67 2 rfl rfl ?_
          refine s_iand dX10_coveredIn_68 ?_
          refine s_aload_n dX10_coveredIn_69 1 rfl rfl ?_
          refine s_iload dX10_coveredIn_70 5 rfl ?_
          refine s_callVpI (As := [.int x7]) mf_X10_stepsBoth vf_X10_stepsBoth ml_X10_292 (c_X10_stepsBoth _ E hF σ x7) (m100 hF) k100 (by decide) rfl rfl rfl rfl (Nat.le_of_ble_eq_true rfl) rfl dX10_coveredIn_72 (fun r13 => ?_)
          refine s_iconst (v := -1) dX10_coveredIn_75 (by decide) ?_
          refine s_ixor dX10_coveredIn_76 ?_
          refine s_iand dX10_coveredIn_77 ?_
          refine s_if_ne 85 dX10_coveredIn_78 (by decide) ?_ ?_
          · skip
            refine s_iload_n dX10_coveredIn_81 4 rfl rfl ?_
            refine s_goto 86 dX10_coveredIn_82 (by decide) ?_
            refine s_istore_n [(2, .int x3), (5, .int x10), (0, rV E 100), (1, .int v1), (3, .int x3), (4, .int x7)] dX10_coveredIn_86 rfl (by decide) rfl ?_
            refine s_iinc [(4, .int (x7 + 1)), (2, .int x3), (5, .int x10), (0, rV E 100), (1, .int v1), (3, .int x3)] dX10_coveredIn_87 5 rfl rfl (by decide) rfl ?_
            refine s_goto 16 dX10_coveredIn_90 (by decide) ?_
            refine s_sub [3, 4, 1, 5, 0] rfl ?_
            exact ih9 x3 (x7 + 1)
          · skip
            refine s_iload_n dX10_coveredIn_85 3 rfl rfl ?_
            refine s_istore_n [(2, .int x6), (5, .int x10), (0, rV E 100), (1, .int v1), (3, .int x3), (4, .int x7)] dX10_coveredIn_86 rfl (by decide) rfl ?_
            refine s_iinc [(4, .int (x7 + 1)), (2, .int x6), (5, .int x10), (0, rV E 100), (1, .int v1), (3, .int x3)] dX10_coveredIn_87 5 rfl rfl (by decide) rfl ?_
            refine s_goto 16 dX10_coveredIn_90 (by decide) ?_
            refine s_sub [3, 4, 1, 5, 0] rfl ?_
            exact ih9 x6 (x7 + 1)
      · intro jk11 hjk11
        refine s_icmp_eq 54 dX10_coveredIn_28 (by decide) ?_ ?_
        · skip
          refine s_iconst (v := 0) dX10_coveredIn_54 (by decide) ?_
          exact hjk11 (0 : Int32)
        · skip
          refine s_iload_n dX10_coveredIn_31 1 rfl rfl ?_
          refine s_iload_n dX10_coveredIn_32 3 rfl rfl ?_
          refine s_ishr dX10_coveredIn_33 ?_
          refine s_iconst (v := 1) dX10_coveredIn_34 (by decide) ?_
          refine s_iand dX10_coveredIn_35 ?_
          refine s_iconst (v := 1) dX10_coveredIn_36 (by decide) ?_
          refine s_icmp_ne 54 dX10_coveredIn_37 (by decide) ?_ ?_
          · skip
            refine s_iload_n dX10_coveredIn_40 1 rfl rfl ?_
            refine s_iload dX10_coveredIn_41 4 rfl ?_
            refine s_ishr dX10_coveredIn_43 ?_
            refine s_iconst (v := 1) dX10_coveredIn_44 (by decide) ?_
            refine s_iand dX10_coveredIn_45 ?_
            refine s_iconst (v := 1) dX10_coveredIn_46 (by decide) ?_
            refine s_icmp_ne 54 dX10_coveredIn_47 (by decide) ?_ ?_
            · skip
              refine s_iconst (v := 1) dX10_coveredIn_50 (by decide) ?_
              refine s_goto 55 dX10_coveredIn_51 (by decide) ?_
              exact hjk11 (1 : Int32)
            · skip
              refine s_iconst (v := 0) dX10_coveredIn_54 (by decide) ?_
              exact hjk11 (0 : Int32)
          · skip
            refine s_iconst (v := 0) dX10_coveredIn_54 (by decide) ?_
            exact hjk11 (0 : Int32)
    · skip
      refine s_iinc [(3, .int (x3 + (-1))), (0, rV E 100), (1, .int v1), (2, .int x6), (4, .int x7)] dX10_coveredIn_93 3 rfl rfl (by decide) rfl ?_
      refine s_goto 9 dX10_coveredIn_96 (by decide) ?_
      refine s_sub [1, 2, 3, 0] rfl ?_
      exact ih5 x6 (x3 + (-1))
theorem dX10_away_0 : decode cX10_away 0 = .ok (.iload_n 1, 1) := by decide +kernel
theorem dX10_away_1 : decode cX10_away 1 = .ok (.iconst (-1), 1) := by decide +kernel
theorem dX10_away_2 : decode cX10_away 2 = .ok (.if_icmp .ge 6, 3) := by decide +kernel
theorem dX10_away_5 : decode cX10_away 5 = .ok (.bipush (-3), 2) := by decide +kernel
theorem dX10_away_7 : decode cX10_away 7 = .ok (.ireturn, 1) := by decide +kernel
theorem dX10_away_8 : decode cX10_away 8 = .ok (.iconst 1, 1) := by decide +kernel
theorem dX10_away_9 : decode cX10_away 9 = .ok (.aload_n 0, 1) := by decide +kernel
theorem dX10_away_10 : decode cX10_away 10 = .ok (.getfield 7, 3) := by decide +kernel
theorem dX10_away_13 : decode cX10_away 13 = .ok (.ishl, 1) := by decide +kernel
theorem dX10_away_14 : decode cX10_away 14 = .ok (.iconst 1, 1) := by decide +kernel
theorem dX10_away_15 : decode cX10_away 15 = .ok (.isub, 1) := by decide +kernel
theorem dX10_away_16 : decode cX10_away 16 = .ok (.istore_n 2, 1) := by decide +kernel
theorem dX10_away_17 : decode cX10_away 17 = .ok (.aload_n 0, 1) := by decide +kernel
theorem dX10_away_18 : decode cX10_away 18 = .ok (.iconst 0, 1) := by decide +kernel
theorem dX10_away_19 : decode cX10_away 19 = .ok (.putfield 295, 3) := by decide +kernel
theorem dX10_away_22 : decode cX10_away 22 = .ok (.aload_n 0, 1) := by decide +kernel
theorem dX10_away_23 : decode cX10_away 23 = .ok (.iload_n 2, 1) := by decide +kernel
theorem dX10_away_24 : decode cX10_away 24 = .ok (.invokevirtual 298, 3) := by decide +kernel
theorem dX10_away_27 : decode cX10_away 27 = .ok (.istore_n 3, 1) := by decide +kernel
theorem dX10_away_28 : decode cX10_away 28 = .ok (.iload_n 3, 1) := by decide +kernel
theorem dX10_away_29 : decode cX10_away 29 = .ok (.iconst (-1), 1) := by decide +kernel
theorem dX10_away_30 : decode cX10_away 30 = .ok (.if_icmp .eq 40, 3) := by decide +kernel
theorem dX10_away_33 : decode cX10_away 33 = .ok (.aload_n 0, 1) := by decide +kernel
theorem dX10_away_34 : decode cX10_away 34 = .ok (.getfield 67, 3) := by decide +kernel
theorem dX10_away_37 : decode cX10_away 37 = .ok (.aload_n 0, 1) := by decide +kernel
theorem dX10_away_38 : decode cX10_away 38 = .ok (.getfield 295, 3) := by decide +kernel
theorem dX10_away_41 : decode cX10_away 41 = .ok (.iload_n 3, 1) := by decide +kernel
theorem dX10_away_42 : decode cX10_away 42 = .ok (.iastore, 1) := by decide +kernel
theorem dX10_away_43 : decode cX10_away 43 = .ok (.aload_n 0, 1) := by decide +kernel
theorem dX10_away_44 : decode cX10_away 44 = .ok (.dup, 1) := by decide +kernel
theorem dX10_away_45 : decode cX10_away 45 = .ok (.getfield 295, 3) := by decide +kernel
theorem dX10_away_48 : decode cX10_away 48 = .ok (.iconst 1, 1) := by decide +kernel
theorem dX10_away_49 : decode cX10_away 49 = .ok (.iadd, 1) := by decide +kernel
theorem dX10_away_50 : decode cX10_away 50 = .ok (.putfield 295, 3) := by decide +kernel
theorem dX10_away_53 : decode cX10_away 53 = .ok (.iload_n 2, 1) := by decide +kernel
theorem dX10_away_54 : decode cX10_away 54 = .ok (.iconst 1, 1) := by decide +kernel
theorem dX10_away_55 : decode cX10_away 55 = .ok (.iload_n 3, 1) := by decide +kernel
theorem dX10_away_56 : decode cX10_away 56 = .ok (.ishl, 1) := by decide +kernel
theorem dX10_away_57 : decode cX10_away 57 = .ok (.iconst (-1), 1) := by decide +kernel
theorem dX10_away_58 : decode cX10_away 58 = .ok (.ixor, 1) := by decide +kernel
theorem dX10_away_59 : decode cX10_away 59 = .ok (.iand, 1) := by decide +kernel
theorem dX10_away_60 : decode cX10_away 60 = .ok (.istore_n 2, 1) := by decide +kernel
theorem dX10_away_61 : decode cX10_away 61 = .ok (.aload_n 0, 1) := by decide +kernel
theorem dX10_away_62 : decode cX10_away 62 = .ok (.iload_n 2, 1) := by decide +kernel
theorem dX10_away_63 : decode cX10_away 63 = .ok (.invokevirtual 298, 3) := by decide +kernel
theorem dX10_away_66 : decode cX10_away 66 = .ok (.istore_n 3, 1) := by decide +kernel
theorem dX10_away_67 : decode cX10_away 67 = .ok (.goto (-39), 3) := by decide +kernel
theorem dX10_away_70 : decode cX10_away 70 = .ok (.iload_n 1, 1) := by decide +kernel
theorem dX10_away_71 : decode cX10_away 71 = .ok (.iconst (-1), 1) := by decide +kernel
theorem dX10_away_72 : decode cX10_away 72 = .ok (.if_icmp .ne 10, 3) := by decide +kernel
theorem dX10_away_75 : decode cX10_away 75 = .ok (.iload_n 2, 1) := by decide +kernel
theorem dX10_away_76 : decode cX10_away 76 = .ok (.invokestatic 272, 3) := by decide +kernel
theorem dX10_away_79 : decode cX10_away 79 = .ok (.goto 21, 3) := by decide +kernel
theorem dX10_away_82 : decode cX10_away 82 = .ok (.iload_n 1, 1) := by decide +kernel
theorem dX10_away_83 : decode cX10_away 83 = .ok (.aload_n 0, 1) := by decide +kernel
theorem dX10_away_84 : decode cX10_away 84 = .ok (.getfield 295, 3) := by decide +kernel
theorem dX10_away_87 : decode cX10_away 87 = .ok (.if_icmp .ge 12, 3) := by decide +kernel
theorem dX10_away_90 : decode cX10_away 90 = .ok (.aload_n 0, 1) := by decide +kernel
theorem dX10_away_91 : decode cX10_away 91 = .ok (.getfield 67, 3) := by decide +kernel
theorem dX10_away_94 : decode cX10_away 94 = .ok (.iload_n 1, 1) := by decide +kernel
theorem dX10_away_95 : decode cX10_away 95 = .ok (.iaload, 1) := by decide +kernel
theorem dX10_away_96 : decode cX10_away 96 = .ok (.goto 4, 3) := by decide +kernel
theorem dX10_away_99 : decode cX10_away 99 = .ok (.iconst (-1), 1) := by decide +kernel
theorem dX10_away_100 : decode cX10_away 100 = .ok (.ireturn, 1) := by decide +kernel
def f_X10_away (σ : St) (v1 : Int32) : Option (Int32 × St) :=
  (if v1 < (-1 : Int32) then
    some ((-3 : Int32), σ)
     else
    bd (((1 : Int32) <<< ((σ.1 100 0) &&& 31)) - (1 : Int32)) fun x1 =>
      bd (setI σ 100 35 (0 : Int32)) fun s2 =>
        calP (f_X10_coveredIn s2 x1) fun r3 =>
          lo3 FU (fun rec7 (s4 : St) (x5 : Int32) (x6 : Int32) =>
            (if x6 = (-1 : Int32) then
              (if v1 = (-1 : Int32) then
                calP (f_X10_bits s4 x5) fun r9 =>
                  some (r9, s4)
                 else
                (if v1 < (s4.1 100 35) then
                  ck v1 8 <|
                    some ((s4.1 118 v1.toNatClampNeg), s4)
                   else
                  some ((-1 : Int32), s4)))
               else
              ck (s4.1 100 35) 8 <|
                bd (setI s4 118 (s4.1 100 35).toNatClampNeg x6) fun s10 =>
                  bd (setI s10 100 35 ((s10.1 100 35) + (1 : Int32))) fun s11 =>
                    bd (x5 &&& (((1 : Int32) <<< (x6 &&& 31)) ^^^ (-1 : Int32))) fun x12 =>
                      calP (f_X10_coveredIn s11 x12) fun r13 =>
                        rec7 s11 x12 r13)) s2 x1 r3)
set_option maxHeartbeats 4000000 in
set_option maxRecDepth 100000 in
theorem c_X10_away (l : Launch) (E : Ev) (hF : Full E) (σ : St) (v1 : Int32) : Ctr l (en2 enI) (fun q => q.2) E md_X10_away [rV E 100, .int v1] σ (f_X10_away σ v1) := by
  refine ctr_of rfl (Nat.le_of_ble_eq_true rfl) (fun Γ => ?_)
  show Sim _ Γ _ E md_X10_away σ 0 [(0, rV E 100), (1, .int v1)] [] _
  unfold f_X10_away
  refine s_iload_n dX10_away_0 1 rfl rfl ?_
  refine s_iconst (v := -1) dX10_away_1 (by decide) ?_
  refine s_icmp_ge 8 dX10_away_2 (by decide) ?_ ?_
  · skip
    refine s_bipush (v := -3) dX10_away_5 (by decide) ?_
    exact s_ireturn rfl rfl rfl dX10_away_7
  · skip
    refine s_iconst (v := 1) dX10_away_8 (by decide) ?_
    refine s_aload_n dX10_away_9 0 rfl rfl ?_
    refine s_geti gf_X10_7 rfl (m100 hF) k100 (ft_of k100 rfl) dX10_away_10 ?_
    refine s_ishl dX10_away_13 ?_
    refine s_iconst (v := 1) dX10_away_14 (by decide) ?_
    refine s_isub dX10_away_15 ?_
    refine s_istore_nB (fun x1 => [(2, .int x1), (0, rV E 100), (1, .int v1)]) dX10_away_16 rfl (by decide) (fun _ => rfl) (fun x1 => ?_)
    refine s_aload_n dX10_away_17 1 rfl rfl ?_
    refine s_iconst (v := 0) dX10_away_18 (by decide) ?_
    refine s_puti gf_X10_295 rfl (m100 hF) k100 (ft_of k100 rfl) dX10_away_19 (fun s2 => ?_)
    refine s_aload_n dX10_away_22 1 rfl rfl ?_
    refine s_iload_n dX10_away_23 0 rfl rfl ?_
    refine s_callVpI (As := [.int x1]) mf_X10_coveredIn vf_X10_coveredIn ml_X10_298 (c_X10_coveredIn _ E hF s2 x1) (m100 hF) k100 (by decide) rfl rfl rfl rfl (Nat.le_of_ble_eq_true rfl) rfl dX10_away_24 (fun r3 => ?_)
    refine s_istore_n [(3, .int r3), (2, .int x1), (0, rV E 100), (1, .int v1)] dX10_away_27 rfl (by decide) rfl ?_
    refine s_sub (lv' := [(0, rV E 100), (1, .int v1), (2, .int x1), (3, .int r3)]) [2, 3, 1, 0] rfl ?_
    refine s_lo3 (σf := fun s4 x5 x6 => s4) (lvf := fun s4 x5 x6 => [(0, rV E 100), (1, .int v1), (2, .int x5), (3, .int x6)]) (fun rec7 ih8 s4 x5 x6 => ?_)
    refine s_iload_n dX10_away_28 3 rfl rfl ?_
    refine s_iconst (v := -1) dX10_away_29 (by decide) ?_
    refine s_icmp_eq 70 dX10_away_30 (by decide) ?_ ?_
    · skip
      refine s_iload_n dX10_away_70 1 rfl rfl ?_
      refine s_iconst (v := -1) dX10_away_71 (by decide) ?_
      refine s_icmp_ne 82 dX10_away_72 (by decide) ?_ ?_
      · skip
        refine s_iload_n dX10_away_75 2 rfl rfl ?_
        refine s_callSpI (As := [.int x5]) mf_X10_bits vf_X10_bits ml_X10_272 (c_X10_bits _ E hF s4 x5) rfl rfl (Nat.le_of_ble_eq_true rfl) rfl dX10_away_76 (fun r9 => ?_)
        refine s_goto 100 dX10_away_79 (by decide) ?_
        exact s_ireturn rfl rfl rfl dX10_away_100
      · skip
        refine s_iload_n dX10_away_82 1 rfl rfl ?_
        refine s_aload_n dX10_away_83 0 rfl rfl ?_
        refine s_geti gf_X10_295 rfl (m100 hF) k100 (ft_of k100 rfl) dX10_away_84 ?_
        refine s_icmp_ge 99 dX10_away_87 (by decide) ?_ ?_
        · skip
          refine s_aload_n dX10_away_90 0 rfl rfl ?_
          refine s_getr (b := 118) gf_X10_67 rfl (m100 hF) k100 (ft_of k100 rfl) (hF.2 _ _) rfl dX10_away_91 ?_
          refine s_iload_n dX10_away_94 1 rfl rfl ?_
          refine s_iald (m118 hF) k118 l118 dX10_away_95 ?_
          refine s_goto 100 dX10_away_96 (by decide) ?_
          exact s_ireturn rfl rfl rfl dX10_away_100
        · skip
          refine s_iconst (v := -1) dX10_away_99 (by decide) ?_
          exact s_ireturn rfl rfl rfl dX10_away_100
    · skip
      refine s_aload_n dX10_away_33 0 rfl rfl ?_
      refine s_getr (b := 118) gf_X10_67 rfl (m100 hF) k100 (ft_of k100 rfl) (hF.2 _ _) rfl dX10_away_34 ?_
      refine s_aload_n dX10_away_37 0 rfl rfl ?_
      refine s_geti gf_X10_295 rfl (m100 hF) k100 (ft_of k100 rfl) dX10_away_38 ?_
      refine s_iload_n dX10_away_41 3 rfl rfl ?_
      refine s_iast (m118 hF) k118 l118 dX10_away_42 (fun s10 => ?_)
      refine s_aload_n dX10_away_43 0 rfl rfl ?_
      refine s_dup dX10_away_44 rfl ?_
      refine s_geti gf_X10_295 rfl (m100 hF) k100 (ft_of k100 rfl) dX10_away_45 ?_
      refine s_iconst (v := 1) dX10_away_48 (by decide) ?_
      refine s_iadd dX10_away_49 ?_
      refine s_puti gf_X10_295 rfl (m100 hF) k100 (ft_of k100 rfl) dX10_away_50 (fun s11 => ?_)
      refine s_iload_n dX10_away_53 2 rfl rfl ?_
      refine s_iconst (v := 1) dX10_away_54 (by decide) ?_
      refine s_iload_n dX10_away_55 3 rfl rfl ?_
      refine s_ishl dX10_away_56 ?_
      refine s_iconst (v := -1) dX10_away_57 (by decide) ?_
      refine s_ixor dX10_away_58 ?_
      refine s_iand dX10_away_59 ?_
      refine s_istore_nB (fun x12 => [(2, .int x12), (0, rV E 100), (1, .int v1), (3, .int x6)]) dX10_away_60 rfl (by decide) (fun _ => rfl) (fun x12 => ?_)
      refine s_aload_n dX10_away_61 1 rfl rfl ?_
      refine s_iload_n dX10_away_62 0 rfl rfl ?_
      refine s_callVpI (As := [.int x12]) mf_X10_coveredIn vf_X10_coveredIn ml_X10_298 (c_X10_coveredIn _ E hF s11 x12) (m100 hF) k100 (by decide) rfl rfl rfl rfl (Nat.le_of_ble_eq_true rfl) rfl dX10_away_63 (fun r13 => ?_)
      refine s_istore_n [(3, .int r13), (2, .int x12), (0, rV E 100), (1, .int v1)] dX10_away_66 rfl (by decide) rfl ?_
      refine s_goto 28 dX10_away_67 (by decide) ?_
      refine s_sub [2, 3, 1, 0] rfl ?_
      exact ih8 s11 x12 r13
theorem dX10_doesTouch_0 : decode cX10_doesTouch 0 = .ok (.iconst 1, 1) := by decide +kernel
theorem dX10_doesTouch_1 : decode cX10_doesTouch 1 = .ok (.istore_n 2, 1) := by decide +kernel
theorem dX10_doesTouch_2 : decode cX10_doesTouch 2 = .ok (.iconst 0, 1) := by decide +kernel
theorem dX10_doesTouch_3 : decode cX10_doesTouch 3 = .ok (.istore_n 3, 1) := by decide +kernel
theorem dX10_doesTouch_4 : decode cX10_doesTouch 4 = .ok (.iload_n 3, 1) := by decide +kernel
theorem dX10_doesTouch_5 : decode cX10_doesTouch 5 = .ok (.aload_n 0, 1) := by decide +kernel
theorem dX10_doesTouch_6 : decode cX10_doesTouch 6 = .ok (.getfield 7, 3) := by decide +kernel
theorem dX10_doesTouch_9 : decode cX10_doesTouch 9 = .ok (.if_icmp .ge 41, 3) := by decide +kernel
theorem dX10_doesTouch_12 : decode cX10_doesTouch 12 = .ok (.iload_n 2, 1) := by decide +kernel
theorem dX10_doesTouch_13 : decode cX10_doesTouch 13 = .ok (.ifCond .eq 29, 3) := by decide +kernel
theorem dX10_doesTouch_16 : decode cX10_doesTouch 16 = .ok (.iload_n 1, 1) := by decide +kernel
theorem dX10_doesTouch_17 : decode cX10_doesTouch 17 = .ok (.iload_n 3, 1) := by decide +kernel
theorem dX10_doesTouch_18 : decode cX10_doesTouch 18 = .ok (.ishr, 1) := by decide +kernel
theorem dX10_doesTouch_19 : decode cX10_doesTouch 19 = .ok (.iconst 1, 1) := by decide +kernel
theorem dX10_doesTouch_20 : decode cX10_doesTouch 20 = .ok (.iand, 1) := by decide +kernel
theorem dX10_doesTouch_21 : decode cX10_doesTouch 21 = .ok (.iconst 1, 1) := by decide +kernel
theorem dX10_doesTouch_22 : decode cX10_doesTouch 22 = .ok (.if_icmp .eq 16, 3) := by decide +kernel
theorem dX10_doesTouch_25 : decode cX10_doesTouch 25 = .ok (.aload_n 0, 1) := by decide +kernel
theorem dX10_doesTouch_26 : decode cX10_doesTouch 26 = .ok (.getfield 13, 3) := by decide +kernel
theorem dX10_doesTouch_29 : decode cX10_doesTouch 29 = .ok (.iload_n 3, 1) := by decide +kernel
theorem dX10_doesTouch_30 : decode cX10_doesTouch 30 = .ok (.iaload, 1) := by decide +kernel
theorem dX10_doesTouch_31 : decode cX10_doesTouch 31 = .ok (.iload_n 1, 1) := by decide +kernel
theorem dX10_doesTouch_32 : decode cX10_doesTouch 32 = .ok (.iconst (-1), 1) := by decide +kernel
theorem dX10_doesTouch_33 : decode cX10_doesTouch 33 = .ok (.ixor, 1) := by decide +kernel
theorem dX10_doesTouch_34 : decode cX10_doesTouch 34 = .ok (.iand, 1) := by decide +kernel
theorem dX10_doesTouch_35 : decode cX10_doesTouch 35 = .ok (.ifCond .ne 7, 3) := by decide +kernel
theorem dX10_doesTouch_38 : decode cX10_doesTouch 38 = .ok (.iconst 1, 1) := by decide +kernel
theorem dX10_doesTouch_39 : decode cX10_doesTouch 39 = .ok (.goto 4, 3) := by decide +kernel
theorem dX10_doesTouch_42 : decode cX10_doesTouch 42 = .ok (.iconst 0, 1) := by decide +kernel
theorem dX10_doesTouch_43 : decode cX10_doesTouch 43 = .ok (.istore_n 2, 1) := by decide +kernel
theorem dX10_doesTouch_44 : decode cX10_doesTouch 44 = .ok (.iinc 3 1, 3) := by decide +kernel
theorem dX10_doesTouch_47 : decode cX10_doesTouch 47 = .ok (.goto (-43), 3) := by decide +kernel
theorem dX10_doesTouch_50 : decode cX10_doesTouch 50 = .ok (.iload_n 2, 1) := by decide +kernel
theorem dX10_doesTouch_51 : decode cX10_doesTouch 51 = .ok (.ireturn, 1) := by decide +kernel
def f_X10_doesTouch (σ : St) (v1 : Int32) : Option Int32 :=
  lo2 FU (fun rec3 (x1 : Int32) (x2 : Int32) =>
    (if x2 < (σ.1 100 0) then
      (if x1 = 0 then
        rec3 (0 : Int32) (x2 + 1)
         else
        (if ((v1 >>> (x2 &&& 31)) &&& (1 : Int32)) = (1 : Int32) then
          rec3 (1 : Int32) (x2 + 1)
           else
          ck x2 8 <|
            (if ((σ.1 101 x2.toNatClampNeg) &&& (v1 ^^^ (-1 : Int32))) = 0 then
              rec3 (1 : Int32) (x2 + 1)
               else
              rec3 (0 : Int32) (x2 + 1))))
       else
      ckZ x1 <|
        some x1)) (1 : Int32) (0 : Int32)
set_option maxHeartbeats 4000000 in
set_option maxRecDepth 100000 in
theorem c_X10_doesTouch (l : Launch) (E : Ev) (hF : Full E) (σ : St) (v1 : Int32) : Ctr l enI (fun _ => σ) E md_X10_doesTouch [rV E 100, .int v1] σ (f_X10_doesTouch σ v1) := by
  refine ctr_of rfl (Nat.le_of_ble_eq_true rfl) (fun Γ => ?_)
  show Sim _ Γ _ E md_X10_doesTouch σ 0 [(0, rV E 100), (1, .int v1)] [] _
  unfold f_X10_doesTouch
  refine s_iconst (v := 1) dX10_doesTouch_0 (by decide) ?_
  refine s_istore_n [(2, .int (1 : Int32)), (0, rV E 100), (1, .int v1)] dX10_doesTouch_1 rfl (by decide) rfl ?_
  refine s_iconst (v := 0) dX10_doesTouch_2 (by decide) ?_
  refine s_istore_n [(3, .int (0 : Int32)), (2, .int (1 : Int32)), (0, rV E 100), (1, .int v1)] dX10_doesTouch_3 rfl (by decide) rfl ?_
  refine s_sub (lv' := [(0, rV E 100), (1, .int v1), (2, .int (1 : Int32)), (3, .int (0 : Int32))]) [2, 3, 1, 0] rfl ?_
  refine s_lo2 (σf := fun x1 x2 => σ) (lvf := fun x1 x2 => [(0, rV E 100), (1, .int v1), (2, .int x1), (3, .int x2)]) (fun rec3 ih4 x1 x2 => ?_)
  refine s_iload_n dX10_doesTouch_4 3 rfl rfl ?_
  refine s_aload_n dX10_doesTouch_5 0 rfl rfl ?_
  refine s_geti gf_X10_7 rfl (m100 hF) k100 (ft_of k100 rfl) dX10_doesTouch_6 ?_
  refine s_icmp_ge 50 dX10_doesTouch_9 (by decide) ?_ ?_
  · skip
    refine s_iload_n dX10_doesTouch_12 2 rfl rfl ?_
    refine s_if_eq 42 dX10_doesTouch_13 (by decide) ?_ ?_
    · skip
      refine s_iconst (v := 0) dX10_doesTouch_42 (by decide) ?_
      refine s_istore_n [(2, .int (0 : Int32)), (0, rV E 100), (1, .int v1), (3, .int x2)] dX10_doesTouch_43 rfl (by decide) rfl ?_
      refine s_iinc [(3, .int (x2 + 1)), (2, .int (0 : Int32)), (0, rV E 100), (1, .int v1)] dX10_doesTouch_44 3 rfl rfl (by decide) rfl ?_
      refine s_goto 4 dX10_doesTouch_47 (by decide) ?_
      refine s_sub [2, 3, 1, 0] rfl ?_
      exact ih4 (0 : Int32) (x2 + 1)
    · skip
      refine s_iload_n dX10_doesTouch_16 1 rfl rfl ?_
      refine s_iload_n dX10_doesTouch_17 3 rfl rfl ?_
      refine s_ishr dX10_doesTouch_18 ?_
      refine s_iconst (v := 1) dX10_doesTouch_19 (by decide) ?_
      refine s_iand dX10_doesTouch_20 ?_
      refine s_iconst (v := 1) dX10_doesTouch_21 (by decide) ?_
      refine s_icmp_eq 38 dX10_doesTouch_22 (by decide) ?_ ?_
      · skip
        refine s_iconst (v := 1) dX10_doesTouch_38 (by decide) ?_
        refine s_goto 43 dX10_doesTouch_39 (by decide) ?_
        refine s_istore_n [(2, .int (1 : Int32)), (0, rV E 100), (1, .int v1), (3, .int x2)] dX10_doesTouch_43 rfl (by decide) rfl ?_
        refine s_iinc [(3, .int (x2 + 1)), (2, .int (1 : Int32)), (0, rV E 100), (1, .int v1)] dX10_doesTouch_44 3 rfl rfl (by decide) rfl ?_
        refine s_goto 4 dX10_doesTouch_47 (by decide) ?_
        refine s_sub [2, 3, 1, 0] rfl ?_
        exact ih4 (1 : Int32) (x2 + 1)
      · skip
        refine s_aload_n dX10_doesTouch_25 0 rfl rfl ?_
        refine s_getr (b := 101) gf_X10_13 rfl (m100 hF) k100 (ft_of k100 rfl) (hF.2 _ _) rfl dX10_doesTouch_26 ?_
        refine s_iload_n dX10_doesTouch_29 3 rfl rfl ?_
        refine s_iald (m101 hF) k101 l101 dX10_doesTouch_30 ?_
        refine s_iload_n dX10_doesTouch_31 1 rfl rfl ?_
        refine s_iconst (v := -1) dX10_doesTouch_32 (by decide) ?_
        refine s_ixor dX10_doesTouch_33 ?_
        refine s_iand dX10_doesTouch_34 ?_
        refine s_if_ne 42 dX10_doesTouch_35 (by decide) ?_ ?_
        · skip
          refine s_iconst (v := 1) dX10_doesTouch_38 (by decide) ?_
          refine s_goto 43 dX10_doesTouch_39 (by decide) ?_
          refine s_istore_n [(2, .int (1 : Int32)), (0, rV E 100), (1, .int v1), (3, .int x2)] dX10_doesTouch_43 rfl (by decide) rfl ?_
          refine s_iinc [(3, .int (x2 + 1)), (2, .int (1 : Int32)), (0, rV E 100), (1, .int v1)] dX10_doesTouch_44 3 rfl rfl (by decide) rfl ?_
          refine s_goto 4 dX10_doesTouch_47 (by decide) ?_
          refine s_sub [2, 3, 1, 0] rfl ?_
          exact ih4 (1 : Int32) (x2 + 1)
        · skip
          refine s_iconst (v := 0) dX10_doesTouch_42 (by decide) ?_
          refine s_istore_n [(2, .int (0 : Int32)), (0, rV E 100), (1, .int v1), (3, .int x2)] dX10_doesTouch_43 rfl (by decide) rfl ?_
          refine s_iinc [(3, .int (x2 + 1)), (2, .int (0 : Int32)), (0, rV E 100), (1, .int v1)] dX10_doesTouch_44 3 rfl rfl (by decide) rfl ?_
          refine s_goto 4 dX10_doesTouch_47 (by decide) ?_
          refine s_sub [2, 3, 1, 0] rfl ?_
          exact ih4 (0 : Int32) (x2 + 1)
  · skip
    refine s_iload_n dX10_doesTouch_50 2 rfl rfl ?_
    refine s_ckZ (fun hz5 => ?_)
    exact s_zreturn rfl hz5 rfl rfl dX10_doesTouch_51
theorem dX10_least_0 : decode cX10_least 0 = .ok (.iload_n 1, 1) := by decide +kernel
theorem dX10_least_1 : decode cX10_least 1 = .ok (.iconst 0, 1) := by decide +kernel
theorem dX10_least_2 : decode cX10_least 2 = .ok (.iconst 1, 1) := by decide +kernel
theorem dX10_least_3 : decode cX10_least 3 = .ok (.invokestatic 83, 3) := by decide +kernel
theorem dX10_least_6 : decode cX10_least 6 = .ok (.ifCond .ne 6, 3) := by decide +kernel
theorem dX10_least_9 : decode cX10_least 9 = .ok (.bipush (-3), 2) := by decide +kernel
theorem dX10_least_11 : decode cX10_least 11 = .ok (.ireturn, 1) := by decide +kernel
theorem dX10_least_12 : decode cX10_least 12 = .ok (.iconst 1, 1) := by decide +kernel
theorem dX10_least_13 : decode cX10_least 13 = .ok (.aload_n 0, 1) := by decide +kernel
theorem dX10_least_14 : decode cX10_least 14 = .ok (.getfield 7, 3) := by decide +kernel
theorem dX10_least_17 : decode cX10_least 17 = .ok (.ishl, 1) := by decide +kernel
theorem dX10_least_18 : decode cX10_least 18 = .ok (.iconst 1, 1) := by decide +kernel
theorem dX10_least_19 : decode cX10_least 19 = .ok (.isub, 1) := by decide +kernel
theorem dX10_least_20 : decode cX10_least 20 = .ok (.istore_n 2, 1) := by decide +kernel
theorem dX10_least_21 : decode cX10_least 21 = .ok (.iload_n 2, 1) := by decide +kernel
theorem dX10_least_22 : decode cX10_least 22 = .ok (.istore_n 3, 1) := by decide +kernel
theorem dX10_least_23 : decode cX10_least 23 = .ok (.iconst 0, 1) := by decide +kernel
theorem dX10_least_24 : decode cX10_least 24 = .ok (.istore 4, 2) := by decide +kernel
theorem dX10_least_26 : decode cX10_least 26 = .ok (.iload 4, 2) := by decide +kernel
theorem dX10_least_28 : decode cX10_least 28 = .ok (.iload_n 2, 1) := by decide +kernel
theorem dX10_least_29 : decode cX10_least 29 = .ok (.if_icmp .ge 63, 3) := by decide +kernel
theorem dX10_least_32 : decode cX10_least 32 = .ok (.iload_n 1, 1) := by decide +kernel
theorem dX10_least_33 : decode cX10_least 33 = .ok (.ifCond .ne 21, 3) := by decide +kernel
theorem dX10_least_36 : decode cX10_least 36 = .ok (.aload_n 0, 1) := by decide +kernel
theorem dX10_least_37 : decode cX10_least 37 = .ok (.iload 4, 2) := by decide +kernel
theorem dX10_least_39 : decode cX10_least 39 = .ok (.invokevirtual 172, 3) := by decide +kernel
theorem dX10_least_42 : decode cX10_least 42 = .ok (.iload_n 2, 1) := by decide +kernel
theorem dX10_least_43 : decode cX10_least 43 = .ok (.if_icmp .ne 7, 3) := by decide +kernel
theorem dX10_least_46 : decode cX10_least 46 = .ok (.iconst 1, 1) := by decide +kernel
theorem dX10_least_47 : decode cX10_least 47 = .ok (.goto 13, 3) := by decide +kernel
theorem dX10_least_50 : decode cX10_least 50 = .ok (.iconst 0, 1) := by decide +kernel
theorem dX10_least_51 : decode cX10_least 51 = .ok (.goto 9, 3) := by decide +kernel
theorem dX10_least_54 : decode cX10_least 54 = .ok (.aload_n 0, 1) := by decide +kernel
theorem dX10_least_55 : decode cX10_least 55 = .ok (.iload 4, 2) := by decide +kernel
theorem dX10_least_57 : decode cX10_least 57 = .ok (.invokevirtual 301, 3) := by decide +kernel
theorem dX10_least_60 : decode cX10_least 60 = .ok (.istore 5, 2) := by decide +kernel
theorem dX10_least_62 : decode cX10_least 62 = .ok (.iload 5, 2) := by decide +kernel
theorem dX10_least_64 : decode cX10_least 64 = .ok (.ifCond .eq 20, 3) := by decide +kernel
theorem dX10_least_67 : decode cX10_least 67 = .ok (.iload 4, 2) := by decide +kernel
theorem dX10_least_69 : decode cX10_least 69 = .ok (.invokestatic 272, 3) := by decide +kernel
theorem dX10_least_72 : decode cX10_least 72 = .ok (.iload_n 3, 1) := by decide +kernel
theorem dX10_least_73 : decode cX10_least 73 = .ok (.invokestatic 272, 3) := by decide +kernel
theorem dX10_least_76 : decode cX10_least 76 = .ok (.if_icmp .ge 8, 3) := by decide +kernel
theorem dX10_least_79 : decode cX10_least 79 = .ok (.iload 4, 2) := by decide +kernel
theorem dX10_least_81 : decode cX10_least 81 = .ok (.goto 4, 3) := by decide +kernel
theorem dX10_least_84 : decode cX10_least 84 = .ok (.iload_n 3, 1) := by decide +kernel
theorem dX10_least_85 : decode cX10_least 85 = .ok (.istore_n 3, 1) := by decide +kernel
theorem dX10_least_86 : decode cX10_least 86 = .ok (.iinc 4 1, 3) := by decide +kernel
theorem dX10_least_89 : decode cX10_least 89 = .ok (.goto (-63), 3) := by decide +kernel
theorem dX10_least_92 : decode cX10_least 92 = .ok (.iload_n 3, 1) := by decide +kernel
theorem dX10_least_93 : decode cX10_least 93 = .ok (.ireturn, 1) := by decide +kernel
def f_X10_least (σ : St) (v1 : Int32) : Option Int32 :=
  calP (f_X10_in σ v1 (0 : Int32) (1 : Int32)) fun r1 =>
    (if r1 = 0 then
      some (-3 : Int32)
       else
      bd (((1 : Int32) <<< ((σ.1 100 0) &&& 31)) - (1 : Int32)) fun x2 =>
        lo2 FU (fun rec5 (x3 : Int32) (x4 : Int32) =>
          (if x4 < x2 then
            jn1 (fun jk8 =>
              (if v1 = 0 then
                calP (f_X10_stepped σ x4) fun r11 =>
                  (if r11 = x2 then
                    jk8 (1 : Int32)
                     else
                    jk8 (0 : Int32))
                 else
                calP (f_X10_doesTouch σ x4) fun r12 =>
                  jk8 r12))
              (fun (x7 : Int32) => 
              (if x7 = 0 then
                  rec5 x3 (x4 + 1)
                   else
                  calP (f_X10_bits σ x4) fun r9 =>
                    calP (f_X10_bits σ x3) fun r10 =>
                      (if r9 < r10 then
                        rec5 x4 (x4 + 1)
                         else
                        rec5 x3 (x4 + 1))))
             else
            some x3)) x2 (0 : Int32))
set_option maxHeartbeats 4000000 in
set_option maxRecDepth 100000 in
theorem c_X10_least (l : Launch) (E : Ev) (hF : Full E) (σ : St) (v1 : Int32) : Ctr l enI (fun _ => σ) E md_X10_least [rV E 100, .int v1] σ (f_X10_least σ v1) := by
  refine ctr_of rfl (Nat.le_of_ble_eq_true rfl) (fun Γ => ?_)
  show Sim _ Γ _ E md_X10_least σ 0 [(0, rV E 100), (1, .int v1)] [] _
  unfold f_X10_least
  refine s_iload_n dX10_least_0 1 rfl rfl ?_
  refine s_iconst (v := 0) dX10_least_1 (by decide) ?_
  refine s_iconst (v := 1) dX10_least_2 (by decide) ?_
  refine s_callSpI (As := [.int v1, .int (0 : Int32), .int (1 : Int32)]) mf_X10_in vf_X10_in ml_X10_83 (c_X10_in _ E hF σ v1 (0 : Int32) (1 : Int32)) rfl rfl (Nat.le_of_ble_eq_true rfl) rfl dX10_least_3 (fun r1 => ?_)
  refine s_if_ne 12 dX10_least_6 (by decide) ?_ ?_
  · skip
    refine s_bipush (v := -3) dX10_least_9 (by decide) ?_
    exact s_ireturn rfl rfl rfl dX10_least_11
  · skip
    refine s_iconst (v := 1) dX10_least_12 (by decide) ?_
    refine s_aload_n dX10_least_13 0 rfl rfl ?_
    refine s_geti gf_X10_7 rfl (m100 hF) k100 (ft_of k100 rfl) dX10_least_14 ?_
    refine s_ishl dX10_least_17 ?_
    refine s_iconst (v := 1) dX10_least_18 (by decide) ?_
    refine s_isub dX10_least_19 ?_
    refine s_istore_nB (fun x2 => [(2, .int x2), (0, rV E 100), (1, .int v1)]) dX10_least_20 rfl (by decide) (fun _ => rfl) (fun x2 => ?_)
    refine s_iload_n dX10_least_21 0 rfl rfl ?_
    refine s_istore_n [(3, .int x2), (2, .int x2), (0, rV E 100), (1, .int v1)] dX10_least_22 rfl (by decide) rfl ?_
    refine s_iconst (v := 0) dX10_least_23 (by decide) ?_
    refine s_istore [(4, .int (0 : Int32)), (3, .int x2), (2, .int x2), (0, rV E 100), (1, .int v1)] dX10_least_24 (by decide) rfl ?_
    refine s_sub (lv' := [(0, rV E 100), (1, .int v1), (2, .int x2), (3, .int x2), (4, .int (0 : Int32))]) [3, 4, 2, 1, 0] rfl ?_
    refine s_lo2 (σf := fun x3 x4 => σ) (lvf := fun x3 x4 => [(0, rV E 100), (1, .int v1), (2, .int x2), (3, .int x3), (4, .int x4)]) (fun rec5 ih6 x3 x4 => ?_)
    refine s_iload dX10_least_26 4 rfl ?_
    refine s_iload_n dX10_least_28 2 rfl rfl ?_
    refine s_icmp_ge 92 dX10_least_29 (by decide) ?_ ?_
    · skip
      refine s_iload_n dX10_least_32 1 rfl rfl ?_
      refine s_jn1 60 (fun x7 => σ) (fun x7 => [(0, rV E 100), (1, .int v1), (2, .int x2), (3, .int x3), (4, .int x4)]) (fun x7 => [.int x7]) ?_ ?_
      · intro x7
        refine s_istore [(5, .int x7), (0, rV E 100), (1, .int v1), (2, .int x2), (3, .int x3), (4, .int x4)] dX10_least_60 (by decide) rfl ?_
        refine s_iload dX10_least_62 0 rfl ?_
        refine s_if_eq 84 dX10_least_64 (by decide) ?_ ?_
        · skip
          refine s_iload_n dX10_least_84 4 rfl rfl ?_
          refine s_istore_n [(3, .int x3), (5, .int x7), (0, rV E 100), (1, .int v1), (2, .int x2), (4, .int x4)] dX10_least_85 rfl (by decide) rfl ?_
          refine s_iinc [(4, .int (x4 + 1)), (3, .int x3), (5, .int x7), (0, rV E 100), (1, .int v1), (2, .int x2)] dX10_least_86 5 rfl rfl (by decide) rfl ?_
          refine s_goto 26 dX10_least_89 (by decide) ?_
          refine s_sub [3, 4, 5, 1, 0] rfl ?_
          exact ih6 x3 (x4 + 1)
        · skip
          refine s_iload dX10_least_67 5 rfl ?_
          refine s_callSpI (As := [.int x4]) mf_X10_bits vf_X10_bits ml_X10_272 (c_X10_bits _ E hF σ x4) rfl rfl (Nat.le_of_ble_eq_true rfl) rfl dX10_least_69 (fun r9 => ?_)
          refine s_iload_n dX10_least_72 4 rfl rfl ?_
          refine s_callSpI (As := [.int x3]) mf_X10_bits vf_X10_bits ml_X10_272 (c_X10_bits _ E hF σ x3) rfl rfl (Nat.le_of_ble_eq_true rfl) rfl dX10_least_73 (fun r10 => ?_)
          refine s_icmp_ge 84 dX10_least_76 (by decide) ?_ ?_
          · skip
            refine s_iload dX10_least_79 5 rfl ?_
            refine s_goto 85 dX10_least_81 (by decide) ?_
            refine s_istore_n [(3, .int x4), (5, .int x7), (0, rV E 100), (1, .int v1), (2, .int x2), (4, .int x4)] dX10_least_85 rfl (by decide) rfl ?_
            refine s_iinc [(4, .int (x4 + 1)), (3, .int x4), (5, .int x7), (0, rV E 100), (1, .int v1), (2, .int x2)] dX10_least_86 5 rfl rfl (by decide) rfl ?_
            refine s_goto 26 dX10_least_89 (by decide) ?_
            refine s_sub [3, 4, 5, 1, 0] rfl ?_
            exact ih6 x4 (x4 + 1)
          · skip
            refine s_iload_n dX10_least_84 4 rfl rfl ?_
            refine s_istore_n [(3, .int x3), (5, .int x7), (0, rV E 100), (1, .int v1), (2, .int x2), (4, .int x4)] dX10_least_85 rfl (by decide) rfl ?_
            refine s_iinc [(4, .int (x4 + 1)), (3, .int x3), (5, .int x7), (0, rV E 100), (1, .int v1), (2, .int x2)] dX10_least_86 5 rfl rfl (by decide) rfl ?_
            refine s_goto 26 dX10_least_89 (by decide) ?_
            refine s_sub [3, 4, 5, 1, 0] rfl ?_
            exact ih6 x3 (x4 + 1)
      · intro jk8 hjk8
        refine s_if_ne 54 dX10_least_33 (by decide) ?_ ?_
        · skip
          refine s_aload_n dX10_least_36 0 rfl rfl ?_
          refine s_iload dX10_least_37 4 rfl ?_
          refine s_callVpI (As := [.int x4]) mf_X10_stepped vf_X10_stepped ml_X10_172 (c_X10_stepped _ E hF σ x4) (m100 hF) k100 (by decide) rfl rfl rfl rfl (Nat.le_of_ble_eq_true rfl) rfl dX10_least_39 (fun r11 => ?_)
          refine s_iload_n dX10_least_42 2 rfl rfl ?_
          refine s_icmp_ne 50 dX10_least_43 (by decide) ?_ ?_
          · skip
            refine s_iconst (v := 1) dX10_least_46 (by decide) ?_
            refine s_goto 60 dX10_least_47 (by decide) ?_
            exact hjk8 (1 : Int32)
          · skip
            refine s_iconst (v := 0) dX10_least_50 (by decide) ?_
            refine s_goto 60 dX10_least_51 (by decide) ?_
            exact hjk8 (0 : Int32)
        · skip
          refine s_aload_n dX10_least_54 0 rfl rfl ?_
          refine s_iload dX10_least_55 4 rfl ?_
          refine s_callVpI (As := [.int x4]) mf_X10_doesTouch vf_X10_doesTouch ml_X10_301 (c_X10_doesTouch _ E hF σ x4) (m100 hF) k100 (by decide) rfl rfl rfl rfl (Nat.le_of_ble_eq_true rfl) rfl dX10_least_57 (fun r12 => ?_)
          exact hjk8 r12
    · skip
      refine s_iload_n dX10_least_92 3 rfl rfl ?_
      exact s_ireturn rfl rfl rfl dX10_least_93
theorem dX10_goOneMore_0 : decode cX10_goOneMore 0 = .ok (.iconst 0, 1) := by decide +kernel
theorem dX10_goOneMore_1 : decode cX10_goOneMore 1 = .ok (.istore_n 2, 1) := by decide +kernel
theorem dX10_goOneMore_2 : decode cX10_goOneMore 2 = .ok (.iload_n 2, 1) := by decide +kernel
theorem dX10_goOneMore_3 : decode cX10_goOneMore 3 = .ok (.sipush 256, 3) := by decide +kernel
theorem dX10_goOneMore_6 : decode cX10_goOneMore 6 = .ok (.if_icmp .ge 16, 3) := by decide +kernel
theorem dX10_goOneMore_9 : decode cX10_goOneMore 9 = .ok (.aload_n 0, 1) := by decide +kernel
theorem dX10_goOneMore_10 : decode cX10_goOneMore 10 = .ok (.getfield 80, 3) := by decide +kernel
theorem dX10_goOneMore_13 : decode cX10_goOneMore 13 = .ok (.iload_n 2, 1) := by decide +kernel
theorem dX10_goOneMore_14 : decode cX10_goOneMore 14 = .ok (.iconst 0, 1) := by decide +kernel
theorem dX10_goOneMore_15 : decode cX10_goOneMore 15 = .ok (.bastore, 1) := by decide +kernel
theorem dX10_goOneMore_16 : decode cX10_goOneMore 16 = .ok (.iinc 2 1, 3) := by decide +kernel
theorem dX10_goOneMore_19 : decode cX10_goOneMore 19 = .ok (.goto (-17), 3) := by decide +kernel
theorem dX10_goOneMore_22 : decode cX10_goOneMore 22 = .ok (.iconst 0, 1) := by decide +kernel
theorem dX10_goOneMore_23 : decode cX10_goOneMore 23 = .ok (.istore_n 2, 1) := by decide +kernel
theorem dX10_goOneMore_24 : decode cX10_goOneMore 24 = .ok (.iload_n 2, 1) := by decide +kernel
theorem dX10_goOneMore_25 : decode cX10_goOneMore 25 = .ok (.sipush 256, 3) := by decide +kernel
theorem dX10_goOneMore_28 : decode cX10_goOneMore 28 = .ok (.if_icmp .ge 62, 3) := by decide +kernel
theorem dX10_goOneMore_31 : decode cX10_goOneMore 31 = .ok (.iconst 0, 1) := by decide +kernel
theorem dX10_goOneMore_32 : decode cX10_goOneMore 32 = .ok (.istore_n 3, 1) := by decide +kernel
theorem dX10_goOneMore_33 : decode cX10_goOneMore 33 = .ok (.iload_n 3, 1) := by decide +kernel
theorem dX10_goOneMore_34 : decode cX10_goOneMore 34 = .ok (.aload_n 0, 1) := by decide +kernel
theorem dX10_goOneMore_35 : decode cX10_goOneMore 35 = .ok (.getfield 7, 3) := by decide +kernel
theorem dX10_goOneMore_38 : decode cX10_goOneMore 38 = .ok (.if_icmp .ge 46, 3) := by decide +kernel
theorem dX10_goOneMore_41 : decode cX10_goOneMore 41 = .ok (.aload_n 0, 1) := by decide +kernel
theorem dX10_goOneMore_42 : decode cX10_goOneMore 42 = .ok (.getfield 77, 3) := by decide +kernel
theorem dX10_goOneMore_45 : decode cX10_goOneMore 45 = .ok (.iload_n 2, 1) := by decide +kernel
theorem dX10_goOneMore_46 : decode cX10_goOneMore 46 = .ok (.baload, 1) := by decide +kernel
theorem dX10_goOneMore_47 : decode cX10_goOneMore 47 = .ok (.ifCond .eq 37, 3) := by decide +kernel
theorem dX10_goOneMore_50 : decode cX10_goOneMore 50 = .ok (.iload_n 1, 1) := by decide +kernel
theorem dX10_goOneMore_51 : decode cX10_goOneMore 51 = .ok (.iload_n 3, 1) := by decide +kernel
theorem dX10_goOneMore_52 : decode cX10_goOneMore 52 = .ok (.ishr, 1) := by decide +kernel
theorem dX10_goOneMore_53 : decode cX10_goOneMore 53 = .ok (.iconst 1, 1) := by decide +kernel
theorem dX10_goOneMore_54 : decode cX10_goOneMore 54 = .ok (.iand, 1) := by decide +kernel
theorem dX10_goOneMore_55 : decode cX10_goOneMore 55 = .ok (.iconst 1, 1) := by decide +kernel
theorem dX10_goOneMore_56 : decode cX10_goOneMore 56 = .ok (.if_icmp .ne 22, 3) := by decide +kernel
theorem dX10_goOneMore_59 : decode cX10_goOneMore 59 = .ok (.iload_n 2, 1) := by decide +kernel
theorem dX10_goOneMore_60 : decode cX10_goOneMore 60 = .ok (.iload_n 3, 1) := by decide +kernel
theorem dX10_goOneMore_61 : decode cX10_goOneMore 61 = .ok (.ishr, 1) := by decide +kernel
theorem dX10_goOneMore_62 : decode cX10_goOneMore 62 = .ok (.iconst 1, 1) := by decide +kernel
theorem dX10_goOneMore_63 : decode cX10_goOneMore 63 = .ok (.iand, 1) := by decide +kernel
theorem dX10_goOneMore_64 : decode cX10_goOneMore 64 = .ok (.ifCond .ne 14, 3) := by decide +kernel
theorem dX10_goOneMore_67 : decode cX10_goOneMore 67 = .ok (.aload_n 0, 1) := by decide +kernel
theorem dX10_goOneMore_68 : decode cX10_goOneMore 68 = .ok (.getfield 80, 3) := by decide +kernel
theorem dX10_goOneMore_71 : decode cX10_goOneMore 71 = .ok (.iload_n 2, 1) := by decide +kernel
theorem dX10_goOneMore_72 : decode cX10_goOneMore 72 = .ok (.iconst 1, 1) := by decide +kernel
theorem dX10_goOneMore_73 : decode cX10_goOneMore 73 = .ok (.iload_n 3, 1) := by decide +kernel
theorem dX10_goOneMore_74 : decode cX10_goOneMore 74 = .ok (.ishl, 1) := by decide +kernel
theorem dX10_goOneMore_75 : decode cX10_goOneMore 75 = .ok (.ior, 1) := by decide +kernel
theorem dX10_goOneMore_76 : decode cX10_goOneMore 76 = .ok (.iconst 1, 1) := by decide +kernel
theorem dX10_goOneMore_77 : decode cX10_goOneMore 77 = .ok (.bastore, 1) := by decide +kernel
theorem dX10_goOneMore_78 : decode cX10_goOneMore 78 = .ok (.iinc 3 1, 3) := by decide +kernel
theorem dX10_goOneMore_81 : decode cX10_goOneMore 81 = .ok (.goto (-48), 3) := by decide +kernel
theorem dX10_goOneMore_84 : decode cX10_goOneMore 84 = .ok (.iinc 2 1, 3) := by decide +kernel
theorem dX10_goOneMore_87 : decode cX10_goOneMore 87 = .ok (.goto (-63), 3) := by decide +kernel
theorem dX10_goOneMore_90 : decode cX10_goOneMore 90 = .ok (.iconst 0, 1) := by decide +kernel
theorem dX10_goOneMore_91 : decode cX10_goOneMore 91 = .ok (.istore_n 2, 1) := by decide +kernel
theorem dX10_goOneMore_92 : decode cX10_goOneMore 92 = .ok (.iload_n 2, 1) := by decide +kernel
theorem dX10_goOneMore_93 : decode cX10_goOneMore 93 = .ok (.sipush 256, 3) := by decide +kernel
theorem dX10_goOneMore_96 : decode cX10_goOneMore 96 = .ok (.if_icmp .ge 21, 3) := by decide +kernel
theorem dX10_goOneMore_99 : decode cX10_goOneMore 99 = .ok (.aload_n 0, 1) := by decide +kernel
theorem dX10_goOneMore_100 : decode cX10_goOneMore 100 = .ok (.getfield 77, 3) := by decide +kernel
theorem dX10_goOneMore_103 : decode cX10_goOneMore 103 = .ok (.iload_n 2, 1) := by decide +kernel
theorem dX10_goOneMore_104 : decode cX10_goOneMore 104 = .ok (.aload_n 0, 1) := by decide +kernel
theorem dX10_goOneMore_105 : decode cX10_goOneMore 105 = .ok (.getfield 80, 3) := by decide +kernel
theorem dX10_goOneMore_108 : decode cX10_goOneMore 108 = .ok (.iload_n 2, 1) := by decide +kernel
theorem dX10_goOneMore_109 : decode cX10_goOneMore 109 = .ok (.baload, 1) := by decide +kernel
theorem dX10_goOneMore_110 : decode cX10_goOneMore 110 = .ok (.bastore, 1) := by decide +kernel
theorem dX10_goOneMore_111 : decode cX10_goOneMore 111 = .ok (.iinc 2 1, 3) := by decide +kernel
theorem dX10_goOneMore_114 : decode cX10_goOneMore 114 = .ok (.goto (-22), 3) := by decide +kernel
theorem dX10_goOneMore_117 : decode cX10_goOneMore 117 = .ok (.return_, 1) := by decide +kernel
def f_X10_goOneMore (σ : St) (v1 : Int32) : Option (Unit × St) :=
  lo2 FU (fun rec3 (s1 : St) (x2 : Int32) =>
    (if x2 < (256 : Int32) then
      ck x2 256 <|
        bd (setI s1 122 x2.toNatClampNeg (0 : Int32)) fun s5 =>
          rec3 s5 (x2 + 1)
       else
      lo2 FU (fun rec8 (s6 : St) (x7 : Int32) =>
        (if x7 < (256 : Int32) then
          lo2 FU (fun rec12 (s10 : St) (x11 : Int32) =>
            (if x11 < (s10.1 100 0) then
              ck x7 256 <|
                (if (s10.1 121 x7.toNatClampNeg) = 0 then
                  rec8 s10 (x7 + 1)
                   else
                  (if ((v1 >>> (x11 &&& 31)) &&& (1 : Int32)) = (1 : Int32) then
                    (if ((x7 >>> (x11 &&& 31)) &&& (1 : Int32)) = 0 then
                      ck (x7 ||| ((1 : Int32) <<< (x11 &&& 31))) 256 <|
                        bd (setI s10 122 (x7 ||| ((1 : Int32) <<< (x11 &&& 31))).toNatClampNeg (1 : Int32)) fun s14 =>
                          rec12 s14 (x11 + 1)
                       else
                      rec12 s10 (x11 + 1))
                     else
                    rec12 s10 (x11 + 1)))
               else
              rec8 s10 (x7 + 1))) s6 (0 : Int32)
           else
          lo2 FU (fun rec17 (s15 : St) (x16 : Int32) =>
            (if x16 < (256 : Int32) then
              ck x16 256 <|
                ckZ (s15.1 122 x16.toNatClampNeg) <|
                  ck x16 256 <|
                    bd (setI s15 121 x16.toNatClampNeg (s15.1 122 x16.toNatClampNeg)) fun s19 =>
                      rec17 s19 (x16 + 1)
               else
              some ((), s15))) s6 (0 : Int32))) s1 (0 : Int32))) σ (0 : Int32)
set_option maxHeartbeats 4000000 in
set_option maxRecDepth 100000 in
theorem c_X10_goOneMore (l : Launch) (E : Ev) (hF : Full E) (σ : St) (v1 : Int32) : Ctr l (en2 enV) (fun q => q.2) E md_X10_goOneMore [rV E 100, .int v1] σ (f_X10_goOneMore σ v1) := by
  refine ctr_of rfl (Nat.le_of_ble_eq_true rfl) (fun Γ => ?_)
  show Sim _ Γ _ E md_X10_goOneMore σ 0 [(0, rV E 100), (1, .int v1)] [] _
  unfold f_X10_goOneMore
  refine s_iconst (v := 0) dX10_goOneMore_0 (by decide) ?_
  refine s_istore_n [(2, .int (0 : Int32)), (0, rV E 100), (1, .int v1)] dX10_goOneMore_1 rfl (by decide) rfl ?_
  refine s_sub (lv' := [(0, rV E 100), (1, .int v1), (2, .int (0 : Int32))]) [1, 2, 0] rfl ?_
  refine s_lo2 (σf := fun s1 x2 => s1) (lvf := fun s1 x2 => [(0, rV E 100), (1, .int v1), (2, .int x2)]) (fun rec3 ih4 s1 x2 => ?_)
  refine s_iload_n dX10_goOneMore_2 2 rfl rfl ?_
  refine s_sipush (v := 256) dX10_goOneMore_3 (by decide) ?_
  refine s_icmp_ge 22 dX10_goOneMore_6 (by decide) ?_ ?_
  · skip
    refine s_aload_n dX10_goOneMore_9 0 rfl rfl ?_
    refine s_getr (b := 122) gf_X10_80 rfl (m100 hF) k100 (ft_of k100 rfl) (hF.2 _ _) rfl dX10_goOneMore_10 ?_
    refine s_iload_n dX10_goOneMore_13 2 rfl rfl ?_
    refine s_iconst (v := 0) dX10_goOneMore_14 (by decide) ?_
    refine s_zast (m122 hF) k122 l122 (by decide) dX10_goOneMore_15 (fun s5 => ?_)
    refine s_iinc [(2, .int (x2 + 1)), (0, rV E 100), (1, .int v1)] dX10_goOneMore_16 2 rfl rfl (by decide) rfl ?_
    refine s_goto 2 dX10_goOneMore_19 (by decide) ?_
    refine s_sub [1, 2, 0] rfl ?_
    exact ih4 s5 (x2 + 1)
  · skip
    refine s_iconst (v := 0) dX10_goOneMore_22 (by decide) ?_
    refine s_istore_n [(2, .int (0 : Int32)), (0, rV E 100), (1, .int v1)] dX10_goOneMore_23 rfl (by decide) rfl ?_
    refine s_sub (lv' := [(0, rV E 100), (1, .int v1), (2, .int (0 : Int32))]) [1, 2, 0] rfl ?_
    refine s_lo2 (σf := fun s6 x7 => s6) (lvf := fun s6 x7 => [(0, rV E 100), (1, .int v1), (2, .int x7)]) (fun rec8 ih9 s6 x7 => ?_)
    refine s_iload_n dX10_goOneMore_24 2 rfl rfl ?_
    refine s_sipush (v := 256) dX10_goOneMore_25 (by decide) ?_
    refine s_icmp_ge 90 dX10_goOneMore_28 (by decide) ?_ ?_
    · skip
      refine s_iconst (v := 0) dX10_goOneMore_31 (by decide) ?_
      refine s_istore_n [(3, .int (0 : Int32)), (0, rV E 100), (1, .int v1), (2, .int x7)] dX10_goOneMore_32 rfl (by decide) rfl ?_
      refine s_sub (lv' := [(0, rV E 100), (1, .int v1), (2, .int x7), (3, .int (0 : Int32))]) [1, 2, 3, 0] rfl ?_
      refine s_lo2 (σf := fun s10 x11 => s10) (lvf := fun s10 x11 => [(0, rV E 100), (1, .int v1), (2, .int x7), (3, .int x11)]) (fun rec12 ih13 s10 x11 => ?_)
      refine s_iload_n dX10_goOneMore_33 3 rfl rfl ?_
      refine s_aload_n dX10_goOneMore_34 0 rfl rfl ?_
      refine s_geti gf_X10_7 rfl (m100 hF) k100 (ft_of k100 rfl) dX10_goOneMore_35 ?_
      refine s_icmp_ge 84 dX10_goOneMore_38 (by decide) ?_ ?_
      · skip
        refine s_aload_n dX10_goOneMore_41 0 rfl rfl ?_
        refine s_getr (b := 121) gf_X10_77 rfl (m100 hF) k100 (ft_of k100 rfl) (hF.2 _ _) rfl dX10_goOneMore_42 ?_
        refine s_iload_n dX10_goOneMore_45 2 rfl rfl ?_
        refine s_zald (m121 hF) k121 l121 dX10_goOneMore_46 ?_
        refine s_if_eq 84 dX10_goOneMore_47 (by decide) ?_ ?_
        · skip
          refine s_iinc [(2, .int (x7 + 1)), (0, rV E 100), (1, .int v1), (3, .int x11)] dX10_goOneMore_84 2 rfl rfl (by decide) rfl ?_
          refine s_goto 24 dX10_goOneMore_87 (by decide) ?_
          refine s_sub [1, 2, 0] rfl ?_
          exact ih9 s10 (x7 + 1)
        · skip
          refine s_iload_n dX10_goOneMore_50 1 rfl rfl ?_
          refine s_iload_n dX10_goOneMore_51 3 rfl rfl ?_
          refine s_ishr dX10_goOneMore_52 ?_
          refine s_iconst (v := 1) dX10_goOneMore_53 (by decide) ?_
          refine s_iand dX10_goOneMore_54 ?_
          refine s_iconst (v := 1) dX10_goOneMore_55 (by decide) ?_
          refine s_icmp_ne 78 dX10_goOneMore_56 (by decide) ?_ ?_
          · skip
            refine s_iload_n dX10_goOneMore_59 2 rfl rfl ?_
            refine s_iload_n dX10_goOneMore_60 3 rfl rfl ?_
            refine s_ishr dX10_goOneMore_61 ?_
            refine s_iconst (v := 1) dX10_goOneMore_62 (by decide) ?_
            refine s_iand dX10_goOneMore_63 ?_
            refine s_if_ne 78 dX10_goOneMore_64 (by decide) ?_ ?_
            · skip
              refine s_aload_n dX10_goOneMore_67 0 rfl rfl ?_
              refine s_getr (b := 122) gf_X10_80 rfl (m100 hF) k100 (ft_of k100 rfl) (hF.2 _ _) rfl dX10_goOneMore_68 ?_
              refine s_iload_n dX10_goOneMore_71 2 rfl rfl ?_
              refine s_iconst (v := 1) dX10_goOneMore_72 (by decide) ?_
              refine s_iload_n dX10_goOneMore_73 3 rfl rfl ?_
              refine s_ishl dX10_goOneMore_74 ?_
              refine s_ior dX10_goOneMore_75 ?_
              refine s_iconst (v := 1) dX10_goOneMore_76 (by decide) ?_
              refine s_zast (m122 hF) k122 l122 (by decide) dX10_goOneMore_77 (fun s14 => ?_)
              refine s_iinc [(3, .int (x11 + 1)), (0, rV E 100), (1, .int v1), (2, .int x7)] dX10_goOneMore_78 3 rfl rfl (by decide) rfl ?_
              refine s_goto 33 dX10_goOneMore_81 (by decide) ?_
              refine s_sub [1, 2, 3, 0] rfl ?_
              exact ih13 s14 (x11 + 1)
            · skip
              refine s_iinc [(3, .int (x11 + 1)), (0, rV E 100), (1, .int v1), (2, .int x7)] dX10_goOneMore_78 3 rfl rfl (by decide) rfl ?_
              refine s_goto 33 dX10_goOneMore_81 (by decide) ?_
              refine s_sub [1, 2, 3, 0] rfl ?_
              exact ih13 s10 (x11 + 1)
          · skip
            refine s_iinc [(3, .int (x11 + 1)), (0, rV E 100), (1, .int v1), (2, .int x7)] dX10_goOneMore_78 3 rfl rfl (by decide) rfl ?_
            refine s_goto 33 dX10_goOneMore_81 (by decide) ?_
            refine s_sub [1, 2, 3, 0] rfl ?_
            exact ih13 s10 (x11 + 1)
      · skip
        refine s_iinc [(2, .int (x7 + 1)), (0, rV E 100), (1, .int v1), (3, .int x11)] dX10_goOneMore_84 2 rfl rfl (by decide) rfl ?_
        refine s_goto 24 dX10_goOneMore_87 (by decide) ?_
        refine s_sub [1, 2, 0] rfl ?_
        exact ih9 s10 (x7 + 1)
    · skip
      refine s_iconst (v := 0) dX10_goOneMore_90 (by decide) ?_
      refine s_istore_n [(2, .int (0 : Int32)), (0, rV E 100), (1, .int v1)] dX10_goOneMore_91 rfl (by decide) rfl ?_
      refine s_sub (lv' := [(0, rV E 100), (2, .int (0 : Int32))]) [1, 0] rfl ?_
      refine s_lo2 (σf := fun s15 x16 => s15) (lvf := fun s15 x16 => [(0, rV E 100), (2, .int x16)]) (fun rec17 ih18 s15 x16 => ?_)
      refine s_iload_n dX10_goOneMore_92 1 rfl rfl ?_
      refine s_sipush (v := 256) dX10_goOneMore_93 (by decide) ?_
      refine s_icmp_ge 117 dX10_goOneMore_96 (by decide) ?_ ?_
      · skip
        refine s_aload_n dX10_goOneMore_99 0 rfl rfl ?_
        refine s_getr (b := 121) gf_X10_77 rfl (m100 hF) k100 (ft_of k100 rfl) (hF.2 _ _) rfl dX10_goOneMore_100 ?_
        refine s_iload_n dX10_goOneMore_103 1 rfl rfl ?_
        refine s_aload_n dX10_goOneMore_104 0 rfl rfl ?_
        refine s_getr (b := 122) gf_X10_80 rfl (m100 hF) k100 (ft_of k100 rfl) (hF.2 _ _) rfl dX10_goOneMore_105 ?_
        refine s_iload_n dX10_goOneMore_108 1 rfl rfl ?_
        refine s_zald (m122 hF) k122 l122 dX10_goOneMore_109 ?_
        refine s_ckZ (fun hz20 => ?_)
        refine s_zast (m121 hF) k121 l121 hz20 dX10_goOneMore_110 (fun s19 => ?_)
        refine s_iinc [(2, .int (x16 + 1)), (0, rV E 100)] dX10_goOneMore_111 1 rfl rfl (by decide) rfl ?_
        refine s_goto 92 dX10_goOneMore_114 (by decide) ?_
        refine s_sub [1, 0] rfl ?_
        exact ih18 s19 (x16 + 1)
      · skip
        exact s_return rfl rfl rfl dX10_goOneMore_117
theorem dX10_findGoes_0 : decode cX10_findGoes 0 = .ok (.iconst 1, 1) := by decide +kernel
theorem dX10_findGoes_1 : decode cX10_findGoes 1 = .ok (.istore_n 1, 1) := by decide +kernel
theorem dX10_findGoes_2 : decode cX10_findGoes 2 = .ok (.iload_n 1, 1) := by decide +kernel
theorem dX10_findGoes_3 : decode cX10_findGoes 3 = .ok (.iconst 1, 1) := by decide +kernel
theorem dX10_findGoes_4 : decode cX10_findGoes 4 = .ok (.aload_n 0, 1) := by decide +kernel
theorem dX10_findGoes_5 : decode cX10_findGoes 5 = .ok (.getfield 7, 3) := by decide +kernel
theorem dX10_findGoes_8 : decode cX10_findGoes 8 = .ok (.ishl, 1) := by decide +kernel
theorem dX10_findGoes_9 : decode cX10_findGoes 9 = .ok (.if_icmp .ge 106, 3) := by decide +kernel
theorem dX10_findGoes_12 : decode cX10_findGoes 12 = .ok (.iconst 0, 1) := by decide +kernel
theorem dX10_findGoes_13 : decode cX10_findGoes 13 = .ok (.istore_n 2, 1) := by decide +kernel
theorem dX10_findGoes_14 : decode cX10_findGoes 14 = .ok (.iload_n 2, 1) := by decide +kernel
theorem dX10_findGoes_15 : decode cX10_findGoes 15 = .ok (.sipush 256, 3) := by decide +kernel
theorem dX10_findGoes_18 : decode cX10_findGoes 18 = .ok (.if_icmp .ge 24, 3) := by decide +kernel
theorem dX10_findGoes_21 : decode cX10_findGoes 21 = .ok (.aload_n 0, 1) := by decide +kernel
theorem dX10_findGoes_22 : decode cX10_findGoes 22 = .ok (.getfield 77, 3) := by decide +kernel
theorem dX10_findGoes_25 : decode cX10_findGoes 25 = .ok (.iload_n 2, 1) := by decide +kernel
theorem dX10_findGoes_26 : decode cX10_findGoes 26 = .ok (.iload_n 2, 1) := by decide +kernel
theorem dX10_findGoes_27 : decode cX10_findGoes 27 = .ok (.ifCond .ne 7, 3) := by decide +kernel
theorem dX10_findGoes_30 : decode cX10_findGoes 30 = .ok (.iconst 1, 1) := by decide +kernel
theorem dX10_findGoes_31 : decode cX10_findGoes 31 = .ok (.goto 4, 3) := by decide +kernel
theorem dX10_findGoes_34 : decode cX10_findGoes 34 = .ok (.iconst 0, 1) := by decide +kernel
theorem dX10_findGoes_35 : decode cX10_findGoes 35 = .ok (.bastore, 1) := by decide +kernel
theorem dX10_findGoes_36 : decode cX10_findGoes 36 = .ok (.iinc 2 1, 3) := by decide +kernel
theorem dX10_findGoes_39 : decode cX10_findGoes 39 = .ok (.goto (-25), 3) := by decide +kernel
theorem dX10_findGoes_42 : decode cX10_findGoes 42 = .ok (.iconst 0, 1) := by decide +kernel
theorem dX10_findGoes_43 : decode cX10_findGoes 43 = .ok (.istore_n 2, 1) := by decide +kernel
theorem dX10_findGoes_44 : decode cX10_findGoes 44 = .ok (.iload_n 2, 1) := by decide +kernel
theorem dX10_findGoes_45 : decode cX10_findGoes 45 = .ok (.aload_n 0, 1) := by decide +kernel
theorem dX10_findGoes_46 : decode cX10_findGoes 46 = .ok (.getfield 7, 3) := by decide +kernel
theorem dX10_findGoes_49 : decode cX10_findGoes 49 = .ok (.if_icmp .ge 27, 3) := by decide +kernel
theorem dX10_findGoes_52 : decode cX10_findGoes 52 = .ok (.iload_n 1, 1) := by decide +kernel
theorem dX10_findGoes_53 : decode cX10_findGoes 53 = .ok (.iload_n 2, 1) := by decide +kernel
theorem dX10_findGoes_54 : decode cX10_findGoes 54 = .ok (.ishr, 1) := by decide +kernel
theorem dX10_findGoes_55 : decode cX10_findGoes 55 = .ok (.iconst 1, 1) := by decide +kernel
theorem dX10_findGoes_56 : decode cX10_findGoes 56 = .ok (.iand, 1) := by decide +kernel
theorem dX10_findGoes_57 : decode cX10_findGoes 57 = .ok (.iconst 1, 1) := by decide +kernel
theorem dX10_findGoes_58 : decode cX10_findGoes 58 = .ok (.if_icmp .ne 12, 3) := by decide +kernel
theorem dX10_findGoes_61 : decode cX10_findGoes 61 = .ok (.aload_n 0, 1) := by decide +kernel
theorem dX10_findGoes_62 : decode cX10_findGoes 62 = .ok (.aload_n 0, 1) := by decide +kernel
theorem dX10_findGoes_63 : decode cX10_findGoes 63 = .ok (.iload_n 2, 1) := by decide +kernel
theorem dX10_findGoes_64 : decode cX10_findGoes 64 = .ok (.invokevirtual 168, 3) := by decide +kernel
theorem dX10_findGoes_67 : decode cX10_findGoes 67 = .ok (.invokevirtual 304, 3) := by decide +kernel
theorem dX10_findGoes_70 : decode cX10_findGoes 70 = .ok (.iinc 2 1, 3) := by decide +kernel
theorem dX10_findGoes_73 : decode cX10_findGoes 73 = .ok (.goto (-29), 3) := by decide +kernel
theorem dX10_findGoes_76 : decode cX10_findGoes 76 = .ok (.iconst 0, 1) := by decide +kernel
theorem dX10_findGoes_77 : decode cX10_findGoes 77 = .ok (.istore_n 2, 1) := by decide +kernel
theorem dX10_findGoes_78 : decode cX10_findGoes 78 = .ok (.iload_n 2, 1) := by decide +kernel
theorem dX10_findGoes_79 : decode cX10_findGoes 79 = .ok (.sipush 256, 3) := by decide +kernel
theorem dX10_findGoes_82 : decode cX10_findGoes 82 = .ok (.if_icmp .ge 27, 3) := by decide +kernel
theorem dX10_findGoes_85 : decode cX10_findGoes 85 = .ok (.aload_n 0, 1) := by decide +kernel
theorem dX10_findGoes_86 : decode cX10_findGoes 86 = .ok (.getfield 71, 3) := by decide +kernel
theorem dX10_findGoes_89 : decode cX10_findGoes 89 = .ok (.sipush 256, 3) := by decide +kernel
theorem dX10_findGoes_92 : decode cX10_findGoes 92 = .ok (.iload_n 1, 1) := by decide +kernel
theorem dX10_findGoes_93 : decode cX10_findGoes 93 = .ok (.imul, 1) := by decide +kernel
theorem dX10_findGoes_94 : decode cX10_findGoes 94 = .ok (.iload_n 2, 1) := by decide +kernel
theorem dX10_findGoes_95 : decode cX10_findGoes 95 = .ok (.iadd, 1) := by decide +kernel
theorem dX10_findGoes_96 : decode cX10_findGoes 96 = .ok (.aload_n 0, 1) := by decide +kernel
theorem dX10_findGoes_97 : decode cX10_findGoes 97 = .ok (.getfield 77, 3) := by decide +kernel
theorem dX10_findGoes_100 : decode cX10_findGoes 100 = .ok (.iload_n 2, 1) := by decide +kernel
theorem dX10_findGoes_101 : decode cX10_findGoes 101 = .ok (.baload, 1) := by decide +kernel
theorem dX10_findGoes_102 : decode cX10_findGoes 102 = .ok (.bastore, 1) := by decide +kernel
theorem dX10_findGoes_103 : decode cX10_findGoes 103 = .ok (.iinc 2 1, 3) := by decide +kernel
theorem dX10_findGoes_106 : decode cX10_findGoes 106 = .ok (.goto (-28), 3) := by decide +kernel
theorem dX10_findGoes_109 : decode cX10_findGoes 109 = .ok (.iinc 1 1, 3) := by decide +kernel
theorem dX10_findGoes_112 : decode cX10_findGoes 112 = .ok (.goto (-110), 3) := by decide +kernel
theorem dX10_findGoes_115 : decode cX10_findGoes 115 = .ok (.return_, 1) := by decide +kernel
def f_X10_findGoes (σ : St) : Option (Unit × St) :=
  lo2 FU (fun rec3 (s1 : St) (x2 : Int32) =>
    (if x2 < ((1 : Int32) <<< ((s1.1 100 0) &&& 31)) then
      lo2 FU (fun rec7 (s5 : St) (x6 : Int32) =>
        (if x6 < (256 : Int32) then
          (if x6 = 0 then
            ck x6 256 <|
              bd (setI s5 121 x6.toNatClampNeg (1 : Int32)) fun s9 =>
                rec7 s9 (x6 + 1)
             else
            ck x6 256 <|
              bd (setI s5 121 x6.toNatClampNeg (0 : Int32)) fun s10 =>
                rec7 s10 (x6 + 1))
           else
          lo2 FU (fun rec13 (s11 : St) (x12 : Int32) =>
            (if x12 < (s11.1 100 0) then
              (if ((x2 >>> (x12 &&& 31)) &&& (1 : Int32)) = (1 : Int32) then
                calP (f_X10_stepsOf s11 x12) fun r15 =>
                  cal (f_X10_goOneMore s11 r15) fun _ s16 =>
                    rec13 s16 (x12 + 1)
                 else
                rec13 s11 (x12 + 1))
               else
              lo2 FU (fun rec19 (s17 : St) (x18 : Int32) =>
                (if x18 < (256 : Int32) then
                  ck x18 256 <|
                    ckZ (s17.1 121 x18.toNatClampNeg) <|
                      ck (((256 : Int32) * x2) + x18) 65536 <|
                        bd (setI s17 119 (((256 : Int32) * x2) + x18).toNatClampNeg (s17.1 121 x18.toNatClampNeg)) fun s21 =>
                          rec19 s21 (x18 + 1)
                   else
                  rec3 s17 (x2 + 1))) s11 (0 : Int32))) s5 (0 : Int32))) s1 (0 : Int32)
       else
      some ((), s1))) σ (1 : Int32)
set_option maxHeartbeats 4000000 in
set_option maxRecDepth 100000 in
theorem c_X10_findGoes (l : Launch) (E : Ev) (hF : Full E) (σ : St) : Ctr l (en2 enV) (fun q => q.2) E md_X10_findGoes [rV E 100] σ (f_X10_findGoes σ) := by
  refine ctr_of rfl (Nat.le_of_ble_eq_true rfl) (fun Γ => ?_)
  show Sim _ Γ _ E md_X10_findGoes σ 0 [(0, rV E 100)] [] _
  unfold f_X10_findGoes
  refine s_iconst (v := 1) dX10_findGoes_0 (by decide) ?_
  refine s_istore_n [(1, .int (1 : Int32)), (0, rV E 100)] dX10_findGoes_1 rfl (by decide) rfl ?_
  refine s_sub (lv' := [(0, rV E 100), (1, .int (1 : Int32))]) [1, 0] rfl ?_
  refine s_lo2 (σf := fun s1 x2 => s1) (lvf := fun s1 x2 => [(0, rV E 100), (1, .int x2)]) (fun rec3 ih4 s1 x2 => ?_)
  refine s_iload_n dX10_findGoes_2 1 rfl rfl ?_
  refine s_iconst (v := 1) dX10_findGoes_3 (by decide) ?_
  refine s_aload_n dX10_findGoes_4 0 rfl rfl ?_
  refine s_geti gf_X10_7 rfl (m100 hF) k100 (ft_of k100 rfl) dX10_findGoes_5 ?_
  refine s_ishl dX10_findGoes_8 ?_
  refine s_icmp_ge 115 dX10_findGoes_9 (by decide) ?_ ?_
  · skip
    refine s_iconst (v := 0) dX10_findGoes_12 (by decide) ?_
    refine s_istore_n [(2, .int (0 : Int32)), (0, rV E 100), (1, .int x2)] dX10_findGoes_13 rfl (by decide) rfl ?_
    refine s_sub (lv' := [(0, rV E 100), (1, .int x2), (2, .int (0 : Int32))]) [1, 2, 0] rfl ?_
    refine s_lo2 (σf := fun s5 x6 => s5) (lvf := fun s5 x6 => [(0, rV E 100), (1, .int x2), (2, .int x6)]) (fun rec7 ih8 s5 x6 => ?_)
    refine s_iload_n dX10_findGoes_14 2 rfl rfl ?_
    refine s_sipush (v := 256) dX10_findGoes_15 (by decide) ?_
    refine s_icmp_ge 42 dX10_findGoes_18 (by decide) ?_ ?_
    · skip
      refine s_aload_n dX10_findGoes_21 0 rfl rfl ?_
      refine s_getr (b := 121) gf_X10_77 rfl (m100 hF) k100 (ft_of k100 rfl) (hF.2 _ _) rfl dX10_findGoes_22 ?_
      refine s_iload_n dX10_findGoes_25 2 rfl rfl ?_
      refine s_iload_n dX10_findGoes_26 2 rfl rfl ?_
      refine s_if_ne 34 dX10_findGoes_27 (by decide) ?_ ?_
      · skip
        refine s_iconst (v := 1) dX10_findGoes_30 (by decide) ?_
        refine s_goto 35 dX10_findGoes_31 (by decide) ?_
        refine s_zast (m121 hF) k121 l121 (by decide) dX10_findGoes_35 (fun s9 => ?_)
        refine s_iinc [(2, .int (x6 + 1)), (0, rV E 100), (1, .int x2)] dX10_findGoes_36 2 rfl rfl (by decide) rfl ?_
        refine s_goto 14 dX10_findGoes_39 (by decide) ?_
        refine s_sub [1, 2, 0] rfl ?_
        exact ih8 s9 (x6 + 1)
      · skip
        refine s_iconst (v := 0) dX10_findGoes_34 (by decide) ?_
        refine s_zast (m121 hF) k121 l121 (by decide) dX10_findGoes_35 (fun s10 => ?_)
        refine s_iinc [(2, .int (x6 + 1)), (0, rV E 100), (1, .int x2)] dX10_findGoes_36 2 rfl rfl (by decide) rfl ?_
        refine s_goto 14 dX10_findGoes_39 (by decide) ?_
        refine s_sub [1, 2, 0] rfl ?_
        exact ih8 s10 (x6 + 1)
    · skip
      refine s_iconst (v := 0) dX10_findGoes_42 (by decide) ?_
      refine s_istore_n [(2, .int (0 : Int32)), (0, rV E 100), (1, .int x2)] dX10_findGoes_43 rfl (by decide) rfl ?_
      refine s_sub (lv' := [(0, rV E 100), (1, .int x2), (2, .int (0 : Int32))]) [1, 2, 0] rfl ?_
      refine s_lo2 (σf := fun s11 x12 => s11) (lvf := fun s11 x12 => [(0, rV E 100), (1, .int x2), (2, .int x12)]) (fun rec13 ih14 s11 x12 => ?_)
      refine s_iload_n dX10_findGoes_44 2 rfl rfl ?_
      refine s_aload_n dX10_findGoes_45 0 rfl rfl ?_
      refine s_geti gf_X10_7 rfl (m100 hF) k100 (ft_of k100 rfl) dX10_findGoes_46 ?_
      refine s_icmp_ge 76 dX10_findGoes_49 (by decide) ?_ ?_
      · skip
        refine s_iload_n dX10_findGoes_52 1 rfl rfl ?_
        refine s_iload_n dX10_findGoes_53 2 rfl rfl ?_
        refine s_ishr dX10_findGoes_54 ?_
        refine s_iconst (v := 1) dX10_findGoes_55 (by decide) ?_
        refine s_iand dX10_findGoes_56 ?_
        refine s_iconst (v := 1) dX10_findGoes_57 (by decide) ?_
        refine s_icmp_ne 70 dX10_findGoes_58 (by decide) ?_ ?_
        · skip
          refine s_aload_n dX10_findGoes_61 0 rfl rfl ?_
          refine s_aload_n dX10_findGoes_62 0 rfl rfl ?_
          refine s_iload_n dX10_findGoes_63 2 rfl rfl ?_
          refine s_callVpI (As := [.int x12]) mf_X10_stepsOf vf_X10_stepsOf ml_X10_168 (c_X10_stepsOf _ E hF s11 x12) (m100 hF) k100 (by decide) rfl rfl rfl rfl (Nat.le_of_ble_eq_true rfl) rfl dX10_findGoes_64 (fun r15 => ?_)
          refine s_callVwV (As := [.int r15]) mf_X10_goOneMore vf_X10_goOneMore ml_X10_304 (c_X10_goOneMore _ E hF s11 r15) (m100 hF) k100 (by decide) rfl rfl rfl rfl (Nat.le_of_ble_eq_true rfl) rfl dX10_findGoes_67 (fun _ s16 => ?_)
          refine s_iinc [(2, .int (x12 + 1)), (0, rV E 100), (1, .int x2)] dX10_findGoes_70 2 rfl rfl (by decide) rfl ?_
          refine s_goto 44 dX10_findGoes_73 (by decide) ?_
          refine s_sub [1, 2, 0] rfl ?_
          exact ih14 s16 (x12 + 1)
        · skip
          refine s_iinc [(2, .int (x12 + 1)), (0, rV E 100), (1, .int x2)] dX10_findGoes_70 2 rfl rfl (by decide) rfl ?_
          refine s_goto 44 dX10_findGoes_73 (by decide) ?_
          refine s_sub [1, 2, 0] rfl ?_
          exact ih14 s11 (x12 + 1)
      · skip
        refine s_iconst (v := 0) dX10_findGoes_76 (by decide) ?_
        refine s_istore_n [(2, .int (0 : Int32)), (0, rV E 100), (1, .int x2)] dX10_findGoes_77 rfl (by decide) rfl ?_
        refine s_sub (lv' := [(0, rV E 100), (1, .int x2), (2, .int (0 : Int32))]) [1, 2, 0] rfl ?_
        refine s_lo2 (σf := fun s17 x18 => s17) (lvf := fun s17 x18 => [(0, rV E 100), (1, .int x2), (2, .int x18)]) (fun rec19 ih20 s17 x18 => ?_)
        refine s_iload_n dX10_findGoes_78 2 rfl rfl ?_
        refine s_sipush (v := 256) dX10_findGoes_79 (by decide) ?_
        refine s_icmp_ge 109 dX10_findGoes_82 (by decide) ?_ ?_
        · skip
          refine s_aload_n dX10_findGoes_85 0 rfl rfl ?_
          refine s_getr (b := 119) gf_X10_71 rfl (m100 hF) k100 (ft_of k100 rfl) (hF.2 _ _) rfl dX10_findGoes_86 ?_
          refine s_sipush (v := 256) dX10_findGoes_89 (by decide) ?_
          refine s_iload_n dX10_findGoes_92 1 rfl rfl ?_
          refine s_imul dX10_findGoes_93 ?_
          refine s_iload_n dX10_findGoes_94 2 rfl rfl ?_
          refine s_iadd dX10_findGoes_95 ?_
          refine s_aload_n dX10_findGoes_96 0 rfl rfl ?_
          refine s_getr (b := 121) gf_X10_77 rfl (m100 hF) k100 (ft_of k100 rfl) (hF.2 _ _) rfl dX10_findGoes_97 ?_
          refine s_iload_n dX10_findGoes_100 2 rfl rfl ?_
          refine s_zald (m121 hF) k121 l121 dX10_findGoes_101 ?_
          refine s_ckZ (fun hz22 => ?_)
          refine s_zast (m119 hF) k119 l119 hz22 dX10_findGoes_102 (fun s21 => ?_)
          refine s_iinc [(2, .int (x18 + 1)), (0, rV E 100), (1, .int x2)] dX10_findGoes_103 2 rfl rfl (by decide) rfl ?_
          refine s_goto 78 dX10_findGoes_106 (by decide) ?_
          refine s_sub [1, 2, 0] rfl ?_
          exact ih20 s21 (x18 + 1)
        · skip
          refine s_iinc [(1, .int (x2 + 1)), (0, rV E 100), (2, .int x18)] dX10_findGoes_109 1 rfl rfl (by decide) rfl ?_
          refine s_goto 2 dX10_findGoes_112 (by decide) ?_
          refine s_sub [1, 0] rfl ?_
          exact ih4 s17 (x2 + 1)
  · skip
    exact s_return rfl rfl rfl dX10_findGoes_115
theorem dX10_stepsFrom_0 : decode cX10_stepsFrom 0 = .ok (.iconst 0, 1) := by decide +kernel
theorem dX10_stepsFrom_1 : decode cX10_stepsFrom 1 = .ok (.istore_n 2, 1) := by decide +kernel
theorem dX10_stepsFrom_2 : decode cX10_stepsFrom 2 = .ok (.iconst 0, 1) := by decide +kernel
theorem dX10_stepsFrom_3 : decode cX10_stepsFrom 3 = .ok (.istore_n 3, 1) := by decide +kernel
theorem dX10_stepsFrom_4 : decode cX10_stepsFrom 4 = .ok (.iload_n 3, 1) := by decide +kernel
theorem dX10_stepsFrom_5 : decode cX10_stepsFrom 5 = .ok (.aload_n 0, 1) := by decide +kernel
theorem dX10_stepsFrom_6 : decode cX10_stepsFrom 6 = .ok (.getfield 7, 3) := by decide +kernel
theorem dX10_stepsFrom_9 : decode cX10_stepsFrom 9 = .ok (.if_icmp .ge 29, 3) := by decide +kernel
theorem dX10_stepsFrom_12 : decode cX10_stepsFrom 12 = .ok (.iload_n 2, 1) := by decide +kernel
theorem dX10_stepsFrom_13 : decode cX10_stepsFrom 13 = .ok (.iload_n 1, 1) := by decide +kernel
theorem dX10_stepsFrom_14 : decode cX10_stepsFrom 14 = .ok (.iconst 1, 1) := by decide +kernel
theorem dX10_stepsFrom_15 : decode cX10_stepsFrom 15 = .ok (.iload_n 3, 1) := by decide +kernel
theorem dX10_stepsFrom_16 : decode cX10_stepsFrom 16 = .ok (.ishl, 1) := by decide +kernel
theorem dX10_stepsFrom_17 : decode cX10_stepsFrom 17 = .ok (.if_icmp .ne 12, 3) := by decide +kernel
theorem dX10_stepsFrom_20 : decode cX10_stepsFrom 20 = .ok (.aload_n 0, 1) := by decide +kernel
theorem dX10_stepsFrom_21 : decode cX10_stepsFrom 21 = .ok (.getfield 13, 3) := by decide +kernel
theorem dX10_stepsFrom_24 : decode cX10_stepsFrom 24 = .ok (.iload_n 3, 1) := by decide +kernel
theorem dX10_stepsFrom_25 : decode cX10_stepsFrom 25 = .ok (.iaload, 1) := by decide +kernel
theorem dX10_stepsFrom_26 : decode cX10_stepsFrom 26 = .ok (.goto 4, 3) := by decide +kernel
theorem dX10_stepsFrom_29 : decode cX10_stepsFrom 29 = .ok (.iconst 0, 1) := by decide +kernel
theorem dX10_stepsFrom_30 : decode cX10_stepsFrom 30 = .ok (.ior, 1) := by decide +kernel
theorem dX10_stepsFrom_31 : decode cX10_stepsFrom 31 = .ok (.istore_n 2, 1) := by decide +kernel
theorem dX10_stepsFrom_32 : decode cX10_stepsFrom 32 = .ok (.iinc 3 1, 3) := by decide +kernel
theorem dX10_stepsFrom_35 : decode cX10_stepsFrom 35 = .ok (.goto (-31), 3) := by decide +kernel
theorem dX10_stepsFrom_38 : decode cX10_stepsFrom 38 = .ok (.iload_n 2, 1) := by decide +kernel
theorem dX10_stepsFrom_39 : decode cX10_stepsFrom 39 = .ok (.ireturn, 1) := by decide +kernel
def f_X10_stepsFrom (σ : St) (v1 : Int32) : Option Int32 :=
  lo2 FU (fun rec3 (x1 : Int32) (x2 : Int32) =>
    (if x2 < (σ.1 100 0) then
      (if v1 = ((1 : Int32) <<< (x2 &&& 31)) then
        ck x2 8 <|
          bd (x1 ||| (σ.1 101 x2.toNatClampNeg)) fun x5 =>
            rec3 x5 (x2 + 1)
         else
        bd (x1 ||| (0 : Int32)) fun x6 =>
          rec3 x6 (x2 + 1))
       else
      some x1)) (0 : Int32) (0 : Int32)
set_option maxHeartbeats 4000000 in
set_option maxRecDepth 100000 in
theorem c_X10_stepsFrom (l : Launch) (E : Ev) (hF : Full E) (σ : St) (v1 : Int32) : Ctr l enI (fun _ => σ) E md_X10_stepsFrom [rV E 100, .int v1] σ (f_X10_stepsFrom σ v1) := by
  refine ctr_of rfl (Nat.le_of_ble_eq_true rfl) (fun Γ => ?_)
  show Sim _ Γ _ E md_X10_stepsFrom σ 0 [(0, rV E 100), (1, .int v1)] [] _
  unfold f_X10_stepsFrom
  refine s_iconst (v := 0) dX10_stepsFrom_0 (by decide) ?_
  refine s_istore_n [(2, .int (0 : Int32)), (0, rV E 100), (1, .int v1)] dX10_stepsFrom_1 rfl (by decide) rfl ?_
  refine s_iconst (v := 0) dX10_stepsFrom_2 (by decide) ?_
  refine s_istore_n [(3, .int (0 : Int32)), (2, .int (0 : Int32)), (0, rV E 100), (1, .int v1)] dX10_stepsFrom_3 rfl (by decide) rfl ?_
  refine s_sub (lv' := [(0, rV E 100), (1, .int v1), (2, .int (0 : Int32)), (3, .int (0 : Int32))]) [2, 3, 1, 0] rfl ?_
  refine s_lo2 (σf := fun x1 x2 => σ) (lvf := fun x1 x2 => [(0, rV E 100), (1, .int v1), (2, .int x1), (3, .int x2)]) (fun rec3 ih4 x1 x2 => ?_)
  refine s_iload_n dX10_stepsFrom_4 3 rfl rfl ?_
  refine s_aload_n dX10_stepsFrom_5 0 rfl rfl ?_
  refine s_geti gf_X10_7 rfl (m100 hF) k100 (ft_of k100 rfl) dX10_stepsFrom_6 ?_
  refine s_icmp_ge 38 dX10_stepsFrom_9 (by decide) ?_ ?_
  · skip
    refine s_iload_n dX10_stepsFrom_12 2 rfl rfl ?_
    refine s_iload_n dX10_stepsFrom_13 1 rfl rfl ?_
    refine s_iconst (v := 1) dX10_stepsFrom_14 (by decide) ?_
    refine s_iload_n dX10_stepsFrom_15 3 rfl rfl ?_
    refine s_ishl dX10_stepsFrom_16 ?_
    refine s_icmp_ne 29 dX10_stepsFrom_17 (by decide) ?_ ?_
    · skip
      refine s_aload_n dX10_stepsFrom_20 0 rfl rfl ?_
      refine s_getr (b := 101) gf_X10_13 rfl (m100 hF) k100 (ft_of k100 rfl) (hF.2 _ _) rfl dX10_stepsFrom_21 ?_
      refine s_iload_n dX10_stepsFrom_24 3 rfl rfl ?_
      refine s_iald (m101 hF) k101 l101 dX10_stepsFrom_25 ?_
      refine s_goto 30 dX10_stepsFrom_26 (by decide) ?_
      refine s_ior dX10_stepsFrom_30 ?_
      refine s_istore_nB (fun x5 => [(2, .int x5), (0, rV E 100), (1, .int v1), (3, .int x2)]) dX10_stepsFrom_31 rfl (by decide) (fun _ => rfl) (fun x5 => ?_)
      refine s_iinc [(3, .int (x2 + 1)), (2, .int x5), (0, rV E 100), (1, .int v1)] dX10_stepsFrom_32 3 rfl rfl (by decide) rfl ?_
      refine s_goto 4 dX10_stepsFrom_35 (by decide) ?_
      refine s_sub [2, 3, 1, 0] rfl ?_
      exact ih4 x5 (x2 + 1)
    · skip
      refine s_iconst (v := 0) dX10_stepsFrom_29 (by decide) ?_
      refine s_ior dX10_stepsFrom_30 ?_
      refine s_istore_nB (fun x6 => [(2, .int x6), (0, rV E 100), (1, .int v1), (3, .int x2)]) dX10_stepsFrom_31 rfl (by decide) (fun _ => rfl) (fun x6 => ?_)
      refine s_iinc [(3, .int (x2 + 1)), (2, .int x6), (0, rV E 100), (1, .int v1)] dX10_stepsFrom_32 3 rfl rfl (by decide) rfl ?_
      refine s_goto 4 dX10_stepsFrom_35 (by decide) ?_
      refine s_sub [2, 3, 1, 0] rfl ?_
      exact ih4 x6 (x2 + 1)
  · skip
    refine s_iload_n dX10_stepsFrom_38 2 rfl rfl ?_
    exact s_ireturn rfl rfl rfl dX10_stepsFrom_39
theorem dX10_answerOf_0 : decode cX10_answerOf 0 = .ok (.iconst (-1), 1) := by decide +kernel
theorem dX10_answerOf_1 : decode cX10_answerOf 1 = .ok (.istore 4, 2) := by decide +kernel
theorem dX10_answerOf_3 : decode cX10_answerOf 3 = .ok (.iconst 1, 1) := by decide +kernel
theorem dX10_answerOf_4 : decode cX10_answerOf 4 = .ok (.aload_n 0, 1) := by decide +kernel
theorem dX10_answerOf_5 : decode cX10_answerOf 5 = .ok (.getfield 7, 3) := by decide +kernel
theorem dX10_answerOf_8 : decode cX10_answerOf 8 = .ok (.ishl, 1) := by decide +kernel
theorem dX10_answerOf_9 : decode cX10_answerOf 9 = .ok (.iconst 1, 1) := by decide +kernel
theorem dX10_answerOf_10 : decode cX10_answerOf 10 = .ok (.isub, 1) := by decide +kernel
theorem dX10_answerOf_11 : decode cX10_answerOf 11 = .ok (.istore 5, 2) := by decide +kernel
theorem dX10_answerOf_13 : decode cX10_answerOf 13 = .ok (.iload 5, 2) := by decide +kernel
theorem dX10_answerOf_15 : decode cX10_answerOf 15 = .ok (.ifCond .le 142, 3) := by decide +kernel
theorem dX10_answerOf_18 : decode cX10_answerOf 18 = .ok (.aload_n 0, 1) := by decide +kernel
theorem dX10_answerOf_19 : decode cX10_answerOf 19 = .ok (.getfield 74, 3) := by decide +kernel
theorem dX10_answerOf_22 : decode cX10_answerOf 22 = .ok (.sipush 256, 3) := by decide +kernel
theorem dX10_answerOf_25 : decode cX10_answerOf 25 = .ok (.iload_n 2, 1) := by decide +kernel
theorem dX10_answerOf_26 : decode cX10_answerOf 26 = .ok (.imul, 1) := by decide +kernel
theorem dX10_answerOf_27 : decode cX10_answerOf 27 = .ok (.iload 5, 2) := by decide +kernel
theorem dX10_answerOf_29 : decode cX10_answerOf 29 = .ok (.iadd, 1) := by decide +kernel
theorem dX10_answerOf_30 : decode cX10_answerOf 30 = .ok (.baload, 1) := by decide +kernel
theorem dX10_answerOf_31 : decode cX10_answerOf 31 = .ok (.ifCond .eq 17, 3) := by decide +kernel
theorem dX10_answerOf_34 : decode cX10_answerOf 34 = .ok (.iload 5, 2) := by decide +kernel
theorem dX10_answerOf_36 : decode cX10_answerOf 36 = .ok (.iload_n 3, 1) := by decide +kernel
theorem dX10_answerOf_37 : decode cX10_answerOf 37 = .ok (.ishr, 1) := by decide +kernel
theorem dX10_answerOf_38 : decode cX10_answerOf 38 = .ok (.iconst 1, 1) := by decide +kernel
theorem dX10_answerOf_39 : decode cX10_answerOf 39 = .ok (.iand, 1) := by decide +kernel
theorem dX10_answerOf_40 : decode cX10_answerOf 40 = .ok (.iconst 1, 1) := by decide +kernel
theorem dX10_answerOf_41 : decode cX10_answerOf 41 = .ok (.if_icmp .ne 7, 3) := by decide +kernel
theorem dX10_answerOf_44 : decode cX10_answerOf 44 = .ok (.iconst 1, 1) := by decide +kernel
theorem dX10_answerOf_45 : decode cX10_answerOf 45 = .ok (.goto 4, 3) := by decide +kernel
theorem dX10_answerOf_48 : decode cX10_answerOf 48 = .ok (.iconst 0, 1) := by decide +kernel
theorem dX10_answerOf_49 : decode cX10_answerOf 49 = .ok (.istore 6, 2) := by decide +kernel
theorem dX10_answerOf_51 : decode cX10_answerOf 51 = .ok (.iload 6, 2) := by decide +kernel
theorem dX10_answerOf_53 : decode cX10_answerOf 53 = .ok (.ifCond .eq 26, 3) := by decide +kernel
theorem dX10_answerOf_56 : decode cX10_answerOf 56 = .ok (.iload_n 2, 1) := by decide +kernel
theorem dX10_answerOf_57 : decode cX10_answerOf 57 = .ok (.iconst 1, 1) := by decide +kernel
theorem dX10_answerOf_58 : decode cX10_answerOf 58 = .ok (.if_icmp .ne 21, 3) := by decide +kernel
theorem dX10_answerOf_61 : decode cX10_answerOf 61 = .ok (.aload_n 0, 1) := by decide +kernel
theorem dX10_answerOf_62 : decode cX10_answerOf 62 = .ok (.getfield 71, 3) := by decide +kernel
theorem dX10_answerOf_65 : decode cX10_answerOf 65 = .ok (.sipush 256, 3) := by decide +kernel
theorem dX10_answerOf_68 : decode cX10_answerOf 68 = .ok (.iload_n 1, 1) := by decide +kernel
theorem dX10_answerOf_69 : decode cX10_answerOf 69 = .ok (.imul, 1) := by decide +kernel
theorem dX10_answerOf_70 : decode cX10_answerOf 70 = .ok (.iload 5, 2) := by decide +kernel
theorem dX10_answerOf_72 : decode cX10_answerOf 72 = .ok (.iadd, 1) := by decide +kernel
theorem dX10_answerOf_73 : decode cX10_answerOf 73 = .ok (.baload, 1) := by decide +kernel
theorem dX10_answerOf_74 : decode cX10_answerOf 74 = .ok (.istore 6, 2) := by decide +kernel
theorem dX10_answerOf_76 : decode cX10_answerOf 76 = .ok (.goto 61, 3) := by decide +kernel
theorem dX10_answerOf_79 : decode cX10_answerOf 79 = .ok (.iload 6, 2) := by decide +kernel
theorem dX10_answerOf_81 : decode cX10_answerOf 81 = .ok (.ifCond .eq 56, 3) := by decide +kernel
theorem dX10_answerOf_84 : decode cX10_answerOf 84 = .ok (.iload_n 1, 1) := by decide +kernel
theorem dX10_answerOf_85 : decode cX10_answerOf 85 = .ok (.iload 5, 2) := by decide +kernel
theorem dX10_answerOf_87 : decode cX10_answerOf 87 = .ok (.iconst (-1), 1) := by decide +kernel
theorem dX10_answerOf_88 : decode cX10_answerOf 88 = .ok (.ixor, 1) := by decide +kernel
theorem dX10_answerOf_89 : decode cX10_answerOf 89 = .ok (.iand, 1) := by decide +kernel
theorem dX10_answerOf_90 : decode cX10_answerOf 90 = .ok (.istore 7, 2) := by decide +kernel
theorem dX10_answerOf_92 : decode cX10_answerOf 92 = .ok (.iload 7, 2) := by decide +kernel
theorem dX10_answerOf_94 : decode cX10_answerOf 94 = .ok (.invokestatic 272, 3) := by decide +kernel
theorem dX10_answerOf_97 : decode cX10_answerOf 97 = .ok (.iconst 1, 1) := by decide +kernel
theorem dX10_answerOf_98 : decode cX10_answerOf 98 = .ok (.if_icmp .ne 36, 3) := by decide +kernel
theorem dX10_answerOf_101 : decode cX10_answerOf 101 = .ok (.iload_n 1, 1) := by decide +kernel
theorem dX10_answerOf_102 : decode cX10_answerOf 102 = .ok (.iload 7, 2) := by decide +kernel
theorem dX10_answerOf_104 : decode cX10_answerOf 104 = .ok (.iconst (-1), 1) := by decide +kernel
theorem dX10_answerOf_105 : decode cX10_answerOf 105 = .ok (.ixor, 1) := by decide +kernel
theorem dX10_answerOf_106 : decode cX10_answerOf 106 = .ok (.iand, 1) := by decide +kernel
theorem dX10_answerOf_107 : decode cX10_answerOf 107 = .ok (.iconst 1, 1) := by decide +kernel
theorem dX10_answerOf_108 : decode cX10_answerOf 108 = .ok (.iload_n 3, 1) := by decide +kernel
theorem dX10_answerOf_109 : decode cX10_answerOf 109 = .ok (.ishl, 1) := by decide +kernel
theorem dX10_answerOf_110 : decode cX10_answerOf 110 = .ok (.ior, 1) := by decide +kernel
theorem dX10_answerOf_111 : decode cX10_answerOf 111 = .ok (.iload 5, 2) := by decide +kernel
theorem dX10_answerOf_113 : decode cX10_answerOf 113 = .ok (.if_icmp .ne 21, 3) := by decide +kernel
theorem dX10_answerOf_116 : decode cX10_answerOf 116 = .ok (.aload_n 0, 1) := by decide +kernel
theorem dX10_answerOf_117 : decode cX10_answerOf 117 = .ok (.iload 7, 2) := by decide +kernel
theorem dX10_answerOf_119 : decode cX10_answerOf 119 = .ok (.invokevirtual 308, 3) := by decide +kernel
theorem dX10_answerOf_122 : decode cX10_answerOf 122 = .ok (.iload_n 3, 1) := by decide +kernel
theorem dX10_answerOf_123 : decode cX10_answerOf 123 = .ok (.ishr, 1) := by decide +kernel
theorem dX10_answerOf_124 : decode cX10_answerOf 124 = .ok (.iconst 1, 1) := by decide +kernel
theorem dX10_answerOf_125 : decode cX10_answerOf 125 = .ok (.iand, 1) := by decide +kernel
theorem dX10_answerOf_126 : decode cX10_answerOf 126 = .ok (.iconst 1, 1) := by decide +kernel
theorem dX10_answerOf_127 : decode cX10_answerOf 127 = .ok (.if_icmp .ne 7, 3) := by decide +kernel
theorem dX10_answerOf_130 : decode cX10_answerOf 130 = .ok (.iconst 1, 1) := by decide +kernel
theorem dX10_answerOf_131 : decode cX10_answerOf 131 = .ok (.goto 4, 3) := by decide +kernel
theorem dX10_answerOf_134 : decode cX10_answerOf 134 = .ok (.iconst 0, 1) := by decide +kernel
theorem dX10_answerOf_135 : decode cX10_answerOf 135 = .ok (.istore 6, 2) := by decide +kernel
theorem dX10_answerOf_137 : decode cX10_answerOf 137 = .ok (.iload 6, 2) := by decide +kernel
theorem dX10_answerOf_139 : decode cX10_answerOf 139 = .ok (.ifCond .eq 8, 3) := by decide +kernel
theorem dX10_answerOf_142 : decode cX10_answerOf 142 = .ok (.iload 5, 2) := by decide +kernel
theorem dX10_answerOf_144 : decode cX10_answerOf 144 = .ok (.goto 5, 3) := by decide +kernel
theorem dX10_answerOf_147 : decode cX10_answerOf 147 = .ok (.iload 4, 2) := by decide +kernel
theorem dX10_answerOf_149 : decode cX10_answerOf 149 = .ok (.istore 4, 2) := by decide +kernel
theorem dX10_answerOf_151 : decode cX10_answerOf 151 = .ok (.iinc 5 (-1), 3) := by decide +kernel
theorem dX10_answerOf_154 : decode cX10_answerOf 154 = .ok (.goto (-141), 3) := by decide +kernel
theorem dX10_answerOf_157 : decode cX10_answerOf 157 = .ok (.iload 4, 2) := by decide +kernel
theorem dX10_answerOf_159 : decode cX10_answerOf 159 = .ok (.ireturn, 1) := by decide +kernel
def f_X10_answerOf (σ : St) (v1 : Int32) (v2 : Int32) (v3 : Int32) : Option Int32 :=
  bd (((1 : Int32) <<< ((σ.1 100 0) &&& 31)) - (1 : Int32)) fun x1 =>
    lo2 FU (fun rec4 (x2 : Int32) (x3 : Int32) =>
      (if 0 < x3 then
        ck (((256 : Int32) * v2) + x3) 512 <|
          bd (if (σ.1 120 (((256 : Int32) * v2) + x3).toNatClampNeg) = 0 then (0 : Int32) else (if ((x3 >>> (v3 &&& 31)) &&& (1 : Int32)) = (1 : Int32) then (1 : Int32) else (0 : Int32))) fun x6 =>
            jn1 (fun jk9 =>
              jn0 (fun jk10 =>
                (if x6 = 0 then
                  jk10
                   else
                  (if v2 = (1 : Int32) then
                    ck (((256 : Int32) * v1) + x3) 65536 <|
                      bd (σ.1 119 (((256 : Int32) * v1) + x3).toNatClampNeg) fun x14 =>
                        jk9 x14
                     else
                    jk10)))
                (
                (if x6 = 0 then
                    jk9 x6
                     else
                    bd (v1 &&& (x3 ^^^ (-1 : Int32))) fun x11 =>
                      calP (f_X10_bits σ x11) fun r12 =>
                        (if r12 = (1 : Int32) then
                          (if ((v1 &&& (x11 ^^^ (-1 : Int32))) ||| ((1 : Int32) <<< (v3 &&& 31))) = x3 then
                            calP (f_X10_stepsFrom σ x11) fun r13 =>
                              (if ((r13 >>> (v3 &&& 31)) &&& (1 : Int32)) = (1 : Int32) then
                                jk9 (1 : Int32)
                                 else
                                jk9 (0 : Int32))
                             else
                            jk9 (0 : Int32))
                           else
                          jk9 (0 : Int32)))))
              (fun (x8 : Int32) => 
              (if x8 = 0 then
                  rec4 x2 (x3 + (-1))
                   else
                  rec4 x3 (x3 + (-1))))
         else
        some x2)) (-1 : Int32) x1
set_option maxHeartbeats 4000000 in
set_option maxRecDepth 100000 in
theorem c_X10_answerOf (l : Launch) (E : Ev) (hF : Full E) (σ : St) (v1 : Int32) (v2 : Int32) (v3 : Int32) : Ctr l enI (fun _ => σ) E md_X10_answerOf [rV E 100, .int v1, .int v2, .int v3] σ (f_X10_answerOf σ v1 v2 v3) := by
  refine ctr_of rfl (Nat.le_of_ble_eq_true rfl) (fun Γ => ?_)
  show Sim _ Γ _ E md_X10_answerOf σ 0 [(0, rV E 100), (1, .int v1), (2, .int v2), (3, .int v3)] [] _
  unfold f_X10_answerOf
  refine s_iconst (v := -1) dX10_answerOf_0 (by decide) ?_
  refine s_istore [(4, .int (-1 : Int32)), (0, rV E 100), (1, .int v1), (2, .int v2), (3, .int v3)] dX10_answerOf_1 (by decide) rfl ?_
  refine s_iconst (v := 1) dX10_answerOf_3 (by decide) ?_
  refine s_aload_n dX10_answerOf_4 1 rfl rfl ?_
  refine s_geti gf_X10_7 rfl (m100 hF) k100 (ft_of k100 rfl) dX10_answerOf_5 ?_
  refine s_ishl dX10_answerOf_8 ?_
  refine s_iconst (v := 1) dX10_answerOf_9 (by decide) ?_
  refine s_isub dX10_answerOf_10 ?_
  refine s_istoreB (fun x1 => [(5, .int x1), (4, .int (-1 : Int32)), (0, rV E 100), (1, .int v1), (2, .int v2), (3, .int v3)]) dX10_answerOf_11 (by decide) (fun _ => rfl) (fun x1 => ?_)
  refine s_sub (lv' := [(0, rV E 100), (1, .int v1), (2, .int v2), (3, .int v3), (4, .int (-1 : Int32)), (5, .int x1)]) [2, 3, 4, 5, 1, 0] rfl ?_
  refine s_lo2 (σf := fun x2 x3 => σ) (lvf := fun x2 x3 => [(0, rV E 100), (1, .int v1), (2, .int v2), (3, .int v3), (4, .int x2), (5, .int x3)]) (fun rec4 ih5 x2 x3 => ?_)
  refine s_iload dX10_answerOf_13 5 rfl ?_
  refine s_if_le 157 dX10_answerOf_15 (by decide) ?_ ?_
  · skip
    refine s_aload_n dX10_answerOf_18 0 rfl rfl ?_
    refine s_getr (b := 120) gf_X10_74 rfl (m100 hF) k100 (ft_of k100 rfl) (hF.2 _ _) rfl dX10_answerOf_19 ?_
    refine s_sipush (v := 256) dX10_answerOf_22 (by decide) ?_
    refine s_iload_n dX10_answerOf_25 2 rfl rfl ?_
    refine s_imul dX10_answerOf_26 ?_
    refine s_iload dX10_answerOf_27 5 rfl ?_
    refine s_iadd dX10_answerOf_29 ?_
    refine s_zald (m120 hF) k120 l120 dX10_answerOf_30 ?_
    refine s_bd 49 (fun x6 => [(0, rV E 100), (1, .int v1), (2, .int v2), (3, .int v3), (4, .int x2), (5, .int x3)]) (fun x6 => [.int x6]) (fun jk7 => (if (σ.1 120 (((256 : Int32) * v2) + x3).toNatClampNeg) = 0 then jk7 (0 : Int32) else (if ((x3 >>> (v3 &&& 31)) &&& (1 : Int32)) = (1 : Int32) then jk7 (1 : Int32) else jk7 (0 : Int32)))) (fun jk7 => (j_ite rfl (j_ite rfl rfl))) ?_ ?_
    · intro x6
      refine s_istore [(6, .int x6), (0, rV E 100), (1, .int v1), (2, .int v2), (3, .int v3), (4, .int x2), (5, .int x3)] dX10_answerOf_49 (by decide) rfl ?_
      refine s_iload dX10_answerOf_51 0 rfl ?_
      refine s_jn1 137 (fun x8 => σ) (fun x8 => [(0, rV E 100), (1, .int v1), (2, .int v2), (3, .int v3), (4, .int x2), (5, .int x3), (6, .int x8)]) (fun x8 => []) ?_ ?_
      · intro x8
        refine s_iload dX10_answerOf_137 6 rfl ?_
        refine s_if_eq 147 dX10_answerOf_139 (by decide) ?_ ?_
        · skip
          refine s_iload dX10_answerOf_147 4 rfl ?_
          refine s_istore [(4, .int x2), (0, rV E 100), (1, .int v1), (2, .int v2), (3, .int v3), (5, .int x3), (6, .int x8)] dX10_answerOf_149 (by decide) rfl ?_
          refine s_iinc [(5, .int (x3 + (-1))), (4, .int x2), (0, rV E 100), (1, .int v1), (2, .int v2), (3, .int v3), (6, .int x8)] dX10_answerOf_151 5 rfl rfl (by decide) rfl ?_
          refine s_goto 13 dX10_answerOf_154 (by decide) ?_
          refine s_sub [2, 3, 4, 5, 1, 0] rfl ?_
          exact ih5 x2 (x3 + (-1))
        · skip
          refine s_iload dX10_answerOf_142 5 rfl ?_
          refine s_goto 149 dX10_answerOf_144 (by decide) ?_
          refine s_istore [(4, .int x3), (0, rV E 100), (1, .int v1), (2, .int v2), (3, .int v3), (5, .int x3), (6, .int x8)] dX10_answerOf_149 (by decide) rfl ?_
          refine s_iinc [(5, .int (x3 + (-1))), (4, .int x3), (0, rV E 100), (1, .int v1), (2, .int v2), (3, .int v3), (6, .int x8)] dX10_answerOf_151 5 rfl rfl (by decide) rfl ?_
          refine s_goto 13 dX10_answerOf_154 (by decide) ?_
          refine s_sub [2, 3, 4, 5, 1, 0] rfl ?_
          exact ih5 x3 (x3 + (-1))
      · intro jk9 hjk9
        refine s_jn0 σ 79 [(0, rV E 100), (1, .int v1), (2, .int v2), (3, .int v3), (4, .int x2), (5, .int x3), (6, .int x6)] [] ?_ ?_
        · skip
          refine s_iload dX10_answerOf_79 6 rfl ?_
          refine s_if_eq 137 dX10_answerOf_81 (by decide) ?_ ?_
          · skip
            exact hjk9 x6
          · skip
            refine s_iload_n dX10_answerOf_84 1 rfl rfl ?_
            refine s_iload dX10_answerOf_85 5 rfl ?_
            refine s_iconst (v := -1) dX10_answerOf_87 (by decide) ?_
            refine s_ixor dX10_answerOf_88 ?_
            refine s_iand dX10_answerOf_89 ?_
            refine s_istoreB (fun x11 => [(7, .int x11), (0, rV E 100), (1, .int v1), (2, .int v2), (3, .int v3), (4, .int x2), (5, .int x3), (6, .int x6)]) dX10_answerOf_90 (by decide) (fun _ => rfl) (fun x11 => ?_)
            refine s_iload dX10_answerOf_92 0 rfl ?_
            refine s_callSpI (As := [.int x11]) mf_X10_bits vf_X10_bits ml_X10_272 (c_X10_bits _ E hF σ x11) rfl rfl (Nat.le_of_ble_eq_true rfl) rfl dX10_answerOf_94 (fun r12 => ?_)
            refine s_iconst (v := 1) dX10_answerOf_97 (by decide) ?_
            refine s_icmp_ne 134 dX10_answerOf_98 (by decide) ?_ ?_
            · skip
              refine s_iload_n dX10_answerOf_101 2 rfl rfl ?_
              refine s_iload dX10_answerOf_102 0 rfl ?_
              refine s_iconst (v := -1) dX10_answerOf_104 (by decide) ?_
              refine s_ixor dX10_answerOf_105 ?_
              refine s_iand dX10_answerOf_106 ?_
              refine s_iconst (v := 1) dX10_answerOf_107 (by decide) ?_
              refine s_iload_n dX10_answerOf_108 4 rfl rfl ?_
              refine s_ishl dX10_answerOf_109 ?_
              refine s_ior dX10_answerOf_110 ?_
              refine s_iload dX10_answerOf_111 6 rfl ?_
              refine s_icmp_ne 134 dX10_answerOf_113 (by decide) ?_ ?_
              · skip
                refine s_aload_n dX10_answerOf_116 1 rfl rfl ?_
                refine s_iload dX10_answerOf_117 0 rfl ?_
                refine s_callVpI (As := [.int x11]) mf_X10_stepsFrom vf_X10_stepsFrom ml_X10_308 (c_X10_stepsFrom _ E hF σ x11) (m100 hF) k100 (by decide) rfl rfl rfl rfl (Nat.le_of_ble_eq_true rfl) rfl dX10_answerOf_119 (fun r13 => ?_)
                refine s_iload_n dX10_answerOf_122 4 rfl rfl ?_
                refine s_ishr dX10_answerOf_123 ?_
                refine s_iconst (v := 1) dX10_answerOf_124 (by decide) ?_
                refine s_iand dX10_answerOf_125 ?_
                refine s_iconst (v := 1) dX10_answerOf_126 (by decide) ?_
                refine s_icmp_ne 134 dX10_answerOf_127 (by decide) ?_ ?_
                · skip
                  refine s_iconst (v := 1) dX10_answerOf_130 (by decide) ?_
                  refine s_goto 135 dX10_answerOf_131 (by decide) ?_
                  refine s_istore [(6, .int (1 : Int32)), (7, .int x11), (0, rV E 100), (1, .int v1), (2, .int v2), (3, .int v3), (4, .int x2), (5, .int x3)] dX10_answerOf_135 (by decide) rfl ?_
                  refine s_sub [2, 3, 4, 5, 6, 7, 0] rfl ?_
                  exact hjk9 (1 : Int32)
                · skip
                  refine s_iconst (v := 0) dX10_answerOf_134 (by decide) ?_
                  refine s_istore [(6, .int (0 : Int32)), (7, .int x11), (0, rV E 100), (1, .int v1), (2, .int v2), (3, .int v3), (4, .int x2), (5, .int x3)] dX10_answerOf_135 (by decide) rfl ?_
                  refine s_sub [2, 3, 4, 5, 6, 7, 0] rfl ?_
                  exact hjk9 (0 : Int32)
              · skip
                refine s_iconst (v := 0) dX10_answerOf_134 (by decide) ?_
                refine s_istore [(6, .int (0 : Int32)), (7, .int x11), (0, rV E 100), (1, .int v1), (2, .int v2), (3, .int v3), (4, .int x2), (5, .int x3)] dX10_answerOf_135 (by decide) rfl ?_
                refine s_sub [2, 3, 4, 5, 6, 7, 0] rfl ?_
                exact hjk9 (0 : Int32)
            · skip
              refine s_iconst (v := 0) dX10_answerOf_134 (by decide) ?_
              refine s_istore [(6, .int (0 : Int32)), (7, .int x11), (0, rV E 100), (1, .int v1), (2, .int v2), (3, .int v3), (4, .int x2), (5, .int x3)] dX10_answerOf_135 (by decide) rfl ?_
              refine s_sub [2, 3, 4, 5, 6, 7, 0] rfl ?_
              exact hjk9 (0 : Int32)
        · intro jk10 hjk10
          refine s_if_eq 79 dX10_answerOf_53 (by decide) ?_ ?_
          · skip
            refine s_sub [1, 2, 3, 4, 5, 6, 0] rfl ?_
            exact hjk10
          · skip
            refine s_iload_n dX10_answerOf_56 3 rfl rfl ?_
            refine s_iconst (v := 1) dX10_answerOf_57 (by decide) ?_
            refine s_icmp_ne 79 dX10_answerOf_58 (by decide) ?_ ?_
            · skip
              refine s_aload_n dX10_answerOf_61 1 rfl rfl ?_
              refine s_getr (b := 119) gf_X10_71 rfl (m100 hF) k100 (ft_of k100 rfl) (hF.2 _ _) rfl dX10_answerOf_62 ?_
              refine s_sipush (v := 256) dX10_answerOf_65 (by decide) ?_
              refine s_iload_n dX10_answerOf_68 2 rfl rfl ?_
              refine s_imul dX10_answerOf_69 ?_
              refine s_iload dX10_answerOf_70 6 rfl ?_
              refine s_iadd dX10_answerOf_72 ?_
              refine s_zald (m119 hF) k119 l119 dX10_answerOf_73 ?_
              refine s_istoreB (fun x14 => [(6, .int x14), (0, rV E 100), (1, .int v1), (2, .int v2), (3, .int v3), (4, .int x2), (5, .int x3)]) dX10_answerOf_74 (by decide) (fun _ => rfl) (fun x14 => ?_)
              refine s_goto 137 dX10_answerOf_76 (by decide) ?_
              refine s_sub [1, 2, 3, 4, 5, 6, 0] rfl ?_
              exact hjk9 x14
            · skip
              refine s_sub [1, 2, 3, 4, 5, 6, 0] rfl ?_
              exact hjk10
    · intro jk7 hjk7
      refine s_if_eq 48 dX10_answerOf_31 (by decide) ?_ ?_
      · skip
        refine s_iconst (v := 0) dX10_answerOf_48 (by decide) ?_
        exact hjk7 (0 : Int32)
      · skip
        refine s_iload dX10_answerOf_34 5 rfl ?_
        refine s_iload_n dX10_answerOf_36 3 rfl rfl ?_
        refine s_ishr dX10_answerOf_37 ?_
        refine s_iconst (v := 1) dX10_answerOf_38 (by decide) ?_
        refine s_iand dX10_answerOf_39 ?_
        refine s_iconst (v := 1) dX10_answerOf_40 (by decide) ?_
        refine s_icmp_ne 48 dX10_answerOf_41 (by decide) ?_ ?_
        · skip
          refine s_iconst (v := 1) dX10_answerOf_44 (by decide) ?_
          refine s_goto 49 dX10_answerOf_45 (by decide) ?_
          exact hjk7 (1 : Int32)
        · skip
          refine s_iconst (v := 0) dX10_answerOf_48 (by decide) ?_
          exact hjk7 (0 : Int32)
  · skip
    refine s_iload dX10_answerOf_157 4 rfl ?_
    exact s_ireturn rfl rfl rfl dX10_answerOf_159
theorem dX10_canAnswer_0 : decode cX10_canAnswer 0 = .ok (.iconst 1, 1) := by decide +kernel
theorem dX10_canAnswer_1 : decode cX10_canAnswer 1 = .ok (.istore_n 3, 1) := by decide +kernel
theorem dX10_canAnswer_2 : decode cX10_canAnswer 2 = .ok (.iconst 0, 1) := by decide +kernel
theorem dX10_canAnswer_3 : decode cX10_canAnswer 3 = .ok (.istore 4, 2) := by decide +kernel
theorem dX10_canAnswer_5 : decode cX10_canAnswer 5 = .ok (.iload 4, 2) := by decide +kernel
theorem dX10_canAnswer_7 : decode cX10_canAnswer 7 = .ok (.aload_n 0, 1) := by decide +kernel
theorem dX10_canAnswer_8 : decode cX10_canAnswer 8 = .ok (.getfield 7, 3) := by decide +kernel
theorem dX10_canAnswer_11 : decode cX10_canAnswer 11 = .ok (.if_icmp .ge 41, 3) := by decide +kernel
theorem dX10_canAnswer_14 : decode cX10_canAnswer 14 = .ok (.iload_n 3, 1) := by decide +kernel
theorem dX10_canAnswer_15 : decode cX10_canAnswer 15 = .ok (.ifCond .eq 37, 3) := by decide +kernel
theorem dX10_canAnswer_18 : decode cX10_canAnswer 18 = .ok (.iload_n 1, 1) := by decide +kernel
theorem dX10_canAnswer_19 : decode cX10_canAnswer 19 = .ok (.iload 4, 2) := by decide +kernel
theorem dX10_canAnswer_21 : decode cX10_canAnswer 21 = .ok (.ishr, 1) := by decide +kernel
theorem dX10_canAnswer_22 : decode cX10_canAnswer 22 = .ok (.iconst 1, 1) := by decide +kernel
theorem dX10_canAnswer_23 : decode cX10_canAnswer 23 = .ok (.iand, 1) := by decide +kernel
theorem dX10_canAnswer_24 : decode cX10_canAnswer 24 = .ok (.iconst 1, 1) := by decide +kernel
theorem dX10_canAnswer_25 : decode cX10_canAnswer 25 = .ok (.if_icmp .eq 15, 3) := by decide +kernel
theorem dX10_canAnswer_28 : decode cX10_canAnswer 28 = .ok (.aload_n 0, 1) := by decide +kernel
theorem dX10_canAnswer_29 : decode cX10_canAnswer 29 = .ok (.iload_n 1, 1) := by decide +kernel
theorem dX10_canAnswer_30 : decode cX10_canAnswer 30 = .ok (.iload_n 2, 1) := by decide +kernel
theorem dX10_canAnswer_31 : decode cX10_canAnswer 31 = .ok (.iload 4, 2) := by decide +kernel
theorem dX10_canAnswer_33 : decode cX10_canAnswer 33 = .ok (.invokevirtual 311, 3) := by decide +kernel
theorem dX10_canAnswer_36 : decode cX10_canAnswer 36 = .ok (.iconst (-1), 1) := by decide +kernel
theorem dX10_canAnswer_37 : decode cX10_canAnswer 37 = .ok (.if_icmp .eq 7, 3) := by decide +kernel
theorem dX10_canAnswer_40 : decode cX10_canAnswer 40 = .ok (.iconst 1, 1) := by decide +kernel
theorem dX10_canAnswer_41 : decode cX10_canAnswer 41 = .ok (.goto 4, 3) := by decide +kernel
theorem dX10_canAnswer_44 : decode cX10_canAnswer 44 = .ok (.iconst 0, 1) := by decide +kernel
theorem dX10_canAnswer_45 : decode cX10_canAnswer 45 = .ok (.istore_n 3, 1) := by decide +kernel
theorem dX10_canAnswer_46 : decode cX10_canAnswer 46 = .ok (.iinc 4 1, 3) := by decide +kernel
theorem dX10_canAnswer_49 : decode cX10_canAnswer 49 = .ok (.goto (-44), 3) := by decide +kernel
theorem dX10_canAnswer_52 : decode cX10_canAnswer 52 = .ok (.iload_n 3, 1) := by decide +kernel
theorem dX10_canAnswer_53 : decode cX10_canAnswer 53 = .ok (.ireturn, 1) := by decide +kernel
def f_X10_canAnswer (σ : St) (v1 : Int32) (v2 : Int32) : Option Int32 :=
  lo2 FU (fun rec3 (x1 : Int32) (x2 : Int32) =>
    (if x2 < (σ.1 100 0) then
      (if x1 = 0 then
        ckZ x1 <|
          some x1
         else
        (if ((v1 >>> (x2 &&& 31)) &&& (1 : Int32)) = (1 : Int32) then
          rec3 (1 : Int32) (x2 + 1)
           else
          calP (f_X10_answerOf σ v1 v2 x2) fun r6 =>
            (if r6 = (-1 : Int32) then
              rec3 (0 : Int32) (x2 + 1)
               else
              rec3 (1 : Int32) (x2 + 1))))
       else
      ckZ x1 <|
        some x1)) (1 : Int32) (0 : Int32)
set_option maxHeartbeats 4000000 in
set_option maxRecDepth 100000 in
theorem c_X10_canAnswer (l : Launch) (E : Ev) (hF : Full E) (σ : St) (v1 : Int32) (v2 : Int32) : Ctr l enI (fun _ => σ) E md_X10_canAnswer [rV E 100, .int v1, .int v2] σ (f_X10_canAnswer σ v1 v2) := by
  refine ctr_of rfl (Nat.le_of_ble_eq_true rfl) (fun Γ => ?_)
  show Sim _ Γ _ E md_X10_canAnswer σ 0 [(0, rV E 100), (1, .int v1), (2, .int v2)] [] _
  unfold f_X10_canAnswer
  refine s_iconst (v := 1) dX10_canAnswer_0 (by decide) ?_
  refine s_istore_n [(3, .int (1 : Int32)), (0, rV E 100), (1, .int v1), (2, .int v2)] dX10_canAnswer_1 rfl (by decide) rfl ?_
  refine s_iconst (v := 0) dX10_canAnswer_2 (by decide) ?_
  refine s_istore [(4, .int (0 : Int32)), (3, .int (1 : Int32)), (0, rV E 100), (1, .int v1), (2, .int v2)] dX10_canAnswer_3 (by decide) rfl ?_
  refine s_sub (lv' := [(0, rV E 100), (1, .int v1), (2, .int v2), (3, .int (1 : Int32)), (4, .int (0 : Int32))]) [2, 3, 4, 1, 0] rfl ?_
  refine s_lo2 (σf := fun x1 x2 => σ) (lvf := fun x1 x2 => [(0, rV E 100), (1, .int v1), (2, .int v2), (3, .int x1), (4, .int x2)]) (fun rec3 ih4 x1 x2 => ?_)
  refine s_iload dX10_canAnswer_5 4 rfl ?_
  refine s_aload_n dX10_canAnswer_7 0 rfl rfl ?_
  refine s_geti gf_X10_7 rfl (m100 hF) k100 (ft_of k100 rfl) dX10_canAnswer_8 ?_
  refine s_icmp_ge 52 dX10_canAnswer_11 (by decide) ?_ ?_
  · skip
    refine s_iload_n dX10_canAnswer_14 3 rfl rfl ?_
    refine s_if_eq 52 dX10_canAnswer_15 (by decide) ?_ ?_
    · skip
      refine s_iload_n dX10_canAnswer_52 3 rfl rfl ?_
      refine s_ckZ (fun hz5 => ?_)
      exact s_zreturn rfl hz5 rfl rfl dX10_canAnswer_53
    · skip
      refine s_iload_n dX10_canAnswer_18 1 rfl rfl ?_
      refine s_iload dX10_canAnswer_19 4 rfl ?_
      refine s_ishr dX10_canAnswer_21 ?_
      refine s_iconst (v := 1) dX10_canAnswer_22 (by decide) ?_
      refine s_iand dX10_canAnswer_23 ?_
      refine s_iconst (v := 1) dX10_canAnswer_24 (by decide) ?_
      refine s_icmp_eq 40 dX10_canAnswer_25 (by decide) ?_ ?_
      · skip
        refine s_iconst (v := 1) dX10_canAnswer_40 (by decide) ?_
        refine s_goto 45 dX10_canAnswer_41 (by decide) ?_
        refine s_istore_n [(3, .int (1 : Int32)), (0, rV E 100), (1, .int v1), (2, .int v2), (4, .int x2)] dX10_canAnswer_45 rfl (by decide) rfl ?_
        refine s_iinc [(4, .int (x2 + 1)), (3, .int (1 : Int32)), (0, rV E 100), (1, .int v1), (2, .int v2)] dX10_canAnswer_46 4 rfl rfl (by decide) rfl ?_
        refine s_goto 5 dX10_canAnswer_49 (by decide) ?_
        refine s_sub [2, 3, 4, 1, 0] rfl ?_
        exact ih4 (1 : Int32) (x2 + 1)
      · skip
        refine s_aload_n dX10_canAnswer_28 0 rfl rfl ?_
        refine s_iload_n dX10_canAnswer_29 1 rfl rfl ?_
        refine s_iload_n dX10_canAnswer_30 2 rfl rfl ?_
        refine s_iload dX10_canAnswer_31 4 rfl ?_
        refine s_callVpI (As := [.int v1, .int v2, .int x2]) mf_X10_answerOf vf_X10_answerOf ml_X10_311 (c_X10_answerOf _ E hF σ v1 v2 x2) (m100 hF) k100 (by decide) rfl rfl rfl rfl (Nat.le_of_ble_eq_true rfl) rfl dX10_canAnswer_33 (fun r6 => ?_)
        refine s_iconst (v := -1) dX10_canAnswer_36 (by decide) ?_
        refine s_icmp_eq 44 dX10_canAnswer_37 (by decide) ?_ ?_
        · skip
          refine s_iconst (v := 0) dX10_canAnswer_44 (by decide) ?_
          refine s_istore_n [(3, .int (0 : Int32)), (0, rV E 100), (1, .int v1), (2, .int v2), (4, .int x2)] dX10_canAnswer_45 rfl (by decide) rfl ?_
          refine s_iinc [(4, .int (x2 + 1)), (3, .int (0 : Int32)), (0, rV E 100), (1, .int v1), (2, .int v2)] dX10_canAnswer_46 4 rfl rfl (by decide) rfl ?_
          refine s_goto 5 dX10_canAnswer_49 (by decide) ?_
          refine s_sub [2, 3, 4, 1, 0] rfl ?_
          exact ih4 (0 : Int32) (x2 + 1)
        · skip
          refine s_iconst (v := 1) dX10_canAnswer_40 (by decide) ?_
          refine s_goto 45 dX10_canAnswer_41 (by decide) ?_
          refine s_istore_n [(3, .int (1 : Int32)), (0, rV E 100), (1, .int v1), (2, .int v2), (4, .int x2)] dX10_canAnswer_45 rfl (by decide) rfl ?_
          refine s_iinc [(4, .int (x2 + 1)), (3, .int (1 : Int32)), (0, rV E 100), (1, .int v1), (2, .int v2)] dX10_canAnswer_46 4 rfl rfl (by decide) rfl ?_
          refine s_goto 5 dX10_canAnswer_49 (by decide) ?_
          refine s_sub [2, 3, 4, 1, 0] rfl ?_
          exact ih4 (1 : Int32) (x2 + 1)
  · skip
    refine s_iload_n dX10_canAnswer_52 3 rfl rfl ?_
    refine s_ckZ (fun hz7 => ?_)
    exact s_zreturn rfl hz7 rfl rfl dX10_canAnswer_53
theorem dX10_guard_0 : decode cX10_guard 0 = .ok (.aload_n 0, 1) := by decide +kernel
theorem dX10_guard_1 : decode cX10_guard 1 = .ok (.getfield 87, 3) := by decide +kernel
theorem dX10_guard_4 : decode cX10_guard 4 = .ok (.ifCond .eq 4, 3) := by decide +kernel
theorem dX10_guard_7 : decode cX10_guard 7 = .ok (.return_, 1) := by decide +kernel
theorem dX10_guard_8 : decode cX10_guard 8 = .ok (.aload_n 0, 1) := by decide +kernel
theorem dX10_guard_9 : decode cX10_guard 9 = .ok (.iconst 1, 1) := by decide +kernel
theorem dX10_guard_10 : decode cX10_guard 10 = .ok (.putfield 87, 3) := by decide +kernel
theorem dX10_guard_13 : decode cX10_guard 13 = .ok (.aload_n 0, 1) := by decide +kernel
theorem dX10_guard_14 : decode cX10_guard 14 = .ok (.invokevirtual 314, 3) := by decide +kernel
theorem dX10_guard_17 : decode cX10_guard 17 = .ok (.iconst 0, 1) := by decide +kernel
theorem dX10_guard_18 : decode cX10_guard 18 = .ok (.istore_n 1, 1) := by decide +kernel
theorem dX10_guard_19 : decode cX10_guard 19 = .ok (.iload_n 1, 1) := by decide +kernel
theorem dX10_guard_20 : decode cX10_guard 20 = .ok (.iconst 2, 1) := by decide +kernel
theorem dX10_guard_21 : decode cX10_guard 21 = .ok (.if_icmp .ge 123, 3) := by decide +kernel
theorem dX10_guard_24 : decode cX10_guard 24 = .ok (.iconst 0, 1) := by decide +kernel
theorem dX10_guard_25 : decode cX10_guard 25 = .ok (.istore_n 2, 1) := by decide +kernel
theorem dX10_guard_26 : decode cX10_guard 26 = .ok (.iload_n 2, 1) := by decide +kernel
theorem dX10_guard_27 : decode cX10_guard 27 = .ok (.sipush 256, 3) := by decide +kernel
theorem dX10_guard_30 : decode cX10_guard 30 = .ok (.if_icmp .ge 40, 3) := by decide +kernel
theorem dX10_guard_33 : decode cX10_guard 33 = .ok (.aload_n 0, 1) := by decide +kernel
theorem dX10_guard_34 : decode cX10_guard 34 = .ok (.getfield 74, 3) := by decide +kernel
theorem dX10_guard_37 : decode cX10_guard 37 = .ok (.sipush 256, 3) := by decide +kernel
theorem dX10_guard_40 : decode cX10_guard 40 = .ok (.iload_n 1, 1) := by decide +kernel
theorem dX10_guard_41 : decode cX10_guard 41 = .ok (.imul, 1) := by decide +kernel
theorem dX10_guard_42 : decode cX10_guard 42 = .ok (.iload_n 2, 1) := by decide +kernel
theorem dX10_guard_43 : decode cX10_guard 43 = .ok (.iadd, 1) := by decide +kernel
theorem dX10_guard_44 : decode cX10_guard 44 = .ok (.iload_n 2, 1) := by decide +kernel
theorem dX10_guard_45 : decode cX10_guard 45 = .ok (.ifCond .le 17, 3) := by decide +kernel
theorem dX10_guard_48 : decode cX10_guard 48 = .ok (.iload_n 2, 1) := by decide +kernel
theorem dX10_guard_49 : decode cX10_guard 49 = .ok (.iconst 1, 1) := by decide +kernel
theorem dX10_guard_50 : decode cX10_guard 50 = .ok (.aload_n 0, 1) := by decide +kernel
theorem dX10_guard_51 : decode cX10_guard 51 = .ok (.getfield 7, 3) := by decide +kernel
theorem dX10_guard_54 : decode cX10_guard 54 = .ok (.ishl, 1) := by decide +kernel
theorem dX10_guard_55 : decode cX10_guard 55 = .ok (.if_icmp .ge 7, 3) := by decide +kernel
theorem dX10_guard_58 : decode cX10_guard 58 = .ok (.iconst 1, 1) := by decide +kernel
theorem dX10_guard_59 : decode cX10_guard 59 = .ok (.goto 4, 3) := by decide +kernel
theorem dX10_guard_62 : decode cX10_guard 62 = .ok (.iconst 0, 1) := by decide +kernel
theorem dX10_guard_63 : decode cX10_guard 63 = .ok (.bastore, 1) := by decide +kernel
theorem dX10_guard_64 : decode cX10_guard 64 = .ok (.iinc 2 1, 3) := by decide +kernel
theorem dX10_guard_67 : decode cX10_guard 67 = .ok (.goto (-41), 3) := by decide +kernel
theorem dX10_guard_70 : decode cX10_guard 70 = .ok (.iconst 1, 1) := by decide +kernel
theorem dX10_guard_71 : decode cX10_guard 71 = .ok (.istore_n 2, 1) := by decide +kernel
theorem dX10_guard_72 : decode cX10_guard 72 = .ok (.iload_n 2, 1) := by decide +kernel
theorem dX10_guard_73 : decode cX10_guard 73 = .ok (.ifCond .eq 65, 3) := by decide +kernel
theorem dX10_guard_76 : decode cX10_guard 76 = .ok (.iconst 0, 1) := by decide +kernel
theorem dX10_guard_77 : decode cX10_guard 77 = .ok (.istore_n 2, 1) := by decide +kernel
theorem dX10_guard_78 : decode cX10_guard 78 = .ok (.iconst 1, 1) := by decide +kernel
theorem dX10_guard_79 : decode cX10_guard 79 = .ok (.istore_n 3, 1) := by decide +kernel
theorem dX10_guard_80 : decode cX10_guard 80 = .ok (.iload_n 3, 1) := by decide +kernel
theorem dX10_guard_81 : decode cX10_guard 81 = .ok (.iconst 1, 1) := by decide +kernel
theorem dX10_guard_82 : decode cX10_guard 82 = .ok (.aload_n 0, 1) := by decide +kernel
theorem dX10_guard_83 : decode cX10_guard 83 = .ok (.getfield 7, 3) := by decide +kernel
theorem dX10_guard_86 : decode cX10_guard 86 = .ok (.ishl, 1) := by decide +kernel
theorem dX10_guard_87 : decode cX10_guard 87 = .ok (.if_icmp .ge 48, 3) := by decide +kernel
theorem dX10_guard_90 : decode cX10_guard 90 = .ok (.aload_n 0, 1) := by decide +kernel
theorem dX10_guard_91 : decode cX10_guard 91 = .ok (.getfield 74, 3) := by decide +kernel
theorem dX10_guard_94 : decode cX10_guard 94 = .ok (.sipush 256, 3) := by decide +kernel
theorem dX10_guard_97 : decode cX10_guard 97 = .ok (.iload_n 1, 1) := by decide +kernel
theorem dX10_guard_98 : decode cX10_guard 98 = .ok (.imul, 1) := by decide +kernel
theorem dX10_guard_99 : decode cX10_guard 99 = .ok (.iload_n 3, 1) := by decide +kernel
theorem dX10_guard_100 : decode cX10_guard 100 = .ok (.iadd, 1) := by decide +kernel
theorem dX10_guard_101 : decode cX10_guard 101 = .ok (.baload, 1) := by decide +kernel
theorem dX10_guard_102 : decode cX10_guard 102 = .ok (.ifCond .eq 27, 3) := by decide +kernel
theorem dX10_guard_105 : decode cX10_guard 105 = .ok (.aload_n 0, 1) := by decide +kernel
theorem dX10_guard_106 : decode cX10_guard 106 = .ok (.iload_n 3, 1) := by decide +kernel
theorem dX10_guard_107 : decode cX10_guard 107 = .ok (.iload_n 1, 1) := by decide +kernel
theorem dX10_guard_108 : decode cX10_guard 108 = .ok (.invokevirtual 317, 3) := by decide +kernel
theorem dX10_guard_111 : decode cX10_guard 111 = .ok (.ifCond .ne 18, 3) := by decide +kernel
theorem dX10_guard_114 : decode cX10_guard 114 = .ok (.aload_n 0, 1) := by decide +kernel
theorem dX10_guard_115 : decode cX10_guard 115 = .ok (.getfield 74, 3) := by decide +kernel
theorem dX10_guard_118 : decode cX10_guard 118 = .ok (.sipush 256, 3) := by decide +kernel
theorem dX10_guard_121 : decode cX10_guard 121 = .ok (.iload_n 1, 1) := by decide +kernel
theorem dX10_guard_122 : decode cX10_guard 122 = .ok (.imul, 1) := by decide +kernel
theorem dX10_guard_123 : decode cX10_guard 123 = .ok (.iload_n 3, 1) := by decide +kernel
theorem dX10_guard_124 : decode cX10_guard 124 = .ok (.iadd, 1) := by decide +kernel
theorem dX10_guard_125 : decode cX10_guard 125 = .ok (.iconst 0, 1) := by decide +kernel
theorem dX10_guard_126 : decode cX10_guard 126 = .ok (.bastore, 1) := by decide +kernel
theorem dX10_guard_127 : decode cX10_guard 127 = .ok (.iconst 1, 1) := by decide +kernel
theorem dX10_guard_128 : decode cX10_guard 128 = .ok (.istore_n 2, 1) := by decide +kernel
theorem dX10_guard_129 : decode cX10_guard 129 = .ok (.iinc 3 1, 3) := by decide +kernel
theorem dX10_guard_132 : decode cX10_guard 132 = .ok (.goto (-52), 3) := by decide +kernel
theorem dX10_guard_135 : decode cX10_guard 135 = .ok (.goto (-63), 3) := by decide +kernel
theorem dX10_guard_138 : decode cX10_guard 138 = .ok (.iinc 1 1, 3) := by decide +kernel
theorem dX10_guard_141 : decode cX10_guard 141 = .ok (.goto (-122), 3) := by decide +kernel
theorem dX10_guard_144 : decode cX10_guard 144 = .ok (.return_, 1) := by decide +kernel
def f_X10_guard (σ : St) : Option (Unit × St) :=
  (if (σ.1 100 36) = 0 then
    bd (setI σ 100 36 (1 : Int32)) fun s1 =>
      cal (f_X10_findGoes s1) fun _ s2 =>
        lo2 FU (fun rec5 (s3 : St) (x4 : Int32) =>
          (if x4 < (2 : Int32) then
            lo2 FU (fun rec9 (s7 : St) (x8 : Int32) =>
              (if x8 < (256 : Int32) then
                (if 0 < x8 then
                  (if x8 < ((1 : Int32) <<< ((s7.1 100 0) &&& 31)) then
                    ck (((256 : Int32) * x4) + x8) 512 <|
                      bd (setI s7 120 (((256 : Int32) * x4) + x8).toNatClampNeg (1 : Int32)) fun s11 =>
                        rec9 s11 (x8 + 1)
                     else
                    ck (((256 : Int32) * x4) + x8) 512 <|
                      bd (setI s7 120 (((256 : Int32) * x4) + x8).toNatClampNeg (0 : Int32)) fun s12 =>
                        rec9 s12 (x8 + 1))
                   else
                  ck (((256 : Int32) * x4) + x8) 512 <|
                    bd (setI s7 120 (((256 : Int32) * x4) + x8).toNatClampNeg (0 : Int32)) fun s13 =>
                      rec9 s13 (x8 + 1))
                 else
                lo2 FU (fun rec16 (s14 : St) (x15 : Int32) =>
                  (if x15 = 0 then
                    rec5 s14 (x4 + 1)
                     else
                    lo3 FU (fun rec21 (s18 : St) (x19 : Int32) (x20 : Int32) =>
                      (if x20 < ((1 : Int32) <<< ((s18.1 100 0) &&& 31)) then
                        ck (((256 : Int32) * x4) + x20) 512 <|
                          (if (s18.1 120 (((256 : Int32) * x4) + x20).toNatClampNeg) = 0 then
                            rec21 s18 x19 (x20 + 1)
                             else
                            calP (f_X10_canAnswer s18 x20 x4) fun r23 =>
                              (if r23 = 0 then
                                ck (((256 : Int32) * x4) + x20) 512 <|
                                  bd (setI s18 120 (((256 : Int32) * x4) + x20).toNatClampNeg (0 : Int32)) fun s24 =>
                                    rec21 s24 (1 : Int32) (x20 + 1)
                                 else
                                rec21 s18 x19 (x20 + 1)))
                         else
                        rec16 s18 x19)) s14 (0 : Int32) (1 : Int32))) s7 (1 : Int32))) s3 (0 : Int32)
             else
            some ((), s3))) s2 (0 : Int32)
     else
    some ((), σ))
set_option maxHeartbeats 4000000 in
set_option maxRecDepth 100000 in
theorem c_X10_guard (l : Launch) (E : Ev) (hF : Full E) (σ : St) : Ctr l (en2 enV) (fun q => q.2) E md_X10_guard [rV E 100] σ (f_X10_guard σ) := by
  refine ctr_of rfl (Nat.le_of_ble_eq_true rfl) (fun Γ => ?_)
  show Sim _ Γ _ E md_X10_guard σ 0 [(0, rV E 100)] [] _
  unfold f_X10_guard
  refine s_aload_n dX10_guard_0 0 rfl rfl ?_
  refine s_geti gf_X10_87 rfl (m100 hF) k100 (ft_of k100 rfl) dX10_guard_1 ?_
  refine s_if_eq 8 dX10_guard_4 (by decide) ?_ ?_
  · skip
    refine s_aload_n dX10_guard_8 0 rfl rfl ?_
    refine s_iconst (v := 1) dX10_guard_9 (by decide) ?_
    refine s_putz gf_X10_87 rfl (m100 hF) k100 (ft_of k100 rfl) (by decide) dX10_guard_10 (fun s1 => ?_)
    refine s_aload_n dX10_guard_13 0 rfl rfl ?_
    refine s_callVwV (As := []) mf_X10_findGoes vf_X10_findGoes ml_X10_314 (c_X10_findGoes _ E hF s1) (m100 hF) k100 (by decide) rfl rfl rfl rfl (Nat.le_of_ble_eq_true rfl) rfl dX10_guard_14 (fun _ s2 => ?_)
    refine s_iconst (v := 0) dX10_guard_17 (by decide) ?_
    refine s_istore_n [(1, .int (0 : Int32)), (0, rV E 100)] dX10_guard_18 rfl (by decide) rfl ?_
    refine s_sub (lv' := [(0, rV E 100), (1, .int (0 : Int32))]) [1, 0] rfl ?_
    refine s_lo2 (σf := fun s3 x4 => s3) (lvf := fun s3 x4 => [(0, rV E 100), (1, .int x4)]) (fun rec5 ih6 s3 x4 => ?_)
    refine s_iload_n dX10_guard_19 1 rfl rfl ?_
    refine s_iconst (v := 2) dX10_guard_20 (by decide) ?_
    refine s_icmp_ge 144 dX10_guard_21 (by decide) ?_ ?_
    · skip
      refine s_iconst (v := 0) dX10_guard_24 (by decide) ?_
      refine s_istore_n [(2, .int (0 : Int32)), (0, rV E 100), (1, .int x4)] dX10_guard_25 rfl (by decide) rfl ?_
      refine s_sub (lv' := [(0, rV E 100), (1, .int x4), (2, .int (0 : Int32))]) [1, 2, 0] rfl ?_
      refine s_lo2 (σf := fun s7 x8 => s7) (lvf := fun s7 x8 => [(0, rV E 100), (1, .int x4), (2, .int x8)]) (fun rec9 ih10 s7 x8 => ?_)
      refine s_iload_n dX10_guard_26 2 rfl rfl ?_
      refine s_sipush (v := 256) dX10_guard_27 (by decide) ?_
      refine s_icmp_ge 70 dX10_guard_30 (by decide) ?_ ?_
      · skip
        refine s_aload_n dX10_guard_33 0 rfl rfl ?_
        refine s_getr (b := 120) gf_X10_74 rfl (m100 hF) k100 (ft_of k100 rfl) (hF.2 _ _) rfl dX10_guard_34 ?_
        refine s_sipush (v := 256) dX10_guard_37 (by decide) ?_
        refine s_iload_n dX10_guard_40 1 rfl rfl ?_
        refine s_imul dX10_guard_41 ?_
        refine s_iload_n dX10_guard_42 2 rfl rfl ?_
        refine s_iadd dX10_guard_43 ?_
        refine s_iload_n dX10_guard_44 2 rfl rfl ?_
        refine s_if_le 62 dX10_guard_45 (by decide) ?_ ?_
        · skip
          refine s_iload_n dX10_guard_48 2 rfl rfl ?_
          refine s_iconst (v := 1) dX10_guard_49 (by decide) ?_
          refine s_aload_n dX10_guard_50 0 rfl rfl ?_
          refine s_geti gf_X10_7 rfl (m100 hF) k100 (ft_of k100 rfl) dX10_guard_51 ?_
          refine s_ishl dX10_guard_54 ?_
          refine s_icmp_ge 62 dX10_guard_55 (by decide) ?_ ?_
          · skip
            refine s_iconst (v := 1) dX10_guard_58 (by decide) ?_
            refine s_goto 63 dX10_guard_59 (by decide) ?_
            refine s_zast (m120 hF) k120 l120 (by decide) dX10_guard_63 (fun s11 => ?_)
            refine s_iinc [(2, .int (x8 + 1)), (0, rV E 100), (1, .int x4)] dX10_guard_64 2 rfl rfl (by decide) rfl ?_
            refine s_goto 26 dX10_guard_67 (by decide) ?_
            refine s_sub [1, 2, 0] rfl ?_
            exact ih10 s11 (x8 + 1)
          · skip
            refine s_iconst (v := 0) dX10_guard_62 (by decide) ?_
            refine s_zast (m120 hF) k120 l120 (by decide) dX10_guard_63 (fun s12 => ?_)
            refine s_iinc [(2, .int (x8 + 1)), (0, rV E 100), (1, .int x4)] dX10_guard_64 2 rfl rfl (by decide) rfl ?_
            refine s_goto 26 dX10_guard_67 (by decide) ?_
            refine s_sub [1, 2, 0] rfl ?_
            exact ih10 s12 (x8 + 1)
        · skip
          refine s_iconst (v := 0) dX10_guard_62 (by decide) ?_
          refine s_zast (m120 hF) k120 l120 (by decide) dX10_guard_63 (fun s13 => ?_)
          refine s_iinc [(2, .int (x8 + 1)), (0, rV E 100), (1, .int x4)] dX10_guard_64 2 rfl rfl (by decide) rfl ?_
          refine s_goto 26 dX10_guard_67 (by decide) ?_
          refine s_sub [1, 2, 0] rfl ?_
          exact ih10 s13 (x8 + 1)
      · skip
        refine s_iconst (v := 1) dX10_guard_70 (by decide) ?_
        refine s_istore_n [(2, .int (1 : Int32)), (0, rV E 100), (1, .int x4)] dX10_guard_71 rfl (by decide) rfl ?_
        refine s_sub (lv' := [(0, rV E 100), (1, .int x4), (2, .int (1 : Int32))]) [1, 2, 0] rfl ?_
        refine s_lo2 (σf := fun s14 x15 => s14) (lvf := fun s14 x15 => [(0, rV E 100), (1, .int x4), (2, .int x15)]) (fun rec16 ih17 s14 x15 => ?_)
        refine s_iload_n dX10_guard_72 2 rfl rfl ?_
        refine s_if_eq 138 dX10_guard_73 (by decide) ?_ ?_
        · skip
          refine s_iinc [(1, .int (x4 + 1)), (0, rV E 100), (2, .int x15)] dX10_guard_138 1 rfl rfl (by decide) rfl ?_
          refine s_goto 19 dX10_guard_141 (by decide) ?_
          refine s_sub [1, 0] rfl ?_
          exact ih6 s14 (x4 + 1)
        · skip
          refine s_iconst (v := 0) dX10_guard_76 (by decide) ?_
          refine s_istore_n [(2, .int (0 : Int32)), (0, rV E 100), (1, .int x4)] dX10_guard_77 rfl (by decide) rfl ?_
          refine s_iconst (v := 1) dX10_guard_78 (by decide) ?_
          refine s_istore_n [(3, .int (1 : Int32)), (2, .int (0 : Int32)), (0, rV E 100), (1, .int x4)] dX10_guard_79 rfl (by decide) rfl ?_
          refine s_sub (lv' := [(0, rV E 100), (1, .int x4), (2, .int (0 : Int32)), (3, .int (1 : Int32))]) [2, 3, 1, 0] rfl ?_
          refine s_lo3 (σf := fun s18 x19 x20 => s18) (lvf := fun s18 x19 x20 => [(0, rV E 100), (1, .int x4), (2, .int x19), (3, .int x20)]) (fun rec21 ih22 s18 x19 x20 => ?_)
          refine s_iload_n dX10_guard_80 3 rfl rfl ?_
          refine s_iconst (v := 1) dX10_guard_81 (by decide) ?_
          refine s_aload_n dX10_guard_82 0 rfl rfl ?_
          refine s_geti gf_X10_7 rfl (m100 hF) k100 (ft_of k100 rfl) dX10_guard_83 ?_
          refine s_ishl dX10_guard_86 ?_
          refine s_icmp_ge 135 dX10_guard_87 (by decide) ?_ ?_
          · skip
            refine s_aload_n dX10_guard_90 0 rfl rfl ?_
            refine s_getr (b := 120) gf_X10_74 rfl (m100 hF) k100 (ft_of k100 rfl) (hF.2 _ _) rfl dX10_guard_91 ?_
            refine s_sipush (v := 256) dX10_guard_94 (by decide) ?_
            refine s_iload_n dX10_guard_97 1 rfl rfl ?_
            refine s_imul dX10_guard_98 ?_
            refine s_iload_n dX10_guard_99 3 rfl rfl ?_
            refine s_iadd dX10_guard_100 ?_
            refine s_zald (m120 hF) k120 l120 dX10_guard_101 ?_
            refine s_if_eq 129 dX10_guard_102 (by decide) ?_ ?_
            · skip
              refine s_iinc [(3, .int (x20 + 1)), (0, rV E 100), (1, .int x4), (2, .int x19)] dX10_guard_129 3 rfl rfl (by decide) rfl ?_
              refine s_goto 80 dX10_guard_132 (by decide) ?_
              refine s_sub [1, 2, 3, 0] rfl ?_
              exact ih22 s18 x19 (x20 + 1)
            · skip
              refine s_aload_n dX10_guard_105 0 rfl rfl ?_
              refine s_iload_n dX10_guard_106 3 rfl rfl ?_
              refine s_iload_n dX10_guard_107 1 rfl rfl ?_
              refine s_callVpI (As := [.int x20, .int x4]) mf_X10_canAnswer vf_X10_canAnswer ml_X10_317 (c_X10_canAnswer _ E hF s18 x20 x4) (m100 hF) k100 (by decide) rfl rfl rfl rfl (Nat.le_of_ble_eq_true rfl) rfl dX10_guard_108 (fun r23 => ?_)
              refine s_if_ne 129 dX10_guard_111 (by decide) ?_ ?_
              · skip
                refine s_aload_n dX10_guard_114 0 rfl rfl ?_
                refine s_getr (b := 120) gf_X10_74 rfl (m100 hF) k100 (ft_of k100 rfl) (hF.2 _ _) rfl dX10_guard_115 ?_
                refine s_sipush (v := 256) dX10_guard_118 (by decide) ?_
                refine s_iload_n dX10_guard_121 1 rfl rfl ?_
                refine s_imul dX10_guard_122 ?_
                refine s_iload_n dX10_guard_123 3 rfl rfl ?_
                refine s_iadd dX10_guard_124 ?_
                refine s_iconst (v := 0) dX10_guard_125 (by decide) ?_
                refine s_zast (m120 hF) k120 l120 (by decide) dX10_guard_126 (fun s24 => ?_)
                refine s_iconst (v := 1) dX10_guard_127 (by decide) ?_
                refine s_istore_n [(2, .int (1 : Int32)), (0, rV E 100), (1, .int x4), (3, .int x20)] dX10_guard_128 rfl (by decide) rfl ?_
                refine s_iinc [(3, .int (x20 + 1)), (2, .int (1 : Int32)), (0, rV E 100), (1, .int x4)] dX10_guard_129 3 rfl rfl (by decide) rfl ?_
                refine s_goto 80 dX10_guard_132 (by decide) ?_
                refine s_sub [2, 3, 1, 0] rfl ?_
                exact ih22 s24 (1 : Int32) (x20 + 1)
              · skip
                refine s_iinc [(3, .int (x20 + 1)), (0, rV E 100), (1, .int x4), (2, .int x19)] dX10_guard_129 3 rfl rfl (by decide) rfl ?_
                refine s_goto 80 dX10_guard_132 (by decide) ?_
                refine s_sub [1, 2, 3, 0] rfl ?_
                exact ih22 s18 x19 (x20 + 1)
          · skip
            refine s_goto 72 dX10_guard_135 (by decide) ?_
            refine s_sub [0, 1, 2] rfl ?_
            exact ih17 s18 x19
    · skip
      exact s_return rfl rfl rfl dX10_guard_144
  · skip
    exact s_return rfl rfl rfl dX10_guard_7
theorem dX10_safe_0 : decode cX10_safe 0 = .ok (.aload_n 0, 1) := by decide +kernel
theorem dX10_safe_1 : decode cX10_safe 1 = .ok (.iload_n 1, 1) := by decide +kernel
theorem dX10_safe_2 : decode cX10_safe 2 = .ok (.invokevirtual 253, 3) := by decide +kernel
theorem dX10_safe_5 : decode cX10_safe 5 = .ok (.ifCond .eq 16, 3) := by decide +kernel
theorem dX10_safe_8 : decode cX10_safe 8 = .ok (.iload_n 1, 1) := by decide +kernel
theorem dX10_safe_9 : decode cX10_safe 9 = .ok (.ifCond .eq 12, 3) := by decide +kernel
theorem dX10_safe_12 : decode cX10_safe 12 = .ok (.iload_n 2, 1) := by decide +kernel
theorem dX10_safe_13 : decode cX10_safe 13 = .ok (.iconst 0, 1) := by decide +kernel
theorem dX10_safe_14 : decode cX10_safe 14 = .ok (.iconst 1, 1) := by decide +kernel
theorem dX10_safe_15 : decode cX10_safe 15 = .ok (.invokestatic 83, 3) := by decide +kernel
theorem dX10_safe_18 : decode cX10_safe 18 = .ok (.ifCond .ne 6, 3) := by decide +kernel
theorem dX10_safe_21 : decode cX10_safe 21 = .ok (.bipush (-3), 2) := by decide +kernel
theorem dX10_safe_23 : decode cX10_safe 23 = .ok (.ireturn, 1) := by decide +kernel
theorem dX10_safe_24 : decode cX10_safe 24 = .ok (.aload_n 0, 1) := by decide +kernel
theorem dX10_safe_25 : decode cX10_safe 25 = .ok (.invokevirtual 320, 3) := by decide +kernel
theorem dX10_safe_28 : decode cX10_safe 28 = .ok (.aload_n 0, 1) := by decide +kernel
theorem dX10_safe_29 : decode cX10_safe 29 = .ok (.getfield 74, 3) := by decide +kernel
theorem dX10_safe_32 : decode cX10_safe 32 = .ok (.sipush 256, 3) := by decide +kernel
theorem dX10_safe_35 : decode cX10_safe 35 = .ok (.iload_n 2, 1) := by decide +kernel
theorem dX10_safe_36 : decode cX10_safe 36 = .ok (.imul, 1) := by decide +kernel
theorem dX10_safe_37 : decode cX10_safe 37 = .ok (.iload_n 1, 1) := by decide +kernel
theorem dX10_safe_38 : decode cX10_safe 38 = .ok (.iadd, 1) := by decide +kernel
theorem dX10_safe_39 : decode cX10_safe 39 = .ok (.baload, 1) := by decide +kernel
theorem dX10_safe_40 : decode cX10_safe 40 = .ok (.ifCond .eq 7, 3) := by decide +kernel
theorem dX10_safe_43 : decode cX10_safe 43 = .ok (.iconst 1, 1) := by decide +kernel
theorem dX10_safe_44 : decode cX10_safe 44 = .ok (.goto 4, 3) := by decide +kernel
theorem dX10_safe_47 : decode cX10_safe 47 = .ok (.iconst 0, 1) := by decide +kernel
theorem dX10_safe_48 : decode cX10_safe 48 = .ok (.ireturn, 1) := by decide +kernel
def f_X10_safe (σ : St) (v1 : Int32) (v2 : Int32) : Option (Int32 × St) :=
  calP (f_X10_isSet σ v1) fun r1 =>
    (if r1 = 0 then
      some ((-3 : Int32), σ)
       else
      (if v1 = 0 then
        some ((-3 : Int32), σ)
         else
        calP (f_X10_in σ v2 (0 : Int32) (1 : Int32)) fun r2 =>
          (if r2 = 0 then
            some ((-3 : Int32), σ)
             else
            cal (f_X10_guard σ) fun _ s3 =>
              ck (((256 : Int32) * v2) + v1) 512 <|
                (if (s3.1 120 (((256 : Int32) * v2) + v1).toNatClampNeg) = 0 then
                  some ((0 : Int32), s3)
                   else
                  some ((1 : Int32), s3)))))
set_option maxHeartbeats 4000000 in
set_option maxRecDepth 100000 in
theorem c_X10_safe (l : Launch) (E : Ev) (hF : Full E) (σ : St) (v1 : Int32) (v2 : Int32) : Ctr l (en2 enI) (fun q => q.2) E md_X10_safe [rV E 100, .int v1, .int v2] σ (f_X10_safe σ v1 v2) := by
  refine ctr_of rfl (Nat.le_of_ble_eq_true rfl) (fun Γ => ?_)
  show Sim _ Γ _ E md_X10_safe σ 0 [(0, rV E 100), (1, .int v1), (2, .int v2)] [] _
  unfold f_X10_safe
  refine s_aload_n dX10_safe_0 0 rfl rfl ?_
  refine s_iload_n dX10_safe_1 1 rfl rfl ?_
  refine s_callVpI (As := [.int v1]) mf_X10_isSet vf_X10_isSet ml_X10_253 (c_X10_isSet _ E hF σ v1) (m100 hF) k100 (by decide) rfl rfl rfl rfl (Nat.le_of_ble_eq_true rfl) rfl dX10_safe_2 (fun r1 => ?_)
  refine s_if_eq 21 dX10_safe_5 (by decide) ?_ ?_
  · skip
    refine s_bipush (v := -3) dX10_safe_21 (by decide) ?_
    exact s_ireturn rfl rfl rfl dX10_safe_23
  · skip
    refine s_iload_n dX10_safe_8 1 rfl rfl ?_
    refine s_if_eq 21 dX10_safe_9 (by decide) ?_ ?_
    · skip
      refine s_bipush (v := -3) dX10_safe_21 (by decide) ?_
      exact s_ireturn rfl rfl rfl dX10_safe_23
    · skip
      refine s_iload_n dX10_safe_12 2 rfl rfl ?_
      refine s_iconst (v := 0) dX10_safe_13 (by decide) ?_
      refine s_iconst (v := 1) dX10_safe_14 (by decide) ?_
      refine s_callSpI (As := [.int v2, .int (0 : Int32), .int (1 : Int32)]) mf_X10_in vf_X10_in ml_X10_83 (c_X10_in _ E hF σ v2 (0 : Int32) (1 : Int32)) rfl rfl (Nat.le_of_ble_eq_true rfl) rfl dX10_safe_15 (fun r2 => ?_)
      refine s_if_ne 24 dX10_safe_18 (by decide) ?_ ?_
      · skip
        refine s_bipush (v := -3) dX10_safe_21 (by decide) ?_
        exact s_ireturn rfl rfl rfl dX10_safe_23
      · skip
        refine s_aload_n dX10_safe_24 0 rfl rfl ?_
        refine s_callVwV (As := []) mf_X10_guard vf_X10_guard ml_X10_320 (c_X10_guard _ E hF σ) (m100 hF) k100 (by decide) rfl rfl rfl rfl (Nat.le_of_ble_eq_true rfl) rfl dX10_safe_25 (fun _ s3 => ?_)
        refine s_aload_n dX10_safe_28 0 rfl rfl ?_
        refine s_getr (b := 120) gf_X10_74 rfl (m100 hF) k100 (ft_of k100 rfl) (hF.2 _ _) rfl dX10_safe_29 ?_
        refine s_sipush (v := 256) dX10_safe_32 (by decide) ?_
        refine s_iload_n dX10_safe_35 2 rfl rfl ?_
        refine s_imul dX10_safe_36 ?_
        refine s_iload_n dX10_safe_37 1 rfl rfl ?_
        refine s_iadd dX10_safe_38 ?_
        refine s_zald (m120 hF) k120 l120 dX10_safe_39 ?_
        refine s_if_eq 47 dX10_safe_40 (by decide) ?_ ?_
        · skip
          refine s_iconst (v := 0) dX10_safe_47 (by decide) ?_
          exact s_ireturn rfl rfl rfl dX10_safe_48
        · skip
          refine s_iconst (v := 1) dX10_safe_43 (by decide) ?_
          refine s_goto 48 dX10_safe_44 (by decide) ?_
          exact s_ireturn rfl rfl rfl dX10_safe_48
theorem dX10_guards_0 : decode cX10_guards 0 = .ok (.iload_n 1, 1) := by decide +kernel
theorem dX10_guards_1 : decode cX10_guards 1 = .ok (.iconst 0, 1) := by decide +kernel
theorem dX10_guards_2 : decode cX10_guards 2 = .ok (.iconst 1, 1) := by decide +kernel
theorem dX10_guards_3 : decode cX10_guards 3 = .ok (.invokestatic 83, 3) := by decide +kernel
theorem dX10_guards_6 : decode cX10_guards 6 = .ok (.ifCond .eq 12, 3) := by decide +kernel
theorem dX10_guards_9 : decode cX10_guards 9 = .ok (.iload_n 2, 1) := by decide +kernel
theorem dX10_guards_10 : decode cX10_guards 10 = .ok (.iconst 0, 1) := by decide +kernel
theorem dX10_guards_11 : decode cX10_guards 11 = .ok (.iconst 2, 1) := by decide +kernel
theorem dX10_guards_12 : decode cX10_guards 12 = .ok (.invokestatic 83, 3) := by decide +kernel
theorem dX10_guards_15 : decode cX10_guards 15 = .ok (.ifCond .ne 6, 3) := by decide +kernel
theorem dX10_guards_18 : decode cX10_guards 18 = .ok (.bipush (-3), 2) := by decide +kernel
theorem dX10_guards_20 : decode cX10_guards 20 = .ok (.ireturn, 1) := by decide +kernel
theorem dX10_guards_21 : decode cX10_guards 21 = .ok (.aload_n 0, 1) := by decide +kernel
theorem dX10_guards_22 : decode cX10_guards 22 = .ok (.invokevirtual 320, 3) := by decide +kernel
theorem dX10_guards_25 : decode cX10_guards 25 = .ok (.iconst 1, 1) := by decide +kernel
theorem dX10_guards_26 : decode cX10_guards 26 = .ok (.aload_n 0, 1) := by decide +kernel
theorem dX10_guards_27 : decode cX10_guards 27 = .ok (.getfield 7, 3) := by decide +kernel
theorem dX10_guards_30 : decode cX10_guards 30 = .ok (.ishl, 1) := by decide +kernel
theorem dX10_guards_31 : decode cX10_guards 31 = .ok (.iconst 1, 1) := by decide +kernel
theorem dX10_guards_32 : decode cX10_guards 32 = .ok (.isub, 1) := by decide +kernel
theorem dX10_guards_33 : decode cX10_guards 33 = .ok (.istore_n 3, 1) := by decide +kernel
theorem dX10_guards_34 : decode cX10_guards 34 = .ok (.iconst 0, 1) := by decide +kernel
theorem dX10_guards_35 : decode cX10_guards 35 = .ok (.istore 4, 2) := by decide +kernel
theorem dX10_guards_37 : decode cX10_guards 37 = .ok (.iconst 1, 1) := by decide +kernel
theorem dX10_guards_38 : decode cX10_guards 38 = .ok (.istore 5, 2) := by decide +kernel
theorem dX10_guards_40 : decode cX10_guards 40 = .ok (.iload 5, 2) := by decide +kernel
theorem dX10_guards_42 : decode cX10_guards 42 = .ok (.iconst 1, 1) := by decide +kernel
theorem dX10_guards_43 : decode cX10_guards 43 = .ok (.aload_n 0, 1) := by decide +kernel
theorem dX10_guards_44 : decode cX10_guards 44 = .ok (.getfield 7, 3) := by decide +kernel
theorem dX10_guards_47 : decode cX10_guards 47 = .ok (.ishl, 1) := by decide +kernel
theorem dX10_guards_48 : decode cX10_guards 48 = .ok (.if_icmp .ge 44, 3) := by decide +kernel
theorem dX10_guards_51 : decode cX10_guards 51 = .ok (.aload_n 0, 1) := by decide +kernel
theorem dX10_guards_52 : decode cX10_guards 52 = .ok (.getfield 74, 3) := by decide +kernel
theorem dX10_guards_55 : decode cX10_guards 55 = .ok (.sipush 256, 3) := by decide +kernel
theorem dX10_guards_58 : decode cX10_guards 58 = .ok (.iload_n 1, 1) := by decide +kernel
theorem dX10_guards_59 : decode cX10_guards 59 = .ok (.imul, 1) := by decide +kernel
theorem dX10_guards_60 : decode cX10_guards 60 = .ok (.iload 5, 2) := by decide +kernel
theorem dX10_guards_62 : decode cX10_guards 62 = .ok (.iadd, 1) := by decide +kernel
theorem dX10_guards_63 : decode cX10_guards 63 = .ok (.baload, 1) := by decide +kernel
theorem dX10_guards_64 : decode cX10_guards 64 = .ok (.ifCond .eq 20, 3) := by decide +kernel
theorem dX10_guards_67 : decode cX10_guards 67 = .ok (.iload 5, 2) := by decide +kernel
theorem dX10_guards_69 : decode cX10_guards 69 = .ok (.invokestatic 272, 3) := by decide +kernel
theorem dX10_guards_72 : decode cX10_guards 72 = .ok (.iload_n 3, 1) := by decide +kernel
theorem dX10_guards_73 : decode cX10_guards 73 = .ok (.invokestatic 272, 3) := by decide +kernel
theorem dX10_guards_76 : decode cX10_guards 76 = .ok (.if_icmp .ge 8, 3) := by decide +kernel
theorem dX10_guards_79 : decode cX10_guards 79 = .ok (.iload 5, 2) := by decide +kernel
theorem dX10_guards_81 : decode cX10_guards 81 = .ok (.goto 4, 3) := by decide +kernel
theorem dX10_guards_84 : decode cX10_guards 84 = .ok (.iload_n 3, 1) := by decide +kernel
theorem dX10_guards_85 : decode cX10_guards 85 = .ok (.istore_n 3, 1) := by decide +kernel
theorem dX10_guards_86 : decode cX10_guards 86 = .ok (.iinc 5 1, 3) := by decide +kernel
theorem dX10_guards_89 : decode cX10_guards 89 = .ok (.goto (-49), 3) := by decide +kernel
theorem dX10_guards_92 : decode cX10_guards 92 = .ok (.iconst 1, 1) := by decide +kernel
theorem dX10_guards_93 : decode cX10_guards 93 = .ok (.istore 5, 2) := by decide +kernel
theorem dX10_guards_95 : decode cX10_guards 95 = .ok (.iload 5, 2) := by decide +kernel
theorem dX10_guards_97 : decode cX10_guards 97 = .ok (.iconst 1, 1) := by decide +kernel
theorem dX10_guards_98 : decode cX10_guards 98 = .ok (.aload_n 0, 1) := by decide +kernel
theorem dX10_guards_99 : decode cX10_guards 99 = .ok (.getfield 7, 3) := by decide +kernel
theorem dX10_guards_102 : decode cX10_guards 102 = .ok (.ishl, 1) := by decide +kernel
theorem dX10_guards_103 : decode cX10_guards 103 = .ok (.if_icmp .ge 47, 3) := by decide +kernel
theorem dX10_guards_106 : decode cX10_guards 106 = .ok (.iload 4, 2) := by decide +kernel
theorem dX10_guards_108 : decode cX10_guards 108 = .ok (.aload_n 0, 1) := by decide +kernel
theorem dX10_guards_109 : decode cX10_guards 109 = .ok (.getfield 74, 3) := by decide +kernel
theorem dX10_guards_112 : decode cX10_guards 112 = .ok (.sipush 256, 3) := by decide +kernel
theorem dX10_guards_115 : decode cX10_guards 115 = .ok (.iload_n 1, 1) := by decide +kernel
theorem dX10_guards_116 : decode cX10_guards 116 = .ok (.imul, 1) := by decide +kernel
theorem dX10_guards_117 : decode cX10_guards 117 = .ok (.iload 5, 2) := by decide +kernel
theorem dX10_guards_119 : decode cX10_guards 119 = .ok (.iadd, 1) := by decide +kernel
theorem dX10_guards_120 : decode cX10_guards 120 = .ok (.baload, 1) := by decide +kernel
theorem dX10_guards_121 : decode cX10_guards 121 = .ok (.ifCond .eq 19, 3) := by decide +kernel
theorem dX10_guards_124 : decode cX10_guards 124 = .ok (.iload 5, 2) := by decide +kernel
theorem dX10_guards_126 : decode cX10_guards 126 = .ok (.invokestatic 272, 3) := by decide +kernel
theorem dX10_guards_129 : decode cX10_guards 129 = .ok (.iload_n 3, 1) := by decide +kernel
theorem dX10_guards_130 : decode cX10_guards 130 = .ok (.invokestatic 272, 3) := by decide +kernel
theorem dX10_guards_133 : decode cX10_guards 133 = .ok (.if_icmp .ne 7, 3) := by decide +kernel
theorem dX10_guards_136 : decode cX10_guards 136 = .ok (.iconst 1, 1) := by decide +kernel
theorem dX10_guards_137 : decode cX10_guards 137 = .ok (.goto 4, 3) := by decide +kernel
theorem dX10_guards_140 : decode cX10_guards 140 = .ok (.iconst 0, 1) := by decide +kernel
theorem dX10_guards_141 : decode cX10_guards 141 = .ok (.iadd, 1) := by decide +kernel
theorem dX10_guards_142 : decode cX10_guards 142 = .ok (.istore 4, 2) := by decide +kernel
theorem dX10_guards_144 : decode cX10_guards 144 = .ok (.iinc 5 1, 3) := by decide +kernel
theorem dX10_guards_147 : decode cX10_guards 147 = .ok (.goto (-52), 3) := by decide +kernel
theorem dX10_guards_150 : decode cX10_guards 150 = .ok (.iload_n 2, 1) := by decide +kernel
theorem dX10_guards_151 : decode cX10_guards 151 = .ok (.ifCond .ne 10, 3) := by decide +kernel
theorem dX10_guards_154 : decode cX10_guards 154 = .ok (.iload_n 3, 1) := by decide +kernel
theorem dX10_guards_155 : decode cX10_guards 155 = .ok (.invokestatic 272, 3) := by decide +kernel
theorem dX10_guards_158 : decode cX10_guards 158 = .ok (.goto 14, 3) := by decide +kernel
theorem dX10_guards_161 : decode cX10_guards 161 = .ok (.iload_n 2, 1) := by decide +kernel
theorem dX10_guards_162 : decode cX10_guards 162 = .ok (.iconst 1, 1) := by decide +kernel
theorem dX10_guards_163 : decode cX10_guards 163 = .ok (.if_icmp .ne 7, 3) := by decide +kernel
theorem dX10_guards_166 : decode cX10_guards 166 = .ok (.iload_n 3, 1) := by decide +kernel
theorem dX10_guards_167 : decode cX10_guards 167 = .ok (.goto 5, 3) := by decide +kernel
theorem dX10_guards_170 : decode cX10_guards 170 = .ok (.iload 4, 2) := by decide +kernel
theorem dX10_guards_172 : decode cX10_guards 172 = .ok (.ireturn, 1) := by decide +kernel
def f_X10_guards (σ : St) (v1 : Int32) (v2 : Int32) : Option (Int32 × St) :=
  calP (f_X10_in σ v1 (0 : Int32) (1 : Int32)) fun r1 =>
    (if r1 = 0 then
      some ((-3 : Int32), σ)
       else
      calP (f_X10_in σ v2 (0 : Int32) (2 : Int32)) fun r2 =>
        (if r2 = 0 then
          some ((-3 : Int32), σ)
           else
          cal (f_X10_guard σ) fun _ s3 =>
            bd (((1 : Int32) <<< ((s3.1 100 0) &&& 31)) - (1 : Int32)) fun x4 =>
              lo2 FU (fun rec7 (x5 : Int32) (x6 : Int32) =>
                (if x6 < ((1 : Int32) <<< ((s3.1 100 0) &&& 31)) then
                  ck (((256 : Int32) * v1) + x6) 512 <|
                    (if (s3.1 120 (((256 : Int32) * v1) + x6).toNatClampNeg) = 0 then
                      rec7 x5 (x6 + 1)
                       else
                      calP (f_X10_bits s3 x6) fun r9 =>
                        calP (f_X10_bits s3 x5) fun r10 =>
                          (if r9 < r10 then
                            rec7 x6 (x6 + 1)
                             else
                            rec7 x5 (x6 + 1)))
                   else
                  lo2 FU (fun rec13 (x11 : Int32) (x12 : Int32) =>
                    (if x12 < ((1 : Int32) <<< ((s3.1 100 0) &&& 31)) then
                      ck (((256 : Int32) * v1) + x12) 512 <|
                        (if (s3.1 120 (((256 : Int32) * v1) + x12).toNatClampNeg) = 0 then
                          bd (x11 + (0 : Int32)) fun x15 =>
                            rec13 x15 (x12 + 1)
                           else
                          calP (f_X10_bits s3 x12) fun r16 =>
                            calP (f_X10_bits s3 x5) fun r17 =>
                              (if r16 = r17 then
                                bd (x11 + (1 : Int32)) fun x18 =>
                                  rec13 x18 (x12 + 1)
                                 else
                                bd (x11 + (0 : Int32)) fun x19 =>
                                  rec13 x19 (x12 + 1)))
                       else
                      (if v2 = 0 then
                        calP (f_X10_bits s3 x5) fun r20 =>
                          some (r20, s3)
                         else
                        (if v2 = (1 : Int32) then
                          some (x5, s3)
                           else
                          some (x11, s3))))) (0 : Int32) (1 : Int32))) x4 (1 : Int32)))
set_option maxHeartbeats 4000000 in
set_option maxRecDepth 100000 in
theorem c_X10_guards (l : Launch) (E : Ev) (hF : Full E) (σ : St) (v1 : Int32) (v2 : Int32) : Ctr l (en2 enI) (fun q => q.2) E md_X10_guards [rV E 100, .int v1, .int v2] σ (f_X10_guards σ v1 v2) := by
  refine ctr_of rfl (Nat.le_of_ble_eq_true rfl) (fun Γ => ?_)
  show Sim _ Γ _ E md_X10_guards σ 0 [(0, rV E 100), (1, .int v1), (2, .int v2)] [] _
  unfold f_X10_guards
  refine s_iload_n dX10_guards_0 1 rfl rfl ?_
  refine s_iconst (v := 0) dX10_guards_1 (by decide) ?_
  refine s_iconst (v := 1) dX10_guards_2 (by decide) ?_
  refine s_callSpI (As := [.int v1, .int (0 : Int32), .int (1 : Int32)]) mf_X10_in vf_X10_in ml_X10_83 (c_X10_in _ E hF σ v1 (0 : Int32) (1 : Int32)) rfl rfl (Nat.le_of_ble_eq_true rfl) rfl dX10_guards_3 (fun r1 => ?_)
  refine s_if_eq 18 dX10_guards_6 (by decide) ?_ ?_
  · skip
    refine s_bipush (v := -3) dX10_guards_18 (by decide) ?_
    exact s_ireturn rfl rfl rfl dX10_guards_20
  · skip
    refine s_iload_n dX10_guards_9 2 rfl rfl ?_
    refine s_iconst (v := 0) dX10_guards_10 (by decide) ?_
    refine s_iconst (v := 2) dX10_guards_11 (by decide) ?_
    refine s_callSpI (As := [.int v2, .int (0 : Int32), .int (2 : Int32)]) mf_X10_in vf_X10_in ml_X10_83 (c_X10_in _ E hF σ v2 (0 : Int32) (2 : Int32)) rfl rfl (Nat.le_of_ble_eq_true rfl) rfl dX10_guards_12 (fun r2 => ?_)
    refine s_if_ne 21 dX10_guards_15 (by decide) ?_ ?_
    · skip
      refine s_bipush (v := -3) dX10_guards_18 (by decide) ?_
      exact s_ireturn rfl rfl rfl dX10_guards_20
    · skip
      refine s_aload_n dX10_guards_21 0 rfl rfl ?_
      refine s_callVwV (As := []) mf_X10_guard vf_X10_guard ml_X10_320 (c_X10_guard _ E hF σ) (m100 hF) k100 (by decide) rfl rfl rfl rfl (Nat.le_of_ble_eq_true rfl) rfl dX10_guards_22 (fun _ s3 => ?_)
      refine s_iconst (v := 1) dX10_guards_25 (by decide) ?_
      refine s_aload_n dX10_guards_26 0 rfl rfl ?_
      refine s_geti gf_X10_7 rfl (m100 hF) k100 (ft_of k100 rfl) dX10_guards_27 ?_
      refine s_ishl dX10_guards_30 ?_
      refine s_iconst (v := 1) dX10_guards_31 (by decide) ?_
      refine s_isub dX10_guards_32 ?_
      refine s_istore_nB (fun x4 => [(3, .int x4), (0, rV E 100), (1, .int v1), (2, .int v2)]) dX10_guards_33 rfl (by decide) (fun _ => rfl) (fun x4 => ?_)
      refine s_iconst (v := 0) dX10_guards_34 (by decide) ?_
      refine s_istore [(4, .int (0 : Int32)), (3, .int x4), (0, rV E 100), (1, .int v1), (2, .int v2)] dX10_guards_35 (by decide) rfl ?_
      refine s_iconst (v := 1) dX10_guards_37 (by decide) ?_
      refine s_istore [(5, .int (1 : Int32)), (4, .int (0 : Int32)), (3, .int x4), (0, rV E 100), (1, .int v1), (2, .int v2)] dX10_guards_38 (by decide) rfl ?_
      refine s_sub (lv' := [(0, rV E 100), (1, .int v1), (2, .int v2), (3, .int x4), (4, .int (0 : Int32)), (5, .int (1 : Int32))]) [3, 4, 5, 2, 1, 0] rfl ?_
      refine s_lo2 (σf := fun x5 x6 => s3) (lvf := fun x5 x6 => [(0, rV E 100), (1, .int v1), (2, .int v2), (3, .int x5), (4, .int (0 : Int32)), (5, .int x6)]) (fun rec7 ih8 x5 x6 => ?_)
      refine s_iload dX10_guards_40 5 rfl ?_
      refine s_iconst (v := 1) dX10_guards_42 (by decide) ?_
      refine s_aload_n dX10_guards_43 0 rfl rfl ?_
      refine s_geti gf_X10_7 rfl (m100 hF) k100 (ft_of k100 rfl) dX10_guards_44 ?_
      refine s_ishl dX10_guards_47 ?_
      refine s_icmp_ge 92 dX10_guards_48 (by decide) ?_ ?_
      · skip
        refine s_aload_n dX10_guards_51 0 rfl rfl ?_
        refine s_getr (b := 120) gf_X10_74 rfl (m100 hF) k100 (ft_of k100 rfl) (hF.2 _ _) rfl dX10_guards_52 ?_
        refine s_sipush (v := 256) dX10_guards_55 (by decide) ?_
        refine s_iload_n dX10_guards_58 1 rfl rfl ?_
        refine s_imul dX10_guards_59 ?_
        refine s_iload dX10_guards_60 5 rfl ?_
        refine s_iadd dX10_guards_62 ?_
        refine s_zald (m120 hF) k120 l120 dX10_guards_63 ?_
        refine s_if_eq 84 dX10_guards_64 (by decide) ?_ ?_
        · skip
          refine s_iload_n dX10_guards_84 3 rfl rfl ?_
          refine s_istore_n [(3, .int x5), (0, rV E 100), (1, .int v1), (2, .int v2), (4, .int (0 : Int32)), (5, .int x6)] dX10_guards_85 rfl (by decide) rfl ?_
          refine s_iinc [(5, .int (x6 + 1)), (3, .int x5), (0, rV E 100), (1, .int v1), (2, .int v2), (4, .int (0 : Int32))] dX10_guards_86 5 rfl rfl (by decide) rfl ?_
          refine s_goto 40 dX10_guards_89 (by decide) ?_
          refine s_sub [2, 3, 4, 1, 5, 0] rfl ?_
          exact ih8 x5 (x6 + 1)
        · skip
          refine s_iload dX10_guards_67 5 rfl ?_
          refine s_callSpI (As := [.int x6]) mf_X10_bits vf_X10_bits ml_X10_272 (c_X10_bits _ E hF s3 x6) rfl rfl (Nat.le_of_ble_eq_true rfl) rfl dX10_guards_69 (fun r9 => ?_)
          refine s_iload_n dX10_guards_72 3 rfl rfl ?_
          refine s_callSpI (As := [.int x5]) mf_X10_bits vf_X10_bits ml_X10_272 (c_X10_bits _ E hF s3 x5) rfl rfl (Nat.le_of_ble_eq_true rfl) rfl dX10_guards_73 (fun r10 => ?_)
          refine s_icmp_ge 84 dX10_guards_76 (by decide) ?_ ?_
          · skip
            refine s_iload dX10_guards_79 5 rfl ?_
            refine s_goto 85 dX10_guards_81 (by decide) ?_
            refine s_istore_n [(3, .int x6), (0, rV E 100), (1, .int v1), (2, .int v2), (4, .int (0 : Int32)), (5, .int x6)] dX10_guards_85 rfl (by decide) rfl ?_
            refine s_iinc [(5, .int (x6 + 1)), (3, .int x6), (0, rV E 100), (1, .int v1), (2, .int v2), (4, .int (0 : Int32))] dX10_guards_86 5 rfl rfl (by decide) rfl ?_
            refine s_goto 40 dX10_guards_89 (by decide) ?_
            refine s_sub [2, 3, 4, 1, 5, 0] rfl ?_
            exact ih8 x6 (x6 + 1)
          · skip
            refine s_iload_n dX10_guards_84 3 rfl rfl ?_
            refine s_istore_n [(3, .int x5), (0, rV E 100), (1, .int v1), (2, .int v2), (4, .int (0 : Int32)), (5, .int x6)] dX10_guards_85 rfl (by decide) rfl ?_
            refine s_iinc [(5, .int (x6 + 1)), (3, .int x5), (0, rV E 100), (1, .int v1), (2, .int v2), (4, .int (0 : Int32))] dX10_guards_86 5 rfl rfl (by decide) rfl ?_
            refine s_goto 40 dX10_guards_89 (by decide) ?_
            refine s_sub [2, 3, 4, 1, 5, 0] rfl ?_
            exact ih8 x5 (x6 + 1)
      · skip
        refine s_iconst (v := 1) dX10_guards_92 (by decide) ?_
        refine s_istore [(5, .int (1 : Int32)), (0, rV E 100), (1, .int v1), (2, .int v2), (3, .int x5), (4, .int (0 : Int32))] dX10_guards_93 (by decide) rfl ?_
        refine s_sub (lv' := [(0, rV E 100), (1, .int v1), (2, .int v2), (3, .int x5), (4, .int (0 : Int32)), (5, .int (1 : Int32))]) [1, 2, 3, 4, 5, 0] rfl ?_
        refine s_lo2 (σf := fun x11 x12 => s3) (lvf := fun x11 x12 => [(0, rV E 100), (1, .int v1), (2, .int v2), (3, .int x5), (4, .int x11), (5, .int x12)]) (fun rec13 ih14 x11 x12 => ?_)
        refine s_iload dX10_guards_95 5 rfl ?_
        refine s_iconst (v := 1) dX10_guards_97 (by decide) ?_
        refine s_aload_n dX10_guards_98 0 rfl rfl ?_
        refine s_geti gf_X10_7 rfl (m100 hF) k100 (ft_of k100 rfl) dX10_guards_99 ?_
        refine s_ishl dX10_guards_102 ?_
        refine s_icmp_ge 150 dX10_guards_103 (by decide) ?_ ?_
        · skip
          refine s_iload dX10_guards_106 4 rfl ?_
          refine s_aload_n dX10_guards_108 0 rfl rfl ?_
          refine s_getr (b := 120) gf_X10_74 rfl (m100 hF) k100 (ft_of k100 rfl) (hF.2 _ _) rfl dX10_guards_109 ?_
          refine s_sipush (v := 256) dX10_guards_112 (by decide) ?_
          refine s_iload_n dX10_guards_115 1 rfl rfl ?_
          refine s_imul dX10_guards_116 ?_
          refine s_iload dX10_guards_117 5 rfl ?_
          refine s_iadd dX10_guards_119 ?_
          refine s_zald (m120 hF) k120 l120 dX10_guards_120 ?_
          refine s_if_eq 140 dX10_guards_121 (by decide) ?_ ?_
          · skip
            refine s_iconst (v := 0) dX10_guards_140 (by decide) ?_
            refine s_iadd dX10_guards_141 ?_
            refine s_istoreB (fun x15 => [(4, .int x15), (0, rV E 100), (1, .int v1), (2, .int v2), (3, .int x5), (5, .int x12)]) dX10_guards_142 (by decide) (fun _ => rfl) (fun x15 => ?_)
            refine s_iinc [(5, .int (x12 + 1)), (4, .int x15), (0, rV E 100), (1, .int v1), (2, .int v2), (3, .int x5)] dX10_guards_144 5 rfl rfl (by decide) rfl ?_
            refine s_goto 95 dX10_guards_147 (by decide) ?_
            refine s_sub [2, 3, 4, 5, 1, 0] rfl ?_
            exact ih14 x15 (x12 + 1)
          · skip
            refine s_iload dX10_guards_124 5 rfl ?_
            refine s_callSpI (As := [.int x12]) mf_X10_bits vf_X10_bits ml_X10_272 (c_X10_bits _ E hF s3 x12) rfl rfl (Nat.le_of_ble_eq_true rfl) rfl dX10_guards_126 (fun r16 => ?_)
            refine s_iload_n dX10_guards_129 3 rfl rfl ?_
            refine s_callSpI (As := [.int x5]) mf_X10_bits vf_X10_bits ml_X10_272 (c_X10_bits _ E hF s3 x5) rfl rfl (Nat.le_of_ble_eq_true rfl) rfl dX10_guards_130 (fun r17 => ?_)
            refine s_icmp_ne 140 dX10_guards_133 (by decide) ?_ ?_
            · skip
              refine s_iconst (v := 1) dX10_guards_136 (by decide) ?_
              refine s_goto 141 dX10_guards_137 (by decide) ?_
              refine s_iadd dX10_guards_141 ?_
              refine s_istoreB (fun x18 => [(4, .int x18), (0, rV E 100), (1, .int v1), (2, .int v2), (3, .int x5), (5, .int x12)]) dX10_guards_142 (by decide) (fun _ => rfl) (fun x18 => ?_)
              refine s_iinc [(5, .int (x12 + 1)), (4, .int x18), (0, rV E 100), (1, .int v1), (2, .int v2), (3, .int x5)] dX10_guards_144 5 rfl rfl (by decide) rfl ?_
              refine s_goto 95 dX10_guards_147 (by decide) ?_
              refine s_sub [2, 3, 4, 5, 1, 0] rfl ?_
              exact ih14 x18 (x12 + 1)
            · skip
              refine s_iconst (v := 0) dX10_guards_140 (by decide) ?_
              refine s_iadd dX10_guards_141 ?_
              refine s_istoreB (fun x19 => [(4, .int x19), (0, rV E 100), (1, .int v1), (2, .int v2), (3, .int x5), (5, .int x12)]) dX10_guards_142 (by decide) (fun _ => rfl) (fun x19 => ?_)
              refine s_iinc [(5, .int (x12 + 1)), (4, .int x19), (0, rV E 100), (1, .int v1), (2, .int v2), (3, .int x5)] dX10_guards_144 5 rfl rfl (by decide) rfl ?_
              refine s_goto 95 dX10_guards_147 (by decide) ?_
              refine s_sub [2, 3, 4, 5, 1, 0] rfl ?_
              exact ih14 x19 (x12 + 1)
        · skip
          refine s_iload_n dX10_guards_150 2 rfl rfl ?_
          refine s_if_ne 161 dX10_guards_151 (by decide) ?_ ?_
          · skip
            refine s_iload_n dX10_guards_154 3 rfl rfl ?_
            refine s_callSpI (As := [.int x5]) mf_X10_bits vf_X10_bits ml_X10_272 (c_X10_bits _ E hF s3 x5) rfl rfl (Nat.le_of_ble_eq_true rfl) rfl dX10_guards_155 (fun r20 => ?_)
            refine s_goto 172 dX10_guards_158 (by decide) ?_
            exact s_ireturn rfl rfl rfl dX10_guards_172
          · skip
            refine s_iload_n dX10_guards_161 2 rfl rfl ?_
            refine s_iconst (v := 1) dX10_guards_162 (by decide) ?_
            refine s_icmp_ne 170 dX10_guards_163 (by decide) ?_ ?_
            · skip
              refine s_iload_n dX10_guards_166 3 rfl rfl ?_
              refine s_goto 172 dX10_guards_167 (by decide) ?_
              exact s_ireturn rfl rfl rfl dX10_guards_172
            · skip
              refine s_iload dX10_guards_170 4 rfl ?_
              exact s_ireturn rfl rfl rfl dX10_guards_172
