theorem dX1_isCovered_0 : decode cX1_isCovered 0 = .ok (.iconst 0, 1) := by decide +kernel
theorem dX1_isCovered_1 : decode cX1_isCovered 1 = .ok (.istore_n 3, 1) := by decide +kernel
theorem dX1_isCovered_2 : decode cX1_isCovered 2 = .ok (.iload_n 3, 1) := by decide +kernel
theorem dX1_isCovered_3 : decode cX1_isCovered 3 = .ok (.aload_n 0, 1) := by decide +kernel
theorem dX1_isCovered_4 : decode cX1_isCovered 4 = .ok (.getfield 9, 3) := by decide +kernel
theorem dX1_isCovered_7 : decode cX1_isCovered 7 = .ok (.invokevirtual 30, 3) := by decide +kernel
theorem dX1_isCovered_10 : decode cX1_isCovered 10 = .ok (.if_icmp .ge 60, 3) := by decide +kernel
theorem dX1_isCovered_13 : decode cX1_isCovered 13 = .ok (.iload_n 3, 1) := by decide +kernel
theorem dX1_isCovered_14 : decode cX1_isCovered 14 = .ok (.iload_n 2, 1) := by decide +kernel
theorem dX1_isCovered_15 : decode cX1_isCovered 15 = .ok (.if_icmp .eq 15, 3) := by decide +kernel
theorem dX1_isCovered_18 : decode cX1_isCovered 18 = .ok (.iload_n 1, 1) := by decide +kernel
theorem dX1_isCovered_19 : decode cX1_isCovered 19 = .ok (.iload_n 3, 1) := by decide +kernel
theorem dX1_isCovered_20 : decode cX1_isCovered 20 = .ok (.invokestatic 33, 3) := by decide +kernel
theorem dX1_isCovered_23 : decode cX1_isCovered 23 = .ok (.ifCond .eq 7, 3) := by decide +kernel
theorem dX1_isCovered_26 : decode cX1_isCovered 26 = .ok (.iconst 1, 1) := by decide +kernel
theorem dX1_isCovered_27 : decode cX1_isCovered 27 = .ok (.goto 4, 3) := by decide +kernel
theorem dX1_isCovered_30 : decode cX1_isCovered 30 = .ok (.iconst 0, 1) := by decide +kernel
theorem dX1_isCovered_31 : decode cX1_isCovered 31 = .ok (.istore 4, 2) := by decide +kernel
theorem dX1_isCovered_33 : decode cX1_isCovered 33 = .ok (.iload 4, 2) := by decide +kernel
theorem dX1_isCovered_35 : decode cX1_isCovered 35 = .ok (.ifCond .eq 29, 3) := by decide +kernel
theorem dX1_isCovered_38 : decode cX1_isCovered 38 = .ok (.aload_n 0, 1) := by decide +kernel
theorem dX1_isCovered_39 : decode cX1_isCovered 39 = .ok (.getfield 9, 3) := by decide +kernel
theorem dX1_isCovered_42 : decode cX1_isCovered 42 = .ok (.iload_n 2, 1) := by decide +kernel
theorem dX1_isCovered_43 : decode cX1_isCovered 43 = .ok (.invokevirtual 40, 3) := by decide +kernel
theorem dX1_isCovered_46 : decode cX1_isCovered 46 = .ok (.iload_n 1, 1) := by decide +kernel
theorem dX1_isCovered_47 : decode cX1_isCovered 47 = .ok (.iand, 1) := by decide +kernel
theorem dX1_isCovered_48 : decode cX1_isCovered 48 = .ok (.aload_n 0, 1) := by decide +kernel
theorem dX1_isCovered_49 : decode cX1_isCovered 49 = .ok (.getfield 9, 3) := by decide +kernel
theorem dX1_isCovered_52 : decode cX1_isCovered 52 = .ok (.iload_n 3, 1) := by decide +kernel
theorem dX1_isCovered_53 : decode cX1_isCovered 53 = .ok (.invokevirtual 40, 3) := by decide +kernel
theorem dX1_isCovered_56 : decode cX1_isCovered 56 = .ok (.iconst (-1), 1) := by decide +kernel
theorem dX1_isCovered_57 : decode cX1_isCovered 57 = .ok (.ixor, 1) := by decide +kernel
theorem dX1_isCovered_58 : decode cX1_isCovered 58 = .ok (.iand, 1) := by decide +kernel
theorem dX1_isCovered_59 : decode cX1_isCovered 59 = .ok (.ifCond .ne 5, 3) := by decide +kernel
theorem dX1_isCovered_62 : decode cX1_isCovered 62 = .ok (.iconst 1, 1) := by decide +kernel
theorem dX1_isCovered_63 : decode cX1_isCovered 63 = .ok (.ireturn, 1) := by decide +kernel
theorem dX1_isCovered_64 : decode cX1_isCovered 64 = .ok (.iinc 3 1, 3) := by decide +kernel
theorem dX1_isCovered_67 : decode cX1_isCovered 67 = .ok (.goto (-65), 3) := by decide +kernel
theorem dX1_isCovered_70 : decode cX1_isCovered 70 = .ok (.iconst 0, 1) := by decide +kernel
theorem dX1_isCovered_71 : decode cX1_isCovered 71 = .ok (.ireturn, 1) := by decide +kernel
def f_X1_isCovered (σ : St) (v1 : Int32) (v2 : Int32) : Option Int32 :=
  lo1 FU (fun rec2 (x1 : Int32) =>
    calP (f_X3_places σ) fun r4 =>
      (if x1 < r4 then
        jn1 (fun jk6 =>
          (if x1 = v2 then
            jk6 (0 : Int32)
             else
            calP (f_X9_has σ v1 x1) fun r9 =>
              (if r9 = 0 then
                jk6 (0 : Int32)
                 else
                jk6 (1 : Int32))))
          (fun (x5 : Int32) => 
          (if x5 = 0 then
              rec2 (x1 + 1)
               else
              calP (f_X3_bothWays σ v2) fun r7 =>
                calP (f_X3_bothWays σ x1) fun r8 =>
                  (if ((r7 &&& v1) &&& (r8 ^^^ (-1 : Int32))) = 0 then
                    some (1 : Int32)
                     else
                    rec2 (x1 + 1))))
         else
        some (0 : Int32))) (0 : Int32)
set_option maxHeartbeats 4000000 in
set_option maxRecDepth 100000 in
theorem c_X1_isCovered (l : Launch) (E : Ev) (hF : Full E) (σ : St) (v1 : Int32) (v2 : Int32) : Ctr l enI (fun _ => σ) E md_X1_isCovered [rV E 24, .int v1, .int v2] σ (f_X1_isCovered σ v1 v2) := by
  refine ctr_of rfl (Nat.le_of_ble_eq_true rfl) (fun Γ => ?_)
  show Sim _ Γ _ E md_X1_isCovered σ 0 [(0, rV E 24), (1, .int v1), (2, .int v2)] [] _
  unfold f_X1_isCovered
  refine s_iconst (v := 0) dX1_isCovered_0 (by decide) ?_
  refine s_istore_n [(3, .int (0 : Int32)), (0, rV E 24), (1, .int v1), (2, .int v2)] dX1_isCovered_1 rfl (by decide) rfl ?_
  refine s_sub (lv' := [(0, rV E 24), (1, .int v1), (2, .int v2), (3, .int (0 : Int32))]) [1, 2, 3, 0] rfl ?_
  refine s_lo1 (σf := fun x1 => σ) (lvf := fun x1 => [(0, rV E 24), (1, .int v1), (2, .int v2), (3, .int x1)]) (fun rec2 ih3 x1 => ?_)
  refine s_iload_n dX1_isCovered_2 3 rfl rfl ?_
  refine s_aload_n dX1_isCovered_3 0 rfl rfl ?_
  refine s_getr (b := 1) gf_X1_9 rfl (m24 hF) k24 (ft_of k24 rfl) (hF.2 _ _) rfl dX1_isCovered_4 ?_
  refine s_callVpI (As := []) mf_X3_places vf_X3_places ml_X1_30 (c_X3_places _ E hF σ) (m1 hF) k1 (by decide) rfl rfl rfl rfl (Nat.le_of_ble_eq_true rfl) rfl dX1_isCovered_7 (fun r4 => ?_)
  refine s_icmp_ge 70 dX1_isCovered_10 (by decide) ?_ ?_
  · skip
    refine s_iload_n dX1_isCovered_13 3 rfl rfl ?_
    refine s_iload_n dX1_isCovered_14 2 rfl rfl ?_
    refine s_jn1 31 (fun x5 => σ) (fun x5 => [(0, rV E 24), (1, .int v1), (2, .int v2), (3, .int x1)]) (fun x5 => [.int x5]) ?_ ?_
    · intro x5
      refine s_istore [(4, .int x5), (0, rV E 24), (1, .int v1), (2, .int v2), (3, .int x1)] dX1_isCovered_31 (by decide) rfl ?_
      refine s_iload dX1_isCovered_33 0 rfl ?_
      refine s_if_eq 64 dX1_isCovered_35 (by decide) ?_ ?_
      · skip
        refine s_iinc [(3, .int (x1 + 1)), (4, .int x5), (0, rV E 24), (1, .int v1), (2, .int v2)] dX1_isCovered_64 4 rfl rfl (by decide) rfl ?_
        refine s_goto 2 dX1_isCovered_67 (by decide) ?_
        refine s_sub [2, 3, 4, 0] rfl ?_
        exact ih3 (x1 + 1)
      · skip
        refine s_aload_n dX1_isCovered_38 1 rfl rfl ?_
        refine s_getr (b := 1) gf_X1_9 rfl (m24 hF) k24 (ft_of k24 rfl) (hF.2 _ _) rfl dX1_isCovered_39 ?_
        refine s_iload_n dX1_isCovered_42 3 rfl rfl ?_
        refine s_callVpI (As := [.int v2]) mf_X3_bothWays vf_X3_bothWays ml_X1_40 (c_X3_bothWays _ E hF σ v2) (m1 hF) k1 (by decide) rfl rfl rfl rfl (Nat.le_of_ble_eq_true rfl) rfl dX1_isCovered_43 (fun r7 => ?_)
        refine s_iload_n dX1_isCovered_46 2 rfl rfl ?_
        refine s_iand dX1_isCovered_47 ?_
        refine s_aload_n dX1_isCovered_48 1 rfl rfl ?_
        refine s_getr (b := 1) gf_X1_9 rfl (m24 hF) k24 (ft_of k24 rfl) (hF.2 _ _) rfl dX1_isCovered_49 ?_
        refine s_iload_n dX1_isCovered_52 4 rfl rfl ?_
        refine s_callVpI (As := [.int x1]) mf_X3_bothWays vf_X3_bothWays ml_X1_40 (c_X3_bothWays _ E hF σ x1) (m1 hF) k1 (by decide) rfl rfl rfl rfl (Nat.le_of_ble_eq_true rfl) rfl dX1_isCovered_53 (fun r8 => ?_)
        refine s_iconst (v := -1) dX1_isCovered_56 (by decide) ?_
        refine s_ixor dX1_isCovered_57 ?_
        refine s_iand dX1_isCovered_58 ?_
        refine s_if_ne 64 dX1_isCovered_59 (by decide) ?_ ?_
        · skip
          refine s_iconst (v := 1) dX1_isCovered_62 (by decide) ?_
          exact s_zreturn rfl (by decide) rfl rfl dX1_isCovered_63
        · skip
          refine s_iinc [(3, .int (x1 + 1)), (4, .int x5), (0, rV E 24), (1, .int v1), (2, .int v2)] dX1_isCovered_64 4 rfl rfl (by decide) rfl ?_
          refine s_goto 2 dX1_isCovered_67 (by decide) ?_
          refine s_sub [2, 3, 4, 0] rfl ?_
          exact ih3 (x1 + 1)
    · intro jk6 hjk6
      refine s_icmp_eq 30 dX1_isCovered_15 (by decide) ?_ ?_
      · skip
        refine s_iconst (v := 0) dX1_isCovered_30 (by decide) ?_
        exact hjk6 (0 : Int32)
      · skip
        refine s_iload_n dX1_isCovered_18 1 rfl rfl ?_
        refine s_iload_n dX1_isCovered_19 3 rfl rfl ?_
        refine s_callNpI (As := [.int v1, .int x1]) (host := "RunnerNet") mf_X9_has vf_X9_has (nl_of 7 rfl) (c_X9_has _ E hF σ v1 x1) rfl rfl (Nat.le_of_ble_eq_true rfl) rfl dX1_isCovered_20 (fun r9 => ?_)
        refine s_if_eq 30 dX1_isCovered_23 (by decide) ?_ ?_
        · skip
          refine s_iconst (v := 0) dX1_isCovered_30 (by decide) ?_
          exact hjk6 (0 : Int32)
        · skip
          refine s_iconst (v := 1) dX1_isCovered_26 (by decide) ?_
          refine s_goto 31 dX1_isCovered_27 (by decide) ?_
          exact hjk6 (1 : Int32)
  · skip
    refine s_iconst (v := 0) dX1_isCovered_70 (by decide) ?_
    exact s_zreturn rfl (by decide) rfl rfl dX1_isCovered_71
theorem dX1_leastCovered_0 : decode cX1_leastCovered 0 = .ok (.iconst 0, 1) := by decide +kernel
theorem dX1_leastCovered_1 : decode cX1_leastCovered 1 = .ok (.istore_n 2, 1) := by decide +kernel
theorem dX1_leastCovered_2 : decode cX1_leastCovered 2 = .ok (.iload_n 2, 1) := by decide +kernel
theorem dX1_leastCovered_3 : decode cX1_leastCovered 3 = .ok (.aload_n 0, 1) := by decide +kernel
theorem dX1_leastCovered_4 : decode cX1_leastCovered 4 = .ok (.getfield 9, 3) := by decide +kernel
theorem dX1_leastCovered_7 : decode cX1_leastCovered 7 = .ok (.invokevirtual 30, 3) := by decide +kernel
theorem dX1_leastCovered_10 : decode cX1_leastCovered 10 = .ok (.if_icmp .ge 28, 3) := by decide +kernel
theorem dX1_leastCovered_13 : decode cX1_leastCovered 13 = .ok (.iload_n 1, 1) := by decide +kernel
theorem dX1_leastCovered_14 : decode cX1_leastCovered 14 = .ok (.iload_n 2, 1) := by decide +kernel
theorem dX1_leastCovered_15 : decode cX1_leastCovered 15 = .ok (.invokestatic 33, 3) := by decide +kernel
theorem dX1_leastCovered_18 : decode cX1_leastCovered 18 = .ok (.ifCond .eq 14, 3) := by decide +kernel
theorem dX1_leastCovered_21 : decode cX1_leastCovered 21 = .ok (.aload_n 0, 1) := by decide +kernel
theorem dX1_leastCovered_22 : decode cX1_leastCovered 22 = .ok (.iload_n 1, 1) := by decide +kernel
theorem dX1_leastCovered_23 : decode cX1_leastCovered 23 = .ok (.iload_n 2, 1) := by decide +kernel
theorem dX1_leastCovered_24 : decode cX1_leastCovered 24 = .ok (.invokevirtual 37, 3) := by decide +kernel
theorem dX1_leastCovered_27 : decode cX1_leastCovered 27 = .ok (.ifCond .eq 5, 3) := by decide +kernel
theorem dX1_leastCovered_30 : decode cX1_leastCovered 30 = .ok (.iload_n 2, 1) := by decide +kernel
theorem dX1_leastCovered_31 : decode cX1_leastCovered 31 = .ok (.ireturn, 1) := by decide +kernel
theorem dX1_leastCovered_32 : decode cX1_leastCovered 32 = .ok (.iinc 2 1, 3) := by decide +kernel
theorem dX1_leastCovered_35 : decode cX1_leastCovered 35 = .ok (.goto (-33), 3) := by decide +kernel
theorem dX1_leastCovered_38 : decode cX1_leastCovered 38 = .ok (.iconst (-1), 1) := by decide +kernel
theorem dX1_leastCovered_39 : decode cX1_leastCovered 39 = .ok (.ireturn, 1) := by decide +kernel
def f_X1_leastCovered (σ : St) (v1 : Int32) : Option Int32 :=
  lo1 FU (fun rec2 (x1 : Int32) =>
    calP (f_X3_places σ) fun r4 =>
      (if x1 < r4 then
        calP (f_X9_has σ v1 x1) fun r5 =>
          (if r5 = 0 then
            rec2 (x1 + 1)
             else
            calP (f_X1_isCovered σ v1 x1) fun r6 =>
              (if r6 = 0 then
                rec2 (x1 + 1)
                 else
                some x1))
         else
        some (-1 : Int32))) (0 : Int32)
set_option maxHeartbeats 4000000 in
set_option maxRecDepth 100000 in
theorem c_X1_leastCovered (l : Launch) (E : Ev) (hF : Full E) (σ : St) (v1 : Int32) : Ctr l enI (fun _ => σ) E md_X1_leastCovered [rV E 24, .int v1] σ (f_X1_leastCovered σ v1) := by
  refine ctr_of rfl (Nat.le_of_ble_eq_true rfl) (fun Γ => ?_)
  show Sim _ Γ _ E md_X1_leastCovered σ 0 [(0, rV E 24), (1, .int v1)] [] _
  unfold f_X1_leastCovered
  refine s_iconst (v := 0) dX1_leastCovered_0 (by decide) ?_
  refine s_istore_n [(2, .int (0 : Int32)), (0, rV E 24), (1, .int v1)] dX1_leastCovered_1 rfl (by decide) rfl ?_
  refine s_sub (lv' := [(0, rV E 24), (1, .int v1), (2, .int (0 : Int32))]) [1, 2, 0] rfl ?_
  refine s_lo1 (σf := fun x1 => σ) (lvf := fun x1 => [(0, rV E 24), (1, .int v1), (2, .int x1)]) (fun rec2 ih3 x1 => ?_)
  refine s_iload_n dX1_leastCovered_2 2 rfl rfl ?_
  refine s_aload_n dX1_leastCovered_3 0 rfl rfl ?_
  refine s_getr (b := 1) gf_X1_9 rfl (m24 hF) k24 (ft_of k24 rfl) (hF.2 _ _) rfl dX1_leastCovered_4 ?_
  refine s_callVpI (As := []) mf_X3_places vf_X3_places ml_X1_30 (c_X3_places _ E hF σ) (m1 hF) k1 (by decide) rfl rfl rfl rfl (Nat.le_of_ble_eq_true rfl) rfl dX1_leastCovered_7 (fun r4 => ?_)
  refine s_icmp_ge 38 dX1_leastCovered_10 (by decide) ?_ ?_
  · skip
    refine s_iload_n dX1_leastCovered_13 1 rfl rfl ?_
    refine s_iload_n dX1_leastCovered_14 2 rfl rfl ?_
    refine s_callNpI (As := [.int v1, .int x1]) (host := "RunnerNet") mf_X9_has vf_X9_has (nl_of 7 rfl) (c_X9_has _ E hF σ v1 x1) rfl rfl (Nat.le_of_ble_eq_true rfl) rfl dX1_leastCovered_15 (fun r5 => ?_)
    refine s_if_eq 32 dX1_leastCovered_18 (by decide) ?_ ?_
    · skip
      refine s_iinc [(2, .int (x1 + 1)), (0, rV E 24), (1, .int v1)] dX1_leastCovered_32 2 rfl rfl (by decide) rfl ?_
      refine s_goto 2 dX1_leastCovered_35 (by decide) ?_
      refine s_sub [1, 2, 0] rfl ?_
      exact ih3 (x1 + 1)
    · skip
      refine s_aload_n dX1_leastCovered_21 0 rfl rfl ?_
      refine s_iload_n dX1_leastCovered_22 1 rfl rfl ?_
      refine s_iload_n dX1_leastCovered_23 2 rfl rfl ?_
      refine s_callVpI (As := [.int v1, .int x1]) mf_X1_isCovered vf_X1_isCovered ml_X1_37 (c_X1_isCovered _ E hF σ v1 x1) (m24 hF) k24 (by decide) rfl rfl rfl rfl (Nat.le_of_ble_eq_true rfl) rfl dX1_leastCovered_24 (fun r6 => ?_)
      refine s_if_eq 32 dX1_leastCovered_27 (by decide) ?_ ?_
      · skip
        refine s_iinc [(2, .int (x1 + 1)), (0, rV E 24), (1, .int v1)] dX1_leastCovered_32 2 rfl rfl (by decide) rfl ?_
        refine s_goto 2 dX1_leastCovered_35 (by decide) ?_
        refine s_sub [1, 2, 0] rfl ?_
        exact ih3 (x1 + 1)
      · skip
        refine s_iload_n dX1_leastCovered_30 2 rfl rfl ?_
        exact s_ireturn rfl rfl rfl dX1_leastCovered_31
  · skip
    refine s_iconst (v := -1) dX1_leastCovered_38 (by decide) ?_
    exact s_ireturn rfl rfl rfl dX1_leastCovered_39
theorem dX1_takenAway_0 : decode cX1_takenAway 0 = .ok (.aload_n 0, 1) := by decide +kernel
theorem dX1_takenAway_1 : decode cX1_takenAway 1 = .ok (.getfield 9, 3) := by decide +kernel
theorem dX1_takenAway_4 : decode cX1_takenAway 4 = .ok (.invokevirtual 15, 3) := by decide +kernel
theorem dX1_takenAway_7 : decode cX1_takenAway 7 = .ok (.istore_n 2, 1) := by decide +kernel
theorem dX1_takenAway_8 : decode cX1_takenAway 8 = .ok (.iconst 0, 1) := by decide +kernel
theorem dX1_takenAway_9 : decode cX1_takenAway 9 = .ok (.istore_n 3, 1) := by decide +kernel
theorem dX1_takenAway_10 : decode cX1_takenAway 10 = .ok (.iload_n 3, 1) := by decide +kernel
theorem dX1_takenAway_11 : decode cX1_takenAway 11 = .ok (.bipush 8, 2) := by decide +kernel
theorem dX1_takenAway_13 : decode cX1_takenAway 13 = .ok (.if_icmp .ge 42, 3) := by decide +kernel
theorem dX1_takenAway_16 : decode cX1_takenAway 16 = .ok (.aload_n 0, 1) := by decide +kernel
theorem dX1_takenAway_17 : decode cX1_takenAway 17 = .ok (.iload_n 2, 1) := by decide +kernel
theorem dX1_takenAway_18 : decode cX1_takenAway 18 = .ok (.invokevirtual 21, 3) := by decide +kernel
theorem dX1_takenAway_21 : decode cX1_takenAway 21 = .ok (.istore 4, 2) := by decide +kernel
theorem dX1_takenAway_23 : decode cX1_takenAway 23 = .ok (.iload 4, 2) := by decide +kernel
theorem dX1_takenAway_25 : decode cX1_takenAway 25 = .ok (.iconst (-1), 1) := by decide +kernel
theorem dX1_takenAway_26 : decode cX1_takenAway 26 = .ok (.if_icmp .ne 6, 3) := by decide +kernel
theorem dX1_takenAway_29 : decode cX1_takenAway 29 = .ok (.goto 26, 3) := by decide +kernel
theorem dX1_takenAway_32 : decode cX1_takenAway 32 = .ok (.iload_n 3, 1) := by decide +kernel
theorem dX1_takenAway_33 : decode cX1_takenAway 33 = .ok (.iload_n 1, 1) := by decide +kernel
theorem dX1_takenAway_34 : decode cX1_takenAway 34 = .ok (.if_icmp .ne 6, 3) := by decide +kernel
theorem dX1_takenAway_37 : decode cX1_takenAway 37 = .ok (.iload 4, 2) := by decide +kernel
theorem dX1_takenAway_39 : decode cX1_takenAway 39 = .ok (.ireturn, 1) := by decide +kernel
theorem dX1_takenAway_40 : decode cX1_takenAway 40 = .ok (.iload_n 2, 1) := by decide +kernel
theorem dX1_takenAway_41 : decode cX1_takenAway 41 = .ok (.iconst 1, 1) := by decide +kernel
theorem dX1_takenAway_42 : decode cX1_takenAway 42 = .ok (.iload 4, 2) := by decide +kernel
theorem dX1_takenAway_44 : decode cX1_takenAway 44 = .ok (.ishl, 1) := by decide +kernel
theorem dX1_takenAway_45 : decode cX1_takenAway 45 = .ok (.iconst (-1), 1) := by decide +kernel
theorem dX1_takenAway_46 : decode cX1_takenAway 46 = .ok (.ixor, 1) := by decide +kernel
theorem dX1_takenAway_47 : decode cX1_takenAway 47 = .ok (.iand, 1) := by decide +kernel
theorem dX1_takenAway_48 : decode cX1_takenAway 48 = .ok (.istore_n 2, 1) := by decide +kernel
theorem dX1_takenAway_49 : decode cX1_takenAway 49 = .ok (.iinc 3 1, 3) := by decide +kernel
theorem dX1_takenAway_52 : decode cX1_takenAway 52 = .ok (.goto (-42), 3) := by decide +kernel
theorem dX1_takenAway_55 : decode cX1_takenAway 55 = .ok (.iload_n 1, 1) := by decide +kernel
theorem dX1_takenAway_56 : decode cX1_takenAway 56 = .ok (.iconst (-1), 1) := by decide +kernel
theorem dX1_takenAway_57 : decode cX1_takenAway 57 = .ok (.if_icmp .ne 10, 3) := by decide +kernel
theorem dX1_takenAway_60 : decode cX1_takenAway 60 = .ok (.iload_n 2, 1) := by decide +kernel
theorem dX1_takenAway_61 : decode cX1_takenAway 61 = .ok (.invokestatic 25, 3) := by decide +kernel
theorem dX1_takenAway_64 : decode cX1_takenAway 64 = .ok (.goto 4, 3) := by decide +kernel
theorem dX1_takenAway_67 : decode cX1_takenAway 67 = .ok (.iconst (-1), 1) := by decide +kernel
theorem dX1_takenAway_68 : decode cX1_takenAway 68 = .ok (.ireturn, 1) := by decide +kernel
def f_X1_takenAway (σ : St) (v1 : Int32) : Option Int32 :=
  calP (f_X3_all σ) fun r1 =>
    lo2 FU (fun rec4 (x2 : Int32) (x3 : Int32) =>
      jn0 (fun jk6 =>
        (if x3 < (8 : Int32) then
          calP (f_X1_leastCovered σ x2) fun r8 =>
            (if r8 = (-1 : Int32) then
              jk6
               else
              (if x3 = v1 then
                some r8
                 else
                bd (x2 &&& (((1 : Int32) <<< (r8 &&& 31)) ^^^ (-1 : Int32))) fun x9 =>
                  rec4 x9 (x3 + 1)))
           else
          jk6))
        (
        (if v1 = (-1 : Int32) then
            calP (f_J6_bitCount_0f7a4 σ x2) fun r7 =>
              some r7
             else
            some (-1 : Int32)))) r1 (0 : Int32)
set_option maxHeartbeats 4000000 in
set_option maxRecDepth 100000 in
theorem c_X1_takenAway (l : Launch) (E : Ev) (hF : Full E) (σ : St) (v1 : Int32) : Ctr l enI (fun _ => σ) E md_X1_takenAway [rV E 24, .int v1] σ (f_X1_takenAway σ v1) := by
  refine ctr_of rfl (Nat.le_of_ble_eq_true rfl) (fun Γ => ?_)
  show Sim _ Γ _ E md_X1_takenAway σ 0 [(0, rV E 24), (1, .int v1)] [] _
  unfold f_X1_takenAway
  refine s_aload_n dX1_takenAway_0 0 rfl rfl ?_
  refine s_getr (b := 1) gf_X1_9 rfl (m24 hF) k24 (ft_of k24 rfl) (hF.2 _ _) rfl dX1_takenAway_1 ?_
  refine s_callVpI (As := []) mf_X3_all vf_X3_all ml_X1_15 (c_X3_all _ E hF σ) (m1 hF) k1 (by decide) rfl rfl rfl rfl (Nat.le_of_ble_eq_true rfl) rfl dX1_takenAway_4 (fun r1 => ?_)
  refine s_istore_n [(2, .int r1), (0, rV E 24), (1, .int v1)] dX1_takenAway_7 rfl (by decide) rfl ?_
  refine s_iconst (v := 0) dX1_takenAway_8 (by decide) ?_
  refine s_istore_n [(3, .int (0 : Int32)), (2, .int r1), (0, rV E 24), (1, .int v1)] dX1_takenAway_9 rfl (by decide) rfl ?_
  refine s_sub (lv' := [(0, rV E 24), (1, .int v1), (2, .int r1), (3, .int (0 : Int32))]) [2, 3, 1, 0] rfl ?_
  refine s_lo2 (σf := fun x2 x3 => σ) (lvf := fun x2 x3 => [(0, rV E 24), (1, .int v1), (2, .int x2), (3, .int x3)]) (fun rec4 ih5 x2 x3 => ?_)
  refine s_iload_n dX1_takenAway_10 3 rfl rfl ?_
  refine s_bipush (v := 8) dX1_takenAway_11 (by decide) ?_
  refine s_jn0 σ 55 [(1, .int v1), (2, .int x2)] [] ?_ ?_
  · skip
    refine s_iload_n dX1_takenAway_55 0 rfl rfl ?_
    refine s_iconst (v := -1) dX1_takenAway_56 (by decide) ?_
    refine s_icmp_ne 67 dX1_takenAway_57 (by decide) ?_ ?_
    · skip
      refine s_iload_n dX1_takenAway_60 1 rfl rfl ?_
      refine s_callSpI (As := [.int x2]) mf_J6_bitCount_0f7a4 vf_J6_bitCount_0f7a4 ml_X1_25 (c_J6_bitCount_0f7a4 _ E hF σ x2) rfl rfl (Nat.le_of_ble_eq_true rfl) rfl dX1_takenAway_61 (fun r7 => ?_)
      refine s_goto 68 dX1_takenAway_64 (by decide) ?_
      exact s_ireturn rfl rfl rfl dX1_takenAway_68
    · skip
      refine s_iconst (v := -1) dX1_takenAway_67 (by decide) ?_
      exact s_ireturn rfl rfl rfl dX1_takenAway_68
  · intro jk6 hjk6
    refine s_icmp_ge 55 dX1_takenAway_13 (by decide) ?_ ?_
    · skip
      refine s_aload_n dX1_takenAway_16 0 rfl rfl ?_
      refine s_iload_n dX1_takenAway_17 2 rfl rfl ?_
      refine s_callVpI (As := [.int x2]) mf_X1_leastCovered vf_X1_leastCovered ml_X1_21 (c_X1_leastCovered _ E hF σ x2) (m24 hF) k24 (by decide) rfl rfl rfl rfl (Nat.le_of_ble_eq_true rfl) rfl dX1_takenAway_18 (fun r8 => ?_)
      refine s_istore [(4, .int r8), (0, rV E 24), (1, .int v1), (2, .int x2), (3, .int x3)] dX1_takenAway_21 (by decide) rfl ?_
      refine s_iload dX1_takenAway_23 0 rfl ?_
      refine s_iconst (v := -1) dX1_takenAway_25 (by decide) ?_
      refine s_icmp_ne 32 dX1_takenAway_26 (by decide) ?_ ?_
      · skip
        refine s_goto 55 dX1_takenAway_29 (by decide) ?_
        refine s_sub [2, 3] rfl ?_
        exact hjk6
      · skip
        refine s_iload_n dX1_takenAway_32 4 rfl rfl ?_
        refine s_iload_n dX1_takenAway_33 2 rfl rfl ?_
        refine s_icmp_ne 40 dX1_takenAway_34 (by decide) ?_ ?_
        · skip
          refine s_iload dX1_takenAway_37 0 rfl ?_
          exact s_ireturn rfl rfl rfl dX1_takenAway_39
        · skip
          refine s_iload_n dX1_takenAway_40 3 rfl rfl ?_
          refine s_iconst (v := 1) dX1_takenAway_41 (by decide) ?_
          refine s_iload dX1_takenAway_42 0 rfl ?_
          refine s_ishl dX1_takenAway_44 ?_
          refine s_iconst (v := -1) dX1_takenAway_45 (by decide) ?_
          refine s_ixor dX1_takenAway_46 ?_
          refine s_iand dX1_takenAway_47 ?_
          refine s_istore_nB (fun x9 => [(2, .int x9), (4, .int r8), (0, rV E 24), (1, .int v1), (3, .int x3)]) dX1_takenAway_48 rfl (by decide) (fun _ => rfl) (fun x9 => ?_)
          refine s_iinc [(3, .int (x3 + 1)), (2, .int x9), (4, .int r8), (0, rV E 24), (1, .int v1)] dX1_takenAway_49 4 rfl rfl (by decide) rfl ?_
          refine s_goto 10 dX1_takenAway_52 (by decide) ?_
          refine s_sub [3, 4, 1, 0] rfl ?_
          exact ih5 x9 (x3 + 1)
    · skip
      refine s_sub [1, 2] rfl ?_
      exact hjk6
theorem dX1_touchesAll_0 : decode cX1_touchesAll 0 = .ok (.aload_n 0, 1) := by decide +kernel
theorem dX1_touchesAll_1 : decode cX1_touchesAll 1 = .ok (.getfield 9, 3) := by decide +kernel
theorem dX1_touchesAll_4 : decode cX1_touchesAll 4 = .ok (.invokevirtual 15, 3) := by decide +kernel
theorem dX1_touchesAll_7 : decode cX1_touchesAll 7 = .ok (.iload_n 1, 1) := by decide +kernel
theorem dX1_touchesAll_8 : decode cX1_touchesAll 8 = .ok (.iconst (-1), 1) := by decide +kernel
theorem dX1_touchesAll_9 : decode cX1_touchesAll 9 = .ok (.ixor, 1) := by decide +kernel
theorem dX1_touchesAll_10 : decode cX1_touchesAll 10 = .ok (.iand, 1) := by decide +kernel
theorem dX1_touchesAll_11 : decode cX1_touchesAll 11 = .ok (.istore_n 2, 1) := by decide +kernel
theorem dX1_touchesAll_12 : decode cX1_touchesAll 12 = .ok (.iconst 0, 1) := by decide +kernel
theorem dX1_touchesAll_13 : decode cX1_touchesAll 13 = .ok (.istore_n 3, 1) := by decide +kernel
theorem dX1_touchesAll_14 : decode cX1_touchesAll 14 = .ok (.iload_n 3, 1) := by decide +kernel
theorem dX1_touchesAll_15 : decode cX1_touchesAll 15 = .ok (.aload_n 0, 1) := by decide +kernel
theorem dX1_touchesAll_16 : decode cX1_touchesAll 16 = .ok (.getfield 9, 3) := by decide +kernel
theorem dX1_touchesAll_19 : decode cX1_touchesAll 19 = .ok (.invokevirtual 30, 3) := by decide +kernel
theorem dX1_touchesAll_22 : decode cX1_touchesAll 22 = .ok (.if_icmp .ge 35, 3) := by decide +kernel
theorem dX1_touchesAll_25 : decode cX1_touchesAll 25 = .ok (.iload_n 2, 1) := by decide +kernel
theorem dX1_touchesAll_26 : decode cX1_touchesAll 26 = .ok (.iload_n 3, 1) := by decide +kernel
theorem dX1_touchesAll_27 : decode cX1_touchesAll 27 = .ok (.invokestatic 33, 3) := by decide +kernel
theorem dX1_touchesAll_30 : decode cX1_touchesAll 30 = .ok (.ifCond .eq 21, 3) := by decide +kernel
theorem dX1_touchesAll_33 : decode cX1_touchesAll 33 = .ok (.aload_n 0, 1) := by decide +kernel
theorem dX1_touchesAll_34 : decode cX1_touchesAll 34 = .ok (.getfield 9, 3) := by decide +kernel
theorem dX1_touchesAll_37 : decode cX1_touchesAll 37 = .ok (.iload_n 3, 1) := by decide +kernel
theorem dX1_touchesAll_38 : decode cX1_touchesAll 38 = .ok (.invokevirtual 50, 3) := by decide +kernel
theorem dX1_touchesAll_41 : decode cX1_touchesAll 41 = .ok (.iload_n 2, 1) := by decide +kernel
theorem dX1_touchesAll_42 : decode cX1_touchesAll 42 = .ok (.iand, 1) := by decide +kernel
theorem dX1_touchesAll_43 : decode cX1_touchesAll 43 = .ok (.iconst 1, 1) := by decide +kernel
theorem dX1_touchesAll_44 : decode cX1_touchesAll 44 = .ok (.iload_n 3, 1) := by decide +kernel
theorem dX1_touchesAll_45 : decode cX1_touchesAll 45 = .ok (.ishl, 1) := by decide +kernel
theorem dX1_touchesAll_46 : decode cX1_touchesAll 46 = .ok (.if_icmp .eq 5, 3) := by decide +kernel
theorem dX1_touchesAll_49 : decode cX1_touchesAll 49 = .ok (.iconst 0, 1) := by decide +kernel
theorem dX1_touchesAll_50 : decode cX1_touchesAll 50 = .ok (.ireturn, 1) := by decide +kernel
theorem dX1_touchesAll_51 : decode cX1_touchesAll 51 = .ok (.iinc 3 1, 3) := by decide +kernel
theorem dX1_touchesAll_54 : decode cX1_touchesAll 54 = .ok (.goto (-40), 3) := by decide +kernel
theorem dX1_touchesAll_57 : decode cX1_touchesAll 57 = .ok (.iconst 1, 1) := by decide +kernel
theorem dX1_touchesAll_58 : decode cX1_touchesAll 58 = .ok (.ireturn, 1) := by decide +kernel
def f_X1_touchesAll (σ : St) (v1 : Int32) : Option Int32 :=
  calP (f_X3_all σ) fun r1 =>
    bd (r1 &&& (v1 ^^^ (-1 : Int32))) fun x2 =>
      lo1 FU (fun rec4 (x3 : Int32) =>
        calP (f_X3_places σ) fun r6 =>
          (if x3 < r6 then
            calP (f_X9_has σ x2 x3) fun r7 =>
              (if r7 = 0 then
                rec4 (x3 + 1)
                 else
                calP (f_X3_outOf σ x3) fun r8 =>
                  (if (r8 &&& x2) = ((1 : Int32) <<< (x3 &&& 31)) then
                    rec4 (x3 + 1)
                     else
                    some (0 : Int32)))
             else
            some (1 : Int32))) (0 : Int32)
set_option maxHeartbeats 4000000 in
set_option maxRecDepth 100000 in
theorem c_X1_touchesAll (l : Launch) (E : Ev) (hF : Full E) (σ : St) (v1 : Int32) : Ctr l enI (fun _ => σ) E md_X1_touchesAll [rV E 24, .int v1] σ (f_X1_touchesAll σ v1) := by
  refine ctr_of rfl (Nat.le_of_ble_eq_true rfl) (fun Γ => ?_)
  show Sim _ Γ _ E md_X1_touchesAll σ 0 [(0, rV E 24), (1, .int v1)] [] _
  unfold f_X1_touchesAll
  refine s_aload_n dX1_touchesAll_0 0 rfl rfl ?_
  refine s_getr (b := 1) gf_X1_9 rfl (m24 hF) k24 (ft_of k24 rfl) (hF.2 _ _) rfl dX1_touchesAll_1 ?_
  refine s_callVpI (As := []) mf_X3_all vf_X3_all ml_X1_15 (c_X3_all _ E hF σ) (m1 hF) k1 (by decide) rfl rfl rfl rfl (Nat.le_of_ble_eq_true rfl) rfl dX1_touchesAll_4 (fun r1 => ?_)
  refine s_iload_n dX1_touchesAll_7 1 rfl rfl ?_
  refine s_iconst (v := -1) dX1_touchesAll_8 (by decide) ?_
  refine s_ixor dX1_touchesAll_9 ?_
  refine s_iand dX1_touchesAll_10 ?_
  refine s_istore_nB (fun x2 => [(2, .int x2), (0, rV E 24), (1, .int v1)]) dX1_touchesAll_11 rfl (by decide) (fun _ => rfl) (fun x2 => ?_)
  refine s_iconst (v := 0) dX1_touchesAll_12 (by decide) ?_
  refine s_istore_n [(3, .int (0 : Int32)), (2, .int x2), (0, rV E 24), (1, .int v1)] dX1_touchesAll_13 rfl (by decide) rfl ?_
  refine s_sub (lv' := [(0, rV E 24), (2, .int x2), (3, .int (0 : Int32))]) [2, 1, 0] rfl ?_
  refine s_lo1 (σf := fun x3 => σ) (lvf := fun x3 => [(0, rV E 24), (2, .int x2), (3, .int x3)]) (fun rec4 ih5 x3 => ?_)
  refine s_iload_n dX1_touchesAll_14 2 rfl rfl ?_
  refine s_aload_n dX1_touchesAll_15 0 rfl rfl ?_
  refine s_getr (b := 1) gf_X1_9 rfl (m24 hF) k24 (ft_of k24 rfl) (hF.2 _ _) rfl dX1_touchesAll_16 ?_
  refine s_callVpI (As := []) mf_X3_places vf_X3_places ml_X1_30 (c_X3_places _ E hF σ) (m1 hF) k1 (by decide) rfl rfl rfl rfl (Nat.le_of_ble_eq_true rfl) rfl dX1_touchesAll_19 (fun r6 => ?_)
  refine s_icmp_ge 57 dX1_touchesAll_22 (by decide) ?_ ?_
  · skip
    refine s_iload_n dX1_touchesAll_25 1 rfl rfl ?_
    refine s_iload_n dX1_touchesAll_26 2 rfl rfl ?_
    refine s_callNpI (As := [.int x2, .int x3]) (host := "RunnerNet") mf_X9_has vf_X9_has (nl_of 7 rfl) (c_X9_has _ E hF σ x2 x3) rfl rfl (Nat.le_of_ble_eq_true rfl) rfl dX1_touchesAll_27 (fun r7 => ?_)
    refine s_if_eq 51 dX1_touchesAll_30 (by decide) ?_ ?_
    · skip
      refine s_iinc [(3, .int (x3 + 1)), (0, rV E 24), (2, .int x2)] dX1_touchesAll_51 2 rfl rfl (by decide) rfl ?_
      refine s_goto 14 dX1_touchesAll_54 (by decide) ?_
      refine s_sub [1, 2, 0] rfl ?_
      exact ih5 (x3 + 1)
    · skip
      refine s_aload_n dX1_touchesAll_33 0 rfl rfl ?_
      refine s_getr (b := 1) gf_X1_9 rfl (m24 hF) k24 (ft_of k24 rfl) (hF.2 _ _) rfl dX1_touchesAll_34 ?_
      refine s_iload_n dX1_touchesAll_37 2 rfl rfl ?_
      refine s_callVpI (As := [.int x3]) mf_X3_outOf vf_X3_outOf ml_X1_50 (c_X3_outOf _ E hF σ x3) (m1 hF) k1 (by decide) rfl rfl rfl rfl (Nat.le_of_ble_eq_true rfl) rfl dX1_touchesAll_38 (fun r8 => ?_)
      refine s_iload_n dX1_touchesAll_41 1 rfl rfl ?_
      refine s_iand dX1_touchesAll_42 ?_
      refine s_iconst (v := 1) dX1_touchesAll_43 (by decide) ?_
      refine s_iload_n dX1_touchesAll_44 2 rfl rfl ?_
      refine s_ishl dX1_touchesAll_45 ?_
      refine s_icmp_eq 51 dX1_touchesAll_46 (by decide) ?_ ?_
      · skip
        refine s_iinc [(3, .int (x3 + 1)), (0, rV E 24), (2, .int x2)] dX1_touchesAll_51 2 rfl rfl (by decide) rfl ?_
        refine s_goto 14 dX1_touchesAll_54 (by decide) ?_
        refine s_sub [1, 2, 0] rfl ?_
        exact ih5 (x3 + 1)
      · skip
        refine s_iconst (v := 0) dX1_touchesAll_49 (by decide) ?_
        exact s_zreturn rfl (by decide) rfl rfl dX1_touchesAll_50
  · skip
    refine s_iconst (v := 1) dX1_touchesAll_57 (by decide) ?_
    exact s_zreturn rfl (by decide) rfl rfl dX1_touchesAll_58
theorem dX1_leastSet_0 : decode cX1_leastSet 0 = .ok (.aload_n 0, 1) := by decide +kernel
theorem dX1_leastSet_1 : decode cX1_leastSet 1 = .ok (.getfield 9, 3) := by decide +kernel
theorem dX1_leastSet_4 : decode cX1_leastSet 4 = .ok (.invokevirtual 15, 3) := by decide +kernel
theorem dX1_leastSet_7 : decode cX1_leastSet 7 = .ok (.istore_n 2, 1) := by decide +kernel
theorem dX1_leastSet_8 : decode cX1_leastSet 8 = .ok (.iconst 0, 1) := by decide +kernel
theorem dX1_leastSet_9 : decode cX1_leastSet 9 = .ok (.istore_n 3, 1) := by decide +kernel
theorem dX1_leastSet_10 : decode cX1_leastSet 10 = .ok (.iload_n 3, 1) := by decide +kernel
theorem dX1_leastSet_11 : decode cX1_leastSet 11 = .ok (.aload_n 0, 1) := by decide +kernel
theorem dX1_leastSet_12 : decode cX1_leastSet 12 = .ok (.getfield 9, 3) := by decide +kernel
theorem dX1_leastSet_15 : decode cX1_leastSet 15 = .ok (.invokevirtual 15, 3) := by decide +kernel
theorem dX1_leastSet_18 : decode cX1_leastSet 18 = .ok (.if_icmp .ge 67, 3) := by decide +kernel
theorem dX1_leastSet_21 : decode cX1_leastSet 21 = .ok (.iload_n 3, 1) := by decide +kernel
theorem dX1_leastSet_22 : decode cX1_leastSet 22 = .ok (.invokestatic 25, 3) := by decide +kernel
theorem dX1_leastSet_25 : decode cX1_leastSet 25 = .ok (.iload_n 2, 1) := by decide +kernel
theorem dX1_leastSet_26 : decode cX1_leastSet 26 = .ok (.invokestatic 25, 3) := by decide +kernel
theorem dX1_leastSet_29 : decode cX1_leastSet 29 = .ok (.if_icmp .ge 7, 3) := by decide +kernel
theorem dX1_leastSet_32 : decode cX1_leastSet 32 = .ok (.iconst 1, 1) := by decide +kernel
theorem dX1_leastSet_33 : decode cX1_leastSet 33 = .ok (.goto 4, 3) := by decide +kernel
theorem dX1_leastSet_36 : decode cX1_leastSet 36 = .ok (.iconst 0, 1) := by decide +kernel
theorem dX1_leastSet_37 : decode cX1_leastSet 37 = .ok (.istore 4, 2) := by decide +kernel
theorem dX1_leastSet_39 : decode cX1_leastSet 39 = .ok (.iload 4, 2) := by decide +kernel
theorem dX1_leastSet_41 : decode cX1_leastSet 41 = .ok (.ifCond .eq 38, 3) := by decide +kernel
theorem dX1_leastSet_44 : decode cX1_leastSet 44 = .ok (.iload_n 1, 1) := by decide +kernel
theorem dX1_leastSet_45 : decode cX1_leastSet 45 = .ok (.ifCond .eq 24, 3) := by decide +kernel
theorem dX1_leastSet_48 : decode cX1_leastSet 48 = .ok (.aload_n 0, 1) := by decide +kernel
theorem dX1_leastSet_49 : decode cX1_leastSet 49 = .ok (.getfield 9, 3) := by decide +kernel
theorem dX1_leastSet_52 : decode cX1_leastSet 52 = .ok (.iload_n 3, 1) := by decide +kernel
theorem dX1_leastSet_53 : decode cX1_leastSet 53 = .ok (.invokevirtual 43, 3) := by decide +kernel
theorem dX1_leastSet_56 : decode cX1_leastSet 56 = .ok (.aload_n 0, 1) := by decide +kernel
theorem dX1_leastSet_57 : decode cX1_leastSet 57 = .ok (.getfield 9, 3) := by decide +kernel
theorem dX1_leastSet_60 : decode cX1_leastSet 60 = .ok (.invokevirtual 15, 3) := by decide +kernel
theorem dX1_leastSet_63 : decode cX1_leastSet 63 = .ok (.if_icmp .ne 16, 3) := by decide +kernel
theorem dX1_leastSet_66 : decode cX1_leastSet 66 = .ok (.goto 11, 3) := by decide +kernel
theorem dX1_leastSet_69 : decode cX1_leastSet 69 = .ok (.aload_n 0, 1) := by decide +kernel
theorem dX1_leastSet_70 : decode cX1_leastSet 70 = .ok (.iload_n 3, 1) := by decide +kernel
theorem dX1_leastSet_71 : decode cX1_leastSet 71 = .ok (.invokevirtual 46, 3) := by decide +kernel
theorem dX1_leastSet_74 : decode cX1_leastSet 74 = .ok (.ifCond .eq 5, 3) := by decide +kernel
theorem dX1_leastSet_77 : decode cX1_leastSet 77 = .ok (.iload_n 3, 1) := by decide +kernel
theorem dX1_leastSet_78 : decode cX1_leastSet 78 = .ok (.istore_n 2, 1) := by decide +kernel
theorem dX1_leastSet_79 : decode cX1_leastSet 79 = .ok (.iinc 3 1, 3) := by decide +kernel
theorem dX1_leastSet_82 : decode cX1_leastSet 82 = .ok (.goto (-72), 3) := by decide +kernel
theorem dX1_leastSet_85 : decode cX1_leastSet 85 = .ok (.iload_n 2, 1) := by decide +kernel
theorem dX1_leastSet_86 : decode cX1_leastSet 86 = .ok (.ireturn, 1) := by decide +kernel
def f_X1_leastSet (σ : St) (v1 : Int32) : Option Int32 :=
  calP (f_X3_all σ) fun r1 =>
    lo2 FU (fun rec4 (x2 : Int32) (x3 : Int32) =>
      calP (f_X3_all σ) fun r6 =>
        (if x3 < r6 then
          calP (f_J6_bitCount_0f7a4 σ x3) fun r7 =>
            calP (f_J6_bitCount_0f7a4 σ x2) fun r8 =>
              bd (if r7 < r8 then (1 : Int32) else (0 : Int32)) fun x9 =>
                (if x9 = 0 then
                  rec4 x2 (x3 + 1)
                   else
                  (if v1 = 0 then
                    calP (f_X1_touchesAll σ x3) fun r11 =>
                      (if r11 = 0 then
                        rec4 x2 (x3 + 1)
                         else
                        rec4 x3 (x3 + 1))
                     else
                    calP (f_X3_aheadOf σ x3) fun r12 =>
                      calP (f_X3_all σ) fun r13 =>
                        (if r12 = r13 then
                          rec4 x3 (x3 + 1)
                           else
                          rec4 x2 (x3 + 1))))
           else
          some x2)) r1 (0 : Int32)
set_option maxHeartbeats 4000000 in
set_option maxRecDepth 100000 in
theorem c_X1_leastSet (l : Launch) (E : Ev) (hF : Full E) (σ : St) (v1 : Int32) : Ctr l enI (fun _ => σ) E md_X1_leastSet [rV E 24, .int v1] σ (f_X1_leastSet σ v1) := by
  refine ctr_of rfl (Nat.le_of_ble_eq_true rfl) (fun Γ => ?_)
  show Sim _ Γ _ E md_X1_leastSet σ 0 [(0, rV E 24), (1, .int v1)] [] _
  unfold f_X1_leastSet
  refine s_aload_n dX1_leastSet_0 0 rfl rfl ?_
  refine s_getr (b := 1) gf_X1_9 rfl (m24 hF) k24 (ft_of k24 rfl) (hF.2 _ _) rfl dX1_leastSet_1 ?_
  refine s_callVpI (As := []) mf_X3_all vf_X3_all ml_X1_15 (c_X3_all _ E hF σ) (m1 hF) k1 (by decide) rfl rfl rfl rfl (Nat.le_of_ble_eq_true rfl) rfl dX1_leastSet_4 (fun r1 => ?_)
  refine s_istore_n [(2, .int r1), (0, rV E 24), (1, .int v1)] dX1_leastSet_7 rfl (by decide) rfl ?_
  refine s_iconst (v := 0) dX1_leastSet_8 (by decide) ?_
  refine s_istore_n [(3, .int (0 : Int32)), (2, .int r1), (0, rV E 24), (1, .int v1)] dX1_leastSet_9 rfl (by decide) rfl ?_
  refine s_sub (lv' := [(0, rV E 24), (1, .int v1), (2, .int r1), (3, .int (0 : Int32))]) [2, 3, 1, 0] rfl ?_
  refine s_lo2 (σf := fun x2 x3 => σ) (lvf := fun x2 x3 => [(0, rV E 24), (1, .int v1), (2, .int x2), (3, .int x3)]) (fun rec4 ih5 x2 x3 => ?_)
  refine s_iload_n dX1_leastSet_10 3 rfl rfl ?_
  refine s_aload_n dX1_leastSet_11 0 rfl rfl ?_
  refine s_getr (b := 1) gf_X1_9 rfl (m24 hF) k24 (ft_of k24 rfl) (hF.2 _ _) rfl dX1_leastSet_12 ?_
  refine s_callVpI (As := []) mf_X3_all vf_X3_all ml_X1_15 (c_X3_all _ E hF σ) (m1 hF) k1 (by decide) rfl rfl rfl rfl (Nat.le_of_ble_eq_true rfl) rfl dX1_leastSet_15 (fun r6 => ?_)
  refine s_icmp_ge 85 dX1_leastSet_18 (by decide) ?_ ?_
  · skip
    refine s_iload_n dX1_leastSet_21 3 rfl rfl ?_
    refine s_callSpI (As := [.int x3]) mf_J6_bitCount_0f7a4 vf_J6_bitCount_0f7a4 ml_X1_25 (c_J6_bitCount_0f7a4 _ E hF σ x3) rfl rfl (Nat.le_of_ble_eq_true rfl) rfl dX1_leastSet_22 (fun r7 => ?_)
    refine s_iload_n dX1_leastSet_25 2 rfl rfl ?_
    refine s_callSpI (As := [.int x2]) mf_J6_bitCount_0f7a4 vf_J6_bitCount_0f7a4 ml_X1_25 (c_J6_bitCount_0f7a4 _ E hF σ x2) rfl rfl (Nat.le_of_ble_eq_true rfl) rfl dX1_leastSet_26 (fun r8 => ?_)
    refine s_bd 37 (fun x9 => [(0, rV E 24), (1, .int v1), (2, .int x2), (3, .int x3)]) (fun x9 => [.int x9]) (fun jk10 => (if r7 < r8 then jk10 (1 : Int32) else jk10 (0 : Int32))) (fun jk10 => (j_ite rfl rfl)) ?_ ?_
    · intro x9
      refine s_istore [(4, .int x9), (0, rV E 24), (1, .int v1), (2, .int x2), (3, .int x3)] dX1_leastSet_37 (by decide) rfl ?_
      refine s_iload dX1_leastSet_39 0 rfl ?_
      refine s_if_eq 79 dX1_leastSet_41 (by decide) ?_ ?_
      · skip
        refine s_iinc [(3, .int (x3 + 1)), (4, .int x9), (0, rV E 24), (1, .int v1), (2, .int x2)] dX1_leastSet_79 4 rfl rfl (by decide) rfl ?_
        refine s_goto 10 dX1_leastSet_82 (by decide) ?_
        refine s_sub [2, 3, 4, 0] rfl ?_
        exact ih5 x2 (x3 + 1)
      · skip
        refine s_iload_n dX1_leastSet_44 2 rfl rfl ?_
        refine s_if_eq 69 dX1_leastSet_45 (by decide) ?_ ?_
        · skip
          refine s_aload_n dX1_leastSet_69 1 rfl rfl ?_
          refine s_iload_n dX1_leastSet_70 4 rfl rfl ?_
          refine s_callVpI (As := [.int x3]) mf_X1_touchesAll vf_X1_touchesAll ml_X1_46 (c_X1_touchesAll _ E hF σ x3) (m24 hF) k24 (by decide) rfl rfl rfl rfl (Nat.le_of_ble_eq_true rfl) rfl dX1_leastSet_71 (fun r11 => ?_)
          refine s_if_eq 79 dX1_leastSet_74 (by decide) ?_ ?_
          · skip
            refine s_iinc [(3, .int (x3 + 1)), (4, .int x9), (0, rV E 24), (1, .int v1), (2, .int x2)] dX1_leastSet_79 4 rfl rfl (by decide) rfl ?_
            refine s_goto 10 dX1_leastSet_82 (by decide) ?_
            refine s_sub [2, 3, 4, 0] rfl ?_
            exact ih5 x2 (x3 + 1)
          · skip
            refine s_iload_n dX1_leastSet_77 4 rfl rfl ?_
            refine s_istore_n [(2, .int x3), (4, .int x9), (0, rV E 24), (1, .int v1), (3, .int x3)] dX1_leastSet_78 rfl (by decide) rfl ?_
            refine s_iinc [(3, .int (x3 + 1)), (2, .int x3), (4, .int x9), (0, rV E 24), (1, .int v1)] dX1_leastSet_79 4 rfl rfl (by decide) rfl ?_
            refine s_goto 10 dX1_leastSet_82 (by decide) ?_
            refine s_sub [3, 4, 1, 0] rfl ?_
            exact ih5 x3 (x3 + 1)
        · skip
          refine s_aload_n dX1_leastSet_48 1 rfl rfl ?_
          refine s_getr (b := 1) gf_X1_9 rfl (m24 hF) k24 (ft_of k24 rfl) (hF.2 _ _) rfl dX1_leastSet_49 ?_
          refine s_iload_n dX1_leastSet_52 4 rfl rfl ?_
          refine s_callVpI (As := [.int x3]) mf_X3_aheadOf vf_X3_aheadOf ml_X1_43 (c_X3_aheadOf _ E hF σ x3) (m1 hF) k1 (by decide) rfl rfl rfl rfl (Nat.le_of_ble_eq_true rfl) rfl dX1_leastSet_53 (fun r12 => ?_)
          refine s_aload_n dX1_leastSet_56 1 rfl rfl ?_
          refine s_getr (b := 1) gf_X1_9 rfl (m24 hF) k24 (ft_of k24 rfl) (hF.2 _ _) rfl dX1_leastSet_57 ?_
          refine s_callVpI (As := []) mf_X3_all vf_X3_all ml_X1_15 (c_X3_all _ E hF σ) (m1 hF) k1 (by decide) rfl rfl rfl rfl (Nat.le_of_ble_eq_true rfl) rfl dX1_leastSet_60 (fun r13 => ?_)
          refine s_icmp_ne 79 dX1_leastSet_63 (by decide) ?_ ?_
          · skip
            refine s_goto 77 dX1_leastSet_66 (by decide) ?_
            refine s_iload_n dX1_leastSet_77 4 rfl rfl ?_
            refine s_istore_n [(2, .int x3), (4, .int x9), (0, rV E 24), (1, .int v1), (3, .int x3)] dX1_leastSet_78 rfl (by decide) rfl ?_
            refine s_iinc [(3, .int (x3 + 1)), (2, .int x3), (4, .int x9), (0, rV E 24), (1, .int v1)] dX1_leastSet_79 4 rfl rfl (by decide) rfl ?_
            refine s_goto 10 dX1_leastSet_82 (by decide) ?_
            refine s_sub [3, 4, 1, 0] rfl ?_
            exact ih5 x3 (x3 + 1)
          · skip
            refine s_iinc [(3, .int (x3 + 1)), (4, .int x9), (0, rV E 24), (1, .int v1), (2, .int x2)] dX1_leastSet_79 4 rfl rfl (by decide) rfl ?_
            refine s_goto 10 dX1_leastSet_82 (by decide) ?_
            refine s_sub [2, 3, 4, 0] rfl ?_
            exact ih5 x2 (x3 + 1)
    · intro jk10 hjk10
      refine s_icmp_ge 36 dX1_leastSet_29 (by decide) ?_ ?_
      · skip
        refine s_iconst (v := 1) dX1_leastSet_32 (by decide) ?_
        refine s_goto 37 dX1_leastSet_33 (by decide) ?_
        exact hjk10 (1 : Int32)
      · skip
        refine s_iconst (v := 0) dX1_leastSet_36 (by decide) ?_
        exact hjk10 (0 : Int32)
  · skip
    refine s_iload_n dX1_leastSet_85 2 rfl rfl ?_
    exact s_ireturn rfl rfl rfl dX1_leastSet_86
theorem dX4_border_0 : decode cX4_border 0 = .ok (.iload_n 1, 1) := by decide +kernel
theorem dX4_border_1 : decode cX4_border 1 = .ok (.aload_n 0, 1) := by decide +kernel
theorem dX4_border_2 : decode cX4_border 2 = .ok (.getfield 18, 3) := by decide +kernel
theorem dX4_border_5 : decode cX4_border 5 = .ok (.aload_n 0, 1) := by decide +kernel
theorem dX4_border_6 : decode cX4_border 6 = .ok (.getfield 18, 3) := by decide +kernel
theorem dX4_border_9 : decode cX4_border 9 = .ok (.invokevirtual 43, 3) := by decide +kernel
theorem dX4_border_12 : decode cX4_border 12 = .ok (.iload_n 1, 1) := by decide +kernel
theorem dX4_border_13 : decode cX4_border 13 = .ok (.iconst (-1), 1) := by decide +kernel
theorem dX4_border_14 : decode cX4_border 14 = .ok (.ixor, 1) := by decide +kernel
theorem dX4_border_15 : decode cX4_border 15 = .ok (.iand, 1) := by decide +kernel
theorem dX4_border_16 : decode cX4_border 16 = .ok (.invokevirtual 75, 3) := by decide +kernel
theorem dX4_border_19 : decode cX4_border 19 = .ok (.iand, 1) := by decide +kernel
theorem dX4_border_20 : decode cX4_border 20 = .ok (.invokestatic 78, 3) := by decide +kernel
theorem dX4_border_23 : decode cX4_border 23 = .ok (.ireturn, 1) := by decide +kernel
def f_X4_border (σ : St) (j : Nat) (v1 : Int32) : Option Int32 :=
  calP (f_X3_all σ) fun r1 =>
    calP (f_X3_around σ (r1 &&& (v1 ^^^ (-1 : Int32)))) fun r2 =>
      calP (f_J6_bitCount_0f7a4 σ (v1 &&& r2)) fun r3 =>
        some r3
set_option maxHeartbeats 4000000 in
set_option maxRecDepth 100000 in
theorem c_X4_border (l : Launch) (E : Ev) (hF : Full E) (σ : St) (j : Nat) (hj : j < 2) (v1 : Int32) : Ctr l enI (fun _ => σ) E md_X4_border [rV E (18 + 3 * j), .int v1] σ (f_X4_border σ j v1) := by
  refine ctr_of rfl (Nat.le_of_ble_eq_true rfl) (fun Γ => ?_)
  show Sim _ Γ _ E md_X4_border σ 0 [(0, rV E (18 + 3 * j)), (1, .int v1)] [] _
  unfold f_X4_border
  refine s_iload_n dX4_border_0 1 rfl rfl ?_
  refine s_aload_n dX4_border_1 0 rfl rfl ?_
  refine s_getr (b := 1) gf_X4_18 rfl (mO hF hj) (kO hj) (ft_of (kO hj) rfl) (hF.2 _ _) (rO0 hj) dX4_border_2 ?_
  refine s_aload_n dX4_border_5 0 rfl rfl ?_
  refine s_getr (b := 1) gf_X4_18 rfl (mO hF hj) (kO hj) (ft_of (kO hj) rfl) (hF.2 _ _) (rO0 hj) dX4_border_6 ?_
  refine s_callVpI (As := []) mf_X3_all vf_X3_all ml_X4_43 (c_X3_all _ E hF σ) (m1 hF) k1 (by decide) rfl rfl rfl rfl (Nat.le_of_ble_eq_true rfl) rfl dX4_border_9 (fun r1 => ?_)
  refine s_iload_n dX4_border_12 1 rfl rfl ?_
  refine s_iconst (v := -1) dX4_border_13 (by decide) ?_
  refine s_ixor dX4_border_14 ?_
  refine s_iand dX4_border_15 ?_
  refine s_callVpI (As := [.int (r1 &&& (v1 ^^^ (-1 : Int32)))]) mf_X3_around vf_X3_around ml_X4_75 (c_X3_around _ E hF σ (r1 &&& (v1 ^^^ (-1 : Int32)))) (m1 hF) k1 (by decide) rfl rfl rfl rfl (Nat.le_of_ble_eq_true rfl) rfl dX4_border_16 (fun r2 => ?_)
  refine s_iand dX4_border_19 ?_
  refine s_callSpI (As := [.int (v1 &&& r2)]) mf_J6_bitCount_0f7a4 vf_J6_bitCount_0f7a4 ml_X4_78 (c_J6_bitCount_0f7a4 _ E hF σ (v1 &&& r2)) rfl rfl (Nat.le_of_ble_eq_true rfl) rfl dX4_border_20 (fun r3 => ?_)
  exact s_ireturn rfl rfl rfl dX4_border_23
theorem dX4_neighbours_0 : decode cX4_neighbours 0 = .ok (.iconst 1, 1) := by decide +kernel
theorem dX4_neighbours_1 : decode cX4_neighbours 1 = .ok (.iload_n 2, 1) := by decide +kernel
theorem dX4_neighbours_2 : decode cX4_neighbours 2 = .ok (.ishl, 1) := by decide +kernel
theorem dX4_neighbours_3 : decode cX4_neighbours 3 = .ok (.istore_n 3, 1) := by decide +kernel
theorem dX4_neighbours_4 : decode cX4_neighbours 4 = .ok (.iconst 0, 1) := by decide +kernel
theorem dX4_neighbours_5 : decode cX4_neighbours 5 = .ok (.istore 4, 2) := by decide +kernel
theorem dX4_neighbours_7 : decode cX4_neighbours 7 = .ok (.iload 4, 2) := by decide +kernel
theorem dX4_neighbours_9 : decode cX4_neighbours 9 = .ok (.bipush 8, 2) := by decide +kernel
theorem dX4_neighbours_11 : decode cX4_neighbours 11 = .ok (.if_icmp .ge 22, 3) := by decide +kernel
theorem dX4_neighbours_14 : decode cX4_neighbours 14 = .ok (.iload_n 3, 1) := by decide +kernel
theorem dX4_neighbours_15 : decode cX4_neighbours 15 = .ok (.aload_n 0, 1) := by decide +kernel
theorem dX4_neighbours_16 : decode cX4_neighbours 16 = .ok (.getfield 18, 3) := by decide +kernel
theorem dX4_neighbours_19 : decode cX4_neighbours 19 = .ok (.iload_n 3, 1) := by decide +kernel
theorem dX4_neighbours_20 : decode cX4_neighbours 20 = .ok (.invokevirtual 75, 3) := by decide +kernel
theorem dX4_neighbours_23 : decode cX4_neighbours 23 = .ok (.iload_n 1, 1) := by decide +kernel
theorem dX4_neighbours_24 : decode cX4_neighbours 24 = .ok (.iand, 1) := by decide +kernel
theorem dX4_neighbours_25 : decode cX4_neighbours 25 = .ok (.ior, 1) := by decide +kernel
theorem dX4_neighbours_26 : decode cX4_neighbours 26 = .ok (.istore_n 3, 1) := by decide +kernel
theorem dX4_neighbours_27 : decode cX4_neighbours 27 = .ok (.iinc 4 1, 3) := by decide +kernel
theorem dX4_neighbours_30 : decode cX4_neighbours 30 = .ok (.goto (-23), 3) := by decide +kernel
theorem dX4_neighbours_33 : decode cX4_neighbours 33 = .ok (.aload_n 0, 1) := by decide +kernel
theorem dX4_neighbours_34 : decode cX4_neighbours 34 = .ok (.getfield 18, 3) := by decide +kernel
theorem dX4_neighbours_37 : decode cX4_neighbours 37 = .ok (.iload_n 3, 1) := by decide +kernel
theorem dX4_neighbours_38 : decode cX4_neighbours 38 = .ok (.invokevirtual 75, 3) := by decide +kernel
theorem dX4_neighbours_41 : decode cX4_neighbours 41 = .ok (.iload_n 1, 1) := by decide +kernel
theorem dX4_neighbours_42 : decode cX4_neighbours 42 = .ok (.iconst (-1), 1) := by decide +kernel
theorem dX4_neighbours_43 : decode cX4_neighbours 43 = .ok (.ixor, 1) := by decide +kernel
theorem dX4_neighbours_44 : decode cX4_neighbours 44 = .ok (.iand, 1) := by decide +kernel
theorem dX4_neighbours_45 : decode cX4_neighbours 45 = .ok (.iconst 1, 1) := by decide +kernel
theorem dX4_neighbours_46 : decode cX4_neighbours 46 = .ok (.iload_n 2, 1) := by decide +kernel
theorem dX4_neighbours_47 : decode cX4_neighbours 47 = .ok (.ishl, 1) := by decide +kernel
theorem dX4_neighbours_48 : decode cX4_neighbours 48 = .ok (.iconst (-1), 1) := by decide +kernel
theorem dX4_neighbours_49 : decode cX4_neighbours 49 = .ok (.ixor, 1) := by decide +kernel
theorem dX4_neighbours_50 : decode cX4_neighbours 50 = .ok (.iand, 1) := by decide +kernel
theorem dX4_neighbours_51 : decode cX4_neighbours 51 = .ok (.invokestatic 78, 3) := by decide +kernel
theorem dX4_neighbours_54 : decode cX4_neighbours 54 = .ok (.ireturn, 1) := by decide +kernel
def f_X4_neighbours (σ : St) (j : Nat) (v1 : Int32) (v2 : Int32) : Option Int32 :=
  bd ((1 : Int32) <<< (v2 &&& 31)) fun x1 =>
    lo2 FU (fun rec4 (x2 : Int32) (x3 : Int32) =>
      (if x3 < (8 : Int32) then
        calP (f_X3_around σ x2) fun r6 =>
          bd (x2 ||| (r6 &&& v1)) fun x7 =>
            rec4 x7 (x3 + 1)
         else
        calP (f_X3_around σ x2) fun r8 =>
          calP (f_J6_bitCount_0f7a4 σ ((r8 &&& (v1 ^^^ (-1 : Int32))) &&& (((1 : Int32) <<< (v2 &&& 31)) ^^^ (-1 : Int32)))) fun r9 =>
            some r9)) x1 (0 : Int32)
set_option maxHeartbeats 4000000 in
set_option maxRecDepth 100000 in
theorem c_X4_neighbours (l : Launch) (E : Ev) (hF : Full E) (σ : St) (j : Nat) (hj : j < 2) (v1 : Int32) (v2 : Int32) : Ctr l enI (fun _ => σ) E md_X4_neighbours [rV E (18 + 3 * j), .int v1, .int v2] σ (f_X4_neighbours σ j v1 v2) := by
  refine ctr_of rfl (Nat.le_of_ble_eq_true rfl) (fun Γ => ?_)
  show Sim _ Γ _ E md_X4_neighbours σ 0 [(0, rV E (18 + 3 * j)), (1, .int v1), (2, .int v2)] [] _
  unfold f_X4_neighbours
  refine s_iconst (v := 1) dX4_neighbours_0 (by decide) ?_
  refine s_iload_n dX4_neighbours_1 2 rfl rfl ?_
  refine s_ishl dX4_neighbours_2 ?_
  refine s_istore_nB (fun x1 => [(3, .int x1), (0, rV E (18 + 3 * j)), (1, .int v1), (2, .int v2)]) dX4_neighbours_3 rfl (by decide) (fun _ => rfl) (fun x1 => ?_)
  refine s_iconst (v := 0) dX4_neighbours_4 (by decide) ?_
  refine s_istore [(4, .int (0 : Int32)), (3, .int x1), (0, rV E (18 + 3 * j)), (1, .int v1), (2, .int v2)] dX4_neighbours_5 (by decide) rfl ?_
  refine s_sub (lv' := [(0, rV E (18 + 3 * j)), (1, .int v1), (2, .int v2), (3, .int x1), (4, .int (0 : Int32))]) [2, 3, 4, 1, 0] rfl ?_
  refine s_lo2 (σf := fun x2 x3 => σ) (lvf := fun x2 x3 => [(0, rV E (18 + 3 * j)), (1, .int v1), (2, .int v2), (3, .int x2), (4, .int x3)]) (fun rec4 ih5 x2 x3 => ?_)
  refine s_iload dX4_neighbours_7 4 rfl ?_
  refine s_bipush (v := 8) dX4_neighbours_9 (by decide) ?_
  refine s_icmp_ge 33 dX4_neighbours_11 (by decide) ?_ ?_
  · skip
    refine s_iload_n dX4_neighbours_14 3 rfl rfl ?_
    refine s_aload_n dX4_neighbours_15 0 rfl rfl ?_
    refine s_getr (b := 1) gf_X4_18 rfl (mO hF hj) (kO hj) (ft_of (kO hj) rfl) (hF.2 _ _) (rO0 hj) dX4_neighbours_16 ?_
    refine s_iload_n dX4_neighbours_19 3 rfl rfl ?_
    refine s_callVpI (As := [.int x2]) mf_X3_around vf_X3_around ml_X4_75 (c_X3_around _ E hF σ x2) (m1 hF) k1 (by decide) rfl rfl rfl rfl (Nat.le_of_ble_eq_true rfl) rfl dX4_neighbours_20 (fun r6 => ?_)
    refine s_iload_n dX4_neighbours_23 1 rfl rfl ?_
    refine s_iand dX4_neighbours_24 ?_
    refine s_ior dX4_neighbours_25 ?_
    refine s_istore_nB (fun x7 => [(3, .int x7), (0, rV E (18 + 3 * j)), (1, .int v1), (2, .int v2), (4, .int x3)]) dX4_neighbours_26 rfl (by decide) (fun _ => rfl) (fun x7 => ?_)
    refine s_iinc [(4, .int (x3 + 1)), (3, .int x7), (0, rV E (18 + 3 * j)), (1, .int v1), (2, .int v2)] dX4_neighbours_27 4 rfl rfl (by decide) rfl ?_
    refine s_goto 7 dX4_neighbours_30 (by decide) ?_
    refine s_sub [2, 3, 4, 1, 0] rfl ?_
    exact ih5 x7 (x3 + 1)
  · skip
    refine s_aload_n dX4_neighbours_33 0 rfl rfl ?_
    refine s_getr (b := 1) gf_X4_18 rfl (mO hF hj) (kO hj) (ft_of (kO hj) rfl) (hF.2 _ _) (rO0 hj) dX4_neighbours_34 ?_
    refine s_iload_n dX4_neighbours_37 3 rfl rfl ?_
    refine s_callVpI (As := [.int x2]) mf_X3_around vf_X3_around ml_X4_75 (c_X3_around _ E hF σ x2) (m1 hF) k1 (by decide) rfl rfl rfl rfl (Nat.le_of_ble_eq_true rfl) rfl dX4_neighbours_38 (fun r8 => ?_)
    refine s_iload_n dX4_neighbours_41 1 rfl rfl ?_
    refine s_iconst (v := -1) dX4_neighbours_42 (by decide) ?_
    refine s_ixor dX4_neighbours_43 ?_
    refine s_iand dX4_neighbours_44 ?_
    refine s_iconst (v := 1) dX4_neighbours_45 (by decide) ?_
    refine s_iload_n dX4_neighbours_46 2 rfl rfl ?_
    refine s_ishl dX4_neighbours_47 ?_
    refine s_iconst (v := -1) dX4_neighbours_48 (by decide) ?_
    refine s_ixor dX4_neighbours_49 ?_
    refine s_iand dX4_neighbours_50 ?_
    refine s_callSpI (As := [.int ((r8 &&& (v1 ^^^ (-1 : Int32))) &&& (((1 : Int32) <<< (v2 &&& 31)) ^^^ (-1 : Int32)))]) mf_J6_bitCount_0f7a4 vf_J6_bitCount_0f7a4 ml_X4_78 (c_J6_bitCount_0f7a4 _ E hF σ ((r8 &&& (v1 ^^^ (-1 : Int32))) &&& (((1 : Int32) <<< (v2 &&& 31)) ^^^ (-1 : Int32)))) rfl rfl (Nat.le_of_ble_eq_true rfl) rfl dX4_neighbours_51 (fun r9 => ?_)
    exact s_ireturn rfl rfl rfl dX4_neighbours_54
theorem dX4_most_0 : decode cX4_most 0 = .ok (.iload_n 1, 1) := by decide +kernel
theorem dX4_most_1 : decode cX4_most 1 = .ok (.iconst 1, 1) := by decide +kernel
theorem dX4_most_2 : decode cX4_most 2 = .ok (.iload_n 2, 1) := by decide +kernel
theorem dX4_most_3 : decode cX4_most 3 = .ok (.ishl, 1) := by decide +kernel
theorem dX4_most_4 : decode cX4_most 4 = .ok (.ior, 1) := by decide +kernel
theorem dX4_most_5 : decode cX4_most 5 = .ok (.sipush 255, 3) := by decide +kernel
theorem dX4_most_8 : decode cX4_most 8 = .ok (.iand, 1) := by decide +kernel
theorem dX4_most_9 : decode cX4_most 9 = .ok (.istore_n 3, 1) := by decide +kernel
theorem dX4_most_10 : decode cX4_most 10 = .ok (.aload_n 0, 1) := by decide +kernel
theorem dX4_most_11 : decode cX4_most 11 = .ok (.getfield 22, 3) := by decide +kernel
theorem dX4_most_14 : decode cX4_most 14 = .ok (.ifCond .eq 12, 3) := by decide +kernel
theorem dX4_most_17 : decode cX4_most 17 = .ok (.aload_n 0, 1) := by decide +kernel
theorem dX4_most_18 : decode cX4_most 18 = .ok (.iload_n 1, 1) := by decide +kernel
theorem dX4_most_19 : decode cX4_most 19 = .ok (.iload_n 2, 1) := by decide +kernel
theorem dX4_most_20 : decode cX4_most 20 = .ok (.invokevirtual 65, 3) := by decide +kernel
theorem dX4_most_23 : decode cX4_most 23 = .ok (.goto 8, 3) := by decide +kernel
theorem dX4_most_26 : decode cX4_most 26 = .ok (.aload_n 0, 1) := by decide +kernel
theorem dX4_most_27 : decode cX4_most 27 = .ok (.iload_n 3, 1) := by decide +kernel
theorem dX4_most_28 : decode cX4_most 28 = .ok (.invokevirtual 68, 3) := by decide +kernel
theorem dX4_most_31 : decode cX4_most 31 = .ok (.aload_n 0, 1) := by decide +kernel
theorem dX4_most_32 : decode cX4_most 32 = .ok (.getfield 9, 3) := by decide +kernel
theorem dX4_most_35 : decode cX4_most 35 = .ok (.iload_n 3, 1) := by decide +kernel
theorem dX4_most_36 : decode cX4_most 36 = .ok (.iaload, 1) := by decide +kernel
theorem dX4_most_37 : decode cX4_most 37 = .ok (.invokestatic 72, 3) := by decide +kernel
theorem dX4_most_40 : decode cX4_most 40 = .ok (.ireturn, 1) := by decide +kernel
def f_X4_most (σ : St) (j : Nat) (v1 : Int32) (v2 : Int32) : Option Int32 :=
  bd ((v1 ||| ((1 : Int32) <<< (v2 &&& 31))) &&& (255 : Int32)) fun x1 =>
    jn1 (fun jk3 =>
      (if (σ.1 (18 + 3 * j) 1) = 0 then
        calP (f_X4_border σ j x1) fun r4 =>
          jk3 r4
         else
        calP (f_X4_neighbours σ j v1 v2) fun r5 =>
          jk3 r5))
      (fun (x2 : Int32) => 
      ck x1 256 <|
          some (if x2 < (σ.1 (19 + 3 * j) x1.toNatClampNeg) then (σ.1 (19 + 3 * j) x1.toNatClampNeg) else x2))
set_option maxHeartbeats 4000000 in
set_option maxRecDepth 100000 in
theorem c_X4_most (l : Launch) (E : Ev) (hF : Full E) (σ : St) (j : Nat) (hj : j < 2) (v1 : Int32) (v2 : Int32) : Ctr l enI (fun _ => σ) E md_X4_most [rV E (18 + 3 * j), .int v1, .int v2] σ (f_X4_most σ j v1 v2) := by
  refine ctr_of rfl (Nat.le_of_ble_eq_true rfl) (fun Γ => ?_)
  show Sim _ Γ _ E md_X4_most σ 0 [(0, rV E (18 + 3 * j)), (1, .int v1), (2, .int v2)] [] _
  unfold f_X4_most
  refine s_iload_n dX4_most_0 1 rfl rfl ?_
  refine s_iconst (v := 1) dX4_most_1 (by decide) ?_
  refine s_iload_n dX4_most_2 2 rfl rfl ?_
  refine s_ishl dX4_most_3 ?_
  refine s_ior dX4_most_4 ?_
  refine s_sipush (v := 255) dX4_most_5 (by decide) ?_
  refine s_iand dX4_most_8 ?_
  refine s_istore_nB (fun x1 => [(3, .int x1), (0, rV E (18 + 3 * j)), (1, .int v1), (2, .int v2)]) dX4_most_9 rfl (by decide) (fun _ => rfl) (fun x1 => ?_)
  refine s_aload_n dX4_most_10 1 rfl rfl ?_
  refine s_geti gf_X4_22 rfl (mO hF hj) (kO hj) (ft_of (kO hj) rfl) dX4_most_11 ?_
  refine s_jn1 31 (fun x2 => σ) (fun x2 => [(0, rV E (18 + 3 * j)), (3, .int x1)]) (fun x2 => [.int x2]) ?_ ?_
  · intro x2
    refine s_aload_n dX4_most_31 0 rfl rfl ?_
    refine s_getr (b := (19 + 3 * j)) gf_X4_9 rfl (mO hF hj) (kO hj) (ft_of (kO hj) rfl) (hF.2 _ _) (rO2 hj) dX4_most_32 ?_
    refine s_iload_n dX4_most_35 1 rfl rfl ?_
    refine s_iald (mO1 hF hj) (kO1 hj) (lO1 hj) dX4_most_36 ?_
    refine s_mmax ml_X4_72 rfl dX4_most_37 ?_
    exact s_ireturn rfl rfl rfl dX4_most_40
  · intro jk3 hjk3
    refine s_if_eq 26 dX4_most_14 (by decide) ?_ ?_
    · skip
      refine s_aload_n dX4_most_26 1 rfl rfl ?_
      refine s_iload_n dX4_most_27 0 rfl rfl ?_
      refine s_callVpI (As := [.int x1]) mf_X4_border vf_X4_border ml_X4_68 (c_X4_border _ E hF σ j hj x1) (mO hF hj) (kO hj) (by decide) rfl rfl rfl rfl (Nat.le_of_ble_eq_true rfl) rfl dX4_most_28 (fun r4 => ?_)
      refine s_sub [1, 0] rfl ?_
      exact hjk3 r4
    · skip
      refine s_aload_n dX4_most_17 1 rfl rfl ?_
      refine s_iload_n dX4_most_18 2 rfl rfl ?_
      refine s_iload_n dX4_most_19 3 rfl rfl ?_
      refine s_callVpI (As := [.int v1, .int v2]) mf_X4_neighbours vf_X4_neighbours ml_X4_65 (c_X4_neighbours _ E hF σ j hj v1 v2) (mO hF hj) (kO hj) (by decide) rfl rfl rfl rfl (Nat.le_of_ble_eq_true rfl) rfl dX4_most_20 (fun r5 => ?_)
      refine s_goto 31 dX4_most_23 (by decide) ?_
      refine s_sub [1, 0] rfl ?_
      exact hjk3 r5
theorem dX4_choose_0 : decode cX4_choose 0 = .ok (.iconst 0, 1) := by decide +kernel
theorem dX4_choose_1 : decode cX4_choose 1 = .ok (.istore_n 1, 1) := by decide +kernel
theorem dX4_choose_2 : decode cX4_choose 2 = .ok (.iconst 0, 1) := by decide +kernel
theorem dX4_choose_3 : decode cX4_choose 3 = .ok (.istore_n 2, 1) := by decide +kernel
theorem dX4_choose_4 : decode cX4_choose 4 = .ok (.iload_n 2, 1) := by decide +kernel
theorem dX4_choose_5 : decode cX4_choose 5 = .ok (.aload_n 0, 1) := by decide +kernel
theorem dX4_choose_6 : decode cX4_choose 6 = .ok (.getfield 18, 3) := by decide +kernel
theorem dX4_choose_9 : decode cX4_choose 9 = .ok (.invokevirtual 52, 3) := by decide +kernel
theorem dX4_choose_12 : decode cX4_choose 12 = .ok (.if_icmp .ge 93, 3) := by decide +kernel
theorem dX4_choose_15 : decode cX4_choose 15 = .ok (.iload_n 2, 1) := by decide +kernel
theorem dX4_choose_16 : decode cX4_choose 16 = .ok (.bipush 8, 2) := by decide +kernel
theorem dX4_choose_18 : decode cX4_choose 18 = .ok (.if_icmp .ge 87, 3) := by decide +kernel
theorem dX4_choose_21 : decode cX4_choose 21 = .ok (.iconst (-1), 1) := by decide +kernel
theorem dX4_choose_22 : decode cX4_choose 22 = .ok (.istore_n 3, 1) := by decide +kernel
theorem dX4_choose_23 : decode cX4_choose 23 = .ok (.iconst 0, 1) := by decide +kernel
theorem dX4_choose_24 : decode cX4_choose 24 = .ok (.istore 4, 2) := by decide +kernel
theorem dX4_choose_26 : decode cX4_choose 26 = .ok (.iload 4, 2) := by decide +kernel
theorem dX4_choose_28 : decode cX4_choose 28 = .ok (.aload_n 0, 1) := by decide +kernel
theorem dX4_choose_29 : decode cX4_choose 29 = .ok (.getfield 18, 3) := by decide +kernel
theorem dX4_choose_32 : decode cX4_choose 32 = .ok (.invokevirtual 52, 3) := by decide +kernel
theorem dX4_choose_35 : decode cX4_choose 35 = .ok (.if_icmp .ge 42, 3) := by decide +kernel
theorem dX4_choose_38 : decode cX4_choose 38 = .ok (.iload_n 3, 1) := by decide +kernel
theorem dX4_choose_39 : decode cX4_choose 39 = .ok (.iconst (-1), 1) := by decide +kernel
theorem dX4_choose_40 : decode cX4_choose 40 = .ok (.if_icmp .ne 37, 3) := by decide +kernel
theorem dX4_choose_43 : decode cX4_choose 43 = .ok (.iload_n 1, 1) := by decide +kernel
theorem dX4_choose_44 : decode cX4_choose 44 = .ok (.iload 4, 2) := by decide +kernel
theorem dX4_choose_46 : decode cX4_choose 46 = .ok (.invokestatic 55, 3) := by decide +kernel
theorem dX4_choose_49 : decode cX4_choose 49 = .ok (.ifCond .ne 22, 3) := by decide +kernel
theorem dX4_choose_52 : decode cX4_choose 52 = .ok (.aload_n 0, 1) := by decide +kernel
theorem dX4_choose_53 : decode cX4_choose 53 = .ok (.iload_n 1, 1) := by decide +kernel
theorem dX4_choose_54 : decode cX4_choose 54 = .ok (.iload 4, 2) := by decide +kernel
theorem dX4_choose_56 : decode cX4_choose 56 = .ok (.invokevirtual 59, 3) := by decide +kernel
theorem dX4_choose_59 : decode cX4_choose 59 = .ok (.aload_n 0, 1) := by decide +kernel
theorem dX4_choose_60 : decode cX4_choose 60 = .ok (.getfield 9, 3) := by decide +kernel
theorem dX4_choose_63 : decode cX4_choose 63 = .ok (.iconst 0, 1) := by decide +kernel
theorem dX4_choose_64 : decode cX4_choose 64 = .ok (.iaload, 1) := by decide +kernel
theorem dX4_choose_65 : decode cX4_choose 65 = .ok (.if_icmp .gt 6, 3) := by decide +kernel
theorem dX4_choose_68 : decode cX4_choose 68 = .ok (.iload 4, 2) := by decide +kernel
theorem dX4_choose_70 : decode cX4_choose 70 = .ok (.istore_n 3, 1) := by decide +kernel
theorem dX4_choose_71 : decode cX4_choose 71 = .ok (.iinc 4 1, 3) := by decide +kernel
theorem dX4_choose_74 : decode cX4_choose 74 = .ok (.goto (-48), 3) := by decide +kernel
theorem dX4_choose_77 : decode cX4_choose 77 = .ok (.aload_n 0, 1) := by decide +kernel
theorem dX4_choose_78 : decode cX4_choose 78 = .ok (.getfield 15, 3) := by decide +kernel
theorem dX4_choose_81 : decode cX4_choose 81 = .ok (.iload_n 2, 1) := by decide +kernel
theorem dX4_choose_82 : decode cX4_choose 82 = .ok (.iload_n 3, 1) := by decide +kernel
theorem dX4_choose_83 : decode cX4_choose 83 = .ok (.iastore, 1) := by decide +kernel
theorem dX4_choose_84 : decode cX4_choose 84 = .ok (.iload_n 1, 1) := by decide +kernel
theorem dX4_choose_85 : decode cX4_choose 85 = .ok (.iload_n 3, 1) := by decide +kernel
theorem dX4_choose_86 : decode cX4_choose 86 = .ok (.iconst (-1), 1) := by decide +kernel
theorem dX4_choose_87 : decode cX4_choose 87 = .ok (.if_icmp .ne 7, 3) := by decide +kernel
theorem dX4_choose_90 : decode cX4_choose 90 = .ok (.iconst 0, 1) := by decide +kernel
theorem dX4_choose_91 : decode cX4_choose 91 = .ok (.goto 6, 3) := by decide +kernel
theorem dX4_choose_94 : decode cX4_choose 94 = .ok (.iconst 1, 1) := by decide +kernel
theorem dX4_choose_95 : decode cX4_choose 95 = .ok (.iload_n 3, 1) := by decide +kernel
theorem dX4_choose_96 : decode cX4_choose 96 = .ok (.ishl, 1) := by decide +kernel
theorem dX4_choose_97 : decode cX4_choose 97 = .ok (.ior, 1) := by decide +kernel
theorem dX4_choose_98 : decode cX4_choose 98 = .ok (.istore_n 1, 1) := by decide +kernel
theorem dX4_choose_99 : decode cX4_choose 99 = .ok (.iinc 2 1, 3) := by decide +kernel
theorem dX4_choose_102 : decode cX4_choose 102 = .ok (.goto (-98), 3) := by decide +kernel
theorem dX4_choose_105 : decode cX4_choose 105 = .ok (.return_, 1) := by decide +kernel
def f_X4_choose (σ : St) (j : Nat) : Option (Unit × St) :=
  lo3 FU (fun rec4 (s1 : St) (x2 : Int32) (x3 : Int32) =>
    calP (f_X3_places s1) fun r6 =>
      (if x3 < r6 then
        (if x3 < (8 : Int32) then
          lo2 FU (fun rec9 (x7 : Int32) (x8 : Int32) =>
            calP (f_X3_places s1) fun r11 =>
              jn0 (fun jk12 =>
                (if x8 < r11 then
                  (if x7 = (-1 : Int32) then
                    calP (f_X9_has s1 x2 x8) fun r16 =>
                      (if r16 = 0 then
                        calP (f_X4_most s1 j x2 x8) fun r17 =>
                          ck (0 : Int32) 256 <|
                            (if (s1.1 (19 + 3 * j) (0 : Int32).toNatClampNeg) < r17 then
                              rec9 x7 (x8 + 1)
                               else
                              rec9 x8 (x8 + 1))
                         else
                        rec9 x7 (x8 + 1))
                     else
                    jk12)
                   else
                  jk12))
                (
                ck x3 8 <|
                    bd (setI s1 (20 + 3 * j) x3.toNatClampNeg x7) fun s13 =>
                      (if x7 = (-1 : Int32) then
                        bd (x2 ||| (0 : Int32)) fun x14 =>
                          rec4 s13 x14 (x3 + 1)
                         else
                        bd (x2 ||| ((1 : Int32) <<< (x7 &&& 31))) fun x15 =>
                          rec4 s13 x15 (x3 + 1)))) (-1 : Int32) (0 : Int32)
           else
          some ((), s1))
         else
        some ((), s1))) σ (0 : Int32) (0 : Int32)
set_option maxHeartbeats 4000000 in
set_option maxRecDepth 100000 in
theorem c_X4_choose (l : Launch) (E : Ev) (hF : Full E) (σ : St) (j : Nat) (hj : j < 2) : Ctr l (en2 enV) (fun q => q.2) E md_X4_choose [rV E (18 + 3 * j)] σ (f_X4_choose σ j) := by
  refine ctr_of rfl (Nat.le_of_ble_eq_true rfl) (fun Γ => ?_)
  show Sim _ Γ _ E md_X4_choose σ 0 [(0, rV E (18 + 3 * j))] [] _
  unfold f_X4_choose
  refine s_iconst (v := 0) dX4_choose_0 (by decide) ?_
  refine s_istore_n [(1, .int (0 : Int32)), (0, rV E (18 + 3 * j))] dX4_choose_1 rfl (by decide) rfl ?_
  refine s_iconst (v := 0) dX4_choose_2 (by decide) ?_
  refine s_istore_n [(2, .int (0 : Int32)), (1, .int (0 : Int32)), (0, rV E (18 + 3 * j))] dX4_choose_3 rfl (by decide) rfl ?_
  refine s_sub (lv' := [(0, rV E (18 + 3 * j)), (1, .int (0 : Int32)), (2, .int (0 : Int32))]) [2, 1, 0] rfl ?_
  refine s_lo3 (σf := fun s1 x2 x3 => s1) (lvf := fun s1 x2 x3 => [(0, rV E (18 + 3 * j)), (1, .int x2), (2, .int x3)]) (fun rec4 ih5 s1 x2 x3 => ?_)
  refine s_iload_n dX4_choose_4 2 rfl rfl ?_
  refine s_aload_n dX4_choose_5 0 rfl rfl ?_
  refine s_getr (b := 1) gf_X4_18 rfl (mO hF hj) (kO hj) (ft_of (kO hj) rfl) (hF.2 _ _) (rO0 hj) dX4_choose_6 ?_
  refine s_callVpI (As := []) mf_X3_places vf_X3_places ml_X4_52 (c_X3_places _ E hF s1) (m1 hF) k1 (by decide) rfl rfl rfl rfl (Nat.le_of_ble_eq_true rfl) rfl dX4_choose_9 (fun r6 => ?_)
  refine s_icmp_ge 105 dX4_choose_12 (by decide) ?_ ?_
  · skip
    refine s_iload_n dX4_choose_15 2 rfl rfl ?_
    refine s_bipush (v := 8) dX4_choose_16 (by decide) ?_
    refine s_icmp_ge 105 dX4_choose_18 (by decide) ?_ ?_
    · skip
      refine s_iconst (v := -1) dX4_choose_21 (by decide) ?_
      refine s_istore_n [(3, .int (-1 : Int32)), (0, rV E (18 + 3 * j)), (1, .int x2), (2, .int x3)] dX4_choose_22 rfl (by decide) rfl ?_
      refine s_iconst (v := 0) dX4_choose_23 (by decide) ?_
      refine s_istore [(4, .int (0 : Int32)), (3, .int (-1 : Int32)), (0, rV E (18 + 3 * j)), (1, .int x2), (2, .int x3)] dX4_choose_24 (by decide) rfl ?_
      refine s_sub (lv' := [(0, rV E (18 + 3 * j)), (1, .int x2), (2, .int x3), (3, .int (-1 : Int32)), (4, .int (0 : Int32))]) [2, 3, 4, 1, 0] rfl ?_
      refine s_lo2 (σf := fun x7 x8 => s1) (lvf := fun x7 x8 => [(0, rV E (18 + 3 * j)), (1, .int x2), (2, .int x3), (3, .int x7), (4, .int x8)]) (fun rec9 ih10 x7 x8 => ?_)
      refine s_iload dX4_choose_26 4 rfl ?_
      refine s_aload_n dX4_choose_28 0 rfl rfl ?_
      refine s_getr (b := 1) gf_X4_18 rfl (mO hF hj) (kO hj) (ft_of (kO hj) rfl) (hF.2 _ _) (rO0 hj) dX4_choose_29 ?_
      refine s_callVpI (As := []) mf_X3_places vf_X3_places ml_X4_52 (c_X3_places _ E hF s1) (m1 hF) k1 (by decide) rfl rfl rfl rfl (Nat.le_of_ble_eq_true rfl) rfl dX4_choose_32 (fun r11 => ?_)
      refine s_jn0 s1 77 [(0, rV E (18 + 3 * j)), (1, .int x2), (2, .int x3), (3, .int x7)] [] ?_ ?_
      · skip
        refine s_aload_n dX4_choose_77 0 rfl rfl ?_
        refine s_getr (b := (20 + 3 * j)) gf_X4_15 rfl (mO hF hj) (kO hj) (ft_of (kO hj) rfl) (hF.2 _ _) (rO3 hj) dX4_choose_78 ?_
        refine s_iload_n dX4_choose_81 2 rfl rfl ?_
        refine s_iload_n dX4_choose_82 3 rfl rfl ?_
        refine s_iast (mO2 hF hj) (kO2 hj) (lO2 hj) dX4_choose_83 (fun s13 => ?_)
        refine s_iload_n dX4_choose_84 1 rfl rfl ?_
        refine s_iload_n dX4_choose_85 3 rfl rfl ?_
        refine s_iconst (v := -1) dX4_choose_86 (by decide) ?_
        refine s_icmp_ne 94 dX4_choose_87 (by decide) ?_ ?_
        · skip
          refine s_iconst (v := 0) dX4_choose_90 (by decide) ?_
          refine s_goto 97 dX4_choose_91 (by decide) ?_
          refine s_ior dX4_choose_97 ?_
          refine s_istore_nB (fun x14 => [(1, .int x14), (0, rV E (18 + 3 * j)), (2, .int x3), (3, .int x7)]) dX4_choose_98 rfl (by decide) (fun _ => rfl) (fun x14 => ?_)
          refine s_iinc [(2, .int (x3 + 1)), (1, .int x14), (0, rV E (18 + 3 * j)), (3, .int x7)] dX4_choose_99 2 rfl rfl (by decide) rfl ?_
          refine s_goto 4 dX4_choose_102 (by decide) ?_
          refine s_sub [2, 1, 0] rfl ?_
          exact ih5 s13 x14 (x3 + 1)
        · skip
          refine s_iconst (v := 1) dX4_choose_94 (by decide) ?_
          refine s_iload_n dX4_choose_95 3 rfl rfl ?_
          refine s_ishl dX4_choose_96 ?_
          refine s_ior dX4_choose_97 ?_
          refine s_istore_nB (fun x15 => [(1, .int x15), (0, rV E (18 + 3 * j)), (2, .int x3), (3, .int x7)]) dX4_choose_98 rfl (by decide) (fun _ => rfl) (fun x15 => ?_)
          refine s_iinc [(2, .int (x3 + 1)), (1, .int x15), (0, rV E (18 + 3 * j)), (3, .int x7)] dX4_choose_99 2 rfl rfl (by decide) rfl ?_
          refine s_goto 4 dX4_choose_102 (by decide) ?_
          refine s_sub [2, 1, 0] rfl ?_
          exact ih5 s13 x15 (x3 + 1)
      · intro jk12 hjk12
        refine s_icmp_ge 77 dX4_choose_35 (by decide) ?_ ?_
        · skip
          refine s_iload_n dX4_choose_38 3 rfl rfl ?_
          refine s_iconst (v := -1) dX4_choose_39 (by decide) ?_
          refine s_icmp_ne 77 dX4_choose_40 (by decide) ?_ ?_
          · skip
            refine s_iload_n dX4_choose_43 1 rfl rfl ?_
            refine s_iload dX4_choose_44 4 rfl ?_
            refine s_callNpI (As := [.int x2, .int x8]) (host := "RunnerNet") mf_X9_has vf_X9_has (nl_of 6 rfl) (c_X9_has _ E hF s1 x2 x8) rfl rfl (Nat.le_of_ble_eq_true rfl) rfl dX4_choose_46 (fun r16 => ?_)
            refine s_if_ne 71 dX4_choose_49 (by decide) ?_ ?_
            · skip
              refine s_aload_n dX4_choose_52 0 rfl rfl ?_
              refine s_iload_n dX4_choose_53 1 rfl rfl ?_
              refine s_iload dX4_choose_54 4 rfl ?_
              refine s_callVpI (As := [.int x2, .int x8]) mf_X4_most vf_X4_most ml_X4_59 (c_X4_most _ E hF s1 j hj x2 x8) (mO hF hj) (kO hj) (by decide) rfl rfl rfl rfl (Nat.le_of_ble_eq_true rfl) rfl dX4_choose_56 (fun r17 => ?_)
              refine s_aload_n dX4_choose_59 0 rfl rfl ?_
              refine s_getr (b := (19 + 3 * j)) gf_X4_9 rfl (mO hF hj) (kO hj) (ft_of (kO hj) rfl) (hF.2 _ _) (rO2 hj) dX4_choose_60 ?_
              refine s_iconst (v := 0) dX4_choose_63 (by decide) ?_
              refine s_iald (mO1 hF hj) (kO1 hj) (lO1 hj) dX4_choose_64 ?_
              refine s_icmp_gt 71 dX4_choose_65 (by decide) ?_ ?_
              · skip
                refine s_iinc [(4, .int (x8 + 1)), (0, rV E (18 + 3 * j)), (1, .int x2), (2, .int x3), (3, .int x7)] dX4_choose_71 4 rfl rfl (by decide) rfl ?_
                refine s_goto 26 dX4_choose_74 (by decide) ?_
                refine s_sub [1, 2, 3, 4, 0] rfl ?_
                exact ih10 x7 (x8 + 1)
              · skip
                refine s_iload dX4_choose_68 4 rfl ?_
                refine s_istore_n [(3, .int x8), (0, rV E (18 + 3 * j)), (1, .int x2), (2, .int x3), (4, .int x8)] dX4_choose_70 rfl (by decide) rfl ?_
                refine s_iinc [(4, .int (x8 + 1)), (3, .int x8), (0, rV E (18 + 3 * j)), (1, .int x2), (2, .int x3)] dX4_choose_71 4 rfl rfl (by decide) rfl ?_
                refine s_goto 26 dX4_choose_74 (by decide) ?_
                refine s_sub [2, 3, 4, 1, 0] rfl ?_
                exact ih10 x8 (x8 + 1)
            · skip
              refine s_iinc [(4, .int (x8 + 1)), (0, rV E (18 + 3 * j)), (1, .int x2), (2, .int x3), (3, .int x7)] dX4_choose_71 4 rfl rfl (by decide) rfl ?_
              refine s_goto 26 dX4_choose_74 (by decide) ?_
              refine s_sub [1, 2, 3, 4, 0] rfl ?_
              exact ih10 x7 (x8 + 1)
          · skip
            refine s_sub [0, 1, 2, 3] rfl ?_
            exact hjk12
        · skip
          refine s_sub [0, 1, 2, 3] rfl ?_
          exact hjk12
    · skip
      exact s_return rfl rfl rfl dX4_choose_105
  · skip
    exact s_return rfl rfl rfl dX4_choose_105
theorem dX4_solve_0 : decode cX4_solve 0 = .ok (.aload_n 0, 1) := by decide +kernel
theorem dX4_solve_1 : decode cX4_solve 1 = .ok (.getfield 26, 3) := by decide +kernel
theorem dX4_solve_4 : decode cX4_solve 4 = .ok (.aload_n 0, 1) := by decide +kernel
theorem dX4_solve_5 : decode cX4_solve 5 = .ok (.getfield 18, 3) := by decide +kernel
theorem dX4_solve_8 : decode cX4_solve 8 = .ok (.invokevirtual 39, 3) := by decide +kernel
theorem dX4_solve_11 : decode cX4_solve 11 = .ok (.if_icmp .ne 4, 3) := by decide +kernel
theorem dX4_solve_14 : decode cX4_solve 14 = .ok (.return_, 1) := by decide +kernel
theorem dX4_solve_15 : decode cX4_solve 15 = .ok (.aload_n 0, 1) := by decide +kernel
theorem dX4_solve_16 : decode cX4_solve 16 = .ok (.aload_n 0, 1) := by decide +kernel
theorem dX4_solve_17 : decode cX4_solve 17 = .ok (.getfield 18, 3) := by decide +kernel
theorem dX4_solve_20 : decode cX4_solve 20 = .ok (.invokevirtual 39, 3) := by decide +kernel
theorem dX4_solve_23 : decode cX4_solve 23 = .ok (.putfield 26, 3) := by decide +kernel
theorem dX4_solve_26 : decode cX4_solve 26 = .ok (.aload_n 0, 1) := by decide +kernel
theorem dX4_solve_27 : decode cX4_solve 27 = .ok (.getfield 18, 3) := by decide +kernel
theorem dX4_solve_30 : decode cX4_solve 30 = .ok (.invokevirtual 43, 3) := by decide +kernel
theorem dX4_solve_33 : decode cX4_solve 33 = .ok (.istore_n 1, 1) := by decide +kernel
theorem dX4_solve_34 : decode cX4_solve 34 = .ok (.iload_n 1, 1) := by decide +kernel
theorem dX4_solve_35 : decode cX4_solve 35 = .ok (.sipush 255, 3) := by decide +kernel
theorem dX4_solve_38 : decode cX4_solve 38 = .ok (.invokestatic 46, 3) := by decide +kernel
theorem dX4_solve_41 : decode cX4_solve 41 = .ok (.istore_n 2, 1) := by decide +kernel
theorem dX4_solve_42 : decode cX4_solve 42 = .ok (.iload_n 2, 1) := by decide +kernel
theorem dX4_solve_43 : decode cX4_solve 43 = .ok (.ifCond .lt 70, 3) := by decide +kernel
theorem dX4_solve_46 : decode cX4_solve 46 = .ok (.iload_n 2, 1) := by decide +kernel
theorem dX4_solve_47 : decode cX4_solve 47 = .ok (.iload_n 1, 1) := by decide +kernel
theorem dX4_solve_48 : decode cX4_solve 48 = .ok (.if_icmp .ne 7, 3) := by decide +kernel
theorem dX4_solve_51 : decode cX4_solve 51 = .ok (.iconst 0, 1) := by decide +kernel
theorem dX4_solve_52 : decode cX4_solve 52 = .ok (.goto 5, 3) := by decide +kernel
theorem dX4_solve_55 : decode cX4_solve 55 = .ok (.bipush 8, 2) := by decide +kernel
theorem dX4_solve_57 : decode cX4_solve 57 = .ok (.istore_n 3, 1) := by decide +kernel
theorem dX4_solve_58 : decode cX4_solve 58 = .ok (.iconst 0, 1) := by decide +kernel
theorem dX4_solve_59 : decode cX4_solve 59 = .ok (.istore 4, 2) := by decide +kernel
theorem dX4_solve_61 : decode cX4_solve 61 = .ok (.iload 4, 2) := by decide +kernel
theorem dX4_solve_63 : decode cX4_solve 63 = .ok (.aload_n 0, 1) := by decide +kernel
theorem dX4_solve_64 : decode cX4_solve 64 = .ok (.getfield 18, 3) := by decide +kernel
theorem dX4_solve_67 : decode cX4_solve 67 = .ok (.invokevirtual 52, 3) := by decide +kernel
theorem dX4_solve_70 : decode cX4_solve 70 = .ok (.if_icmp .ge 30, 3) := by decide +kernel
theorem dX4_solve_73 : decode cX4_solve 73 = .ok (.iload_n 2, 1) := by decide +kernel
theorem dX4_solve_74 : decode cX4_solve 74 = .ok (.iload 4, 2) := by decide +kernel
theorem dX4_solve_76 : decode cX4_solve 76 = .ok (.invokestatic 55, 3) := by decide +kernel
theorem dX4_solve_79 : decode cX4_solve 79 = .ok (.ifCond .ne 15, 3) := by decide +kernel
theorem dX4_solve_82 : decode cX4_solve 82 = .ok (.iload_n 3, 1) := by decide +kernel
theorem dX4_solve_83 : decode cX4_solve 83 = .ok (.aload_n 0, 1) := by decide +kernel
theorem dX4_solve_84 : decode cX4_solve 84 = .ok (.iload_n 2, 1) := by decide +kernel
theorem dX4_solve_85 : decode cX4_solve 85 = .ok (.iload 4, 2) := by decide +kernel
theorem dX4_solve_87 : decode cX4_solve 87 = .ok (.invokevirtual 59, 3) := by decide +kernel
theorem dX4_solve_90 : decode cX4_solve 90 = .ok (.invokestatic 46, 3) := by decide +kernel
theorem dX4_solve_93 : decode cX4_solve 93 = .ok (.istore_n 3, 1) := by decide +kernel
theorem dX4_solve_94 : decode cX4_solve 94 = .ok (.iinc 4 1, 3) := by decide +kernel
theorem dX4_solve_97 : decode cX4_solve 97 = .ok (.goto (-36), 3) := by decide +kernel
theorem dX4_solve_100 : decode cX4_solve 100 = .ok (.aload_n 0, 1) := by decide +kernel
theorem dX4_solve_101 : decode cX4_solve 101 = .ok (.getfield 9, 3) := by decide +kernel
theorem dX4_solve_104 : decode cX4_solve 104 = .ok (.iload_n 2, 1) := by decide +kernel
theorem dX4_solve_105 : decode cX4_solve 105 = .ok (.iload_n 3, 1) := by decide +kernel
theorem dX4_solve_106 : decode cX4_solve 106 = .ok (.iastore, 1) := by decide +kernel
theorem dX4_solve_107 : decode cX4_solve 107 = .ok (.iinc 2 (-1), 3) := by decide +kernel
theorem dX4_solve_110 : decode cX4_solve 110 = .ok (.goto (-68), 3) := by decide +kernel
theorem dX4_solve_113 : decode cX4_solve 113 = .ok (.aload_n 0, 1) := by decide +kernel
theorem dX4_solve_114 : decode cX4_solve 114 = .ok (.invokevirtual 62, 3) := by decide +kernel
theorem dX4_solve_117 : decode cX4_solve 117 = .ok (.return_, 1) := by decide +kernel
def f_X4_solve (σ : St) (j : Nat) : Option (Unit × St) :=
  calP (f_X3_changes σ) fun r1 =>
    (if (σ.1 (18 + 3 * j) 4) = r1 then
      some ((), σ)
       else
      calP (f_X3_changes σ) fun r2 =>
        bd (setI σ (18 + 3 * j) 4 r2) fun s3 =>
          calP (f_X3_all s3) fun r4 =>
            bd (if (255 : Int32) < r4 then (255 : Int32) else r4) fun x5 =>
              lo2 FU (fun rec8 (s6 : St) (x7 : Int32) =>
                (if x7 < 0 then
                  cal (f_X4_choose s6 j) fun _ s10 =>
                    some ((), s10)
                   else
                  bd (if x7 = r4 then (0 : Int32) else (8 : Int32)) fun x11 =>
                    lo2 FU (fun rec15 (x13 : Int32) (x14 : Int32) =>
                      calP (f_X3_places s6) fun r17 =>
                        (if x14 < r17 then
                          calP (f_X9_has s6 x7 x14) fun r18 =>
                            (if r18 = 0 then
                              calP (f_X4_most s6 j x7 x14) fun r19 =>
                                bd (if r19 < x13 then r19 else x13) fun x20 =>
                                  rec15 x20 (x14 + 1)
                               else
                              rec15 x13 (x14 + 1))
                           else
                          ck x7 256 <|
                            bd (setI s6 (19 + 3 * j) x7.toNatClampNeg x13) fun s21 =>
                              rec8 s21 (x7 + (-1)))) x11 (0 : Int32))) s3 x5)
set_option maxHeartbeats 4000000 in
set_option maxRecDepth 100000 in
theorem c_X4_solve (l : Launch) (E : Ev) (hF : Full E) (σ : St) (j : Nat) (hj : j < 2) : Ctr l (en2 enV) (fun q => q.2) E md_X4_solve [rV E (18 + 3 * j)] σ (f_X4_solve σ j) := by
  refine ctr_of rfl (Nat.le_of_ble_eq_true rfl) (fun Γ => ?_)
  show Sim _ Γ _ E md_X4_solve σ 0 [(0, rV E (18 + 3 * j))] [] _
  unfold f_X4_solve
  refine s_aload_n dX4_solve_0 0 rfl rfl ?_
  refine s_geti gf_X4_26 rfl (mO hF hj) (kO hj) (ft_of (kO hj) rfl) dX4_solve_1 ?_
  refine s_aload_n dX4_solve_4 0 rfl rfl ?_
  refine s_getr (b := 1) gf_X4_18 rfl (mO hF hj) (kO hj) (ft_of (kO hj) rfl) (hF.2 _ _) (rO0 hj) dX4_solve_5 ?_
  refine s_callVpI (As := []) mf_X3_changes vf_X3_changes ml_X4_39 (c_X3_changes _ E hF σ) (m1 hF) k1 (by decide) rfl rfl rfl rfl (Nat.le_of_ble_eq_true rfl) rfl dX4_solve_8 (fun r1 => ?_)
  refine s_icmp_ne 15 dX4_solve_11 (by decide) ?_ ?_
  · skip
    exact s_return rfl rfl rfl dX4_solve_14
  · skip
    refine s_aload_n dX4_solve_15 0 rfl rfl ?_
    refine s_aload_n dX4_solve_16 0 rfl rfl ?_
    refine s_getr (b := 1) gf_X4_18 rfl (mO hF hj) (kO hj) (ft_of (kO hj) rfl) (hF.2 _ _) (rO0 hj) dX4_solve_17 ?_
    refine s_callVpI (As := []) mf_X3_changes vf_X3_changes ml_X4_39 (c_X3_changes _ E hF σ) (m1 hF) k1 (by decide) rfl rfl rfl rfl (Nat.le_of_ble_eq_true rfl) rfl dX4_solve_20 (fun r2 => ?_)
    refine s_puti gf_X4_26 rfl (mO hF hj) (kO hj) (ft_of (kO hj) rfl) dX4_solve_23 (fun s3 => ?_)
    refine s_aload_n dX4_solve_26 0 rfl rfl ?_
    refine s_getr (b := 1) gf_X4_18 rfl (mO hF hj) (kO hj) (ft_of (kO hj) rfl) (hF.2 _ _) (rO0 hj) dX4_solve_27 ?_
    refine s_callVpI (As := []) mf_X3_all vf_X3_all ml_X4_43 (c_X3_all _ E hF s3) (m1 hF) k1 (by decide) rfl rfl rfl rfl (Nat.le_of_ble_eq_true rfl) rfl dX4_solve_30 (fun r4 => ?_)
    refine s_istore_n [(1, .int r4), (0, rV E (18 + 3 * j))] dX4_solve_33 rfl (by decide) rfl ?_
    refine s_iload_n dX4_solve_34 0 rfl rfl ?_
    refine s_sipush (v := 255) dX4_solve_35 (by decide) ?_
    refine s_mmin ml_X4_46 rfl dX4_solve_38 ?_
    refine s_istore_nB (fun x5 => [(2, .int x5), (1, .int r4), (0, rV E (18 + 3 * j))]) dX4_solve_41 rfl (by decide) (fun _ => rfl) (fun x5 => ?_)
    refine s_sub (lv' := [(0, rV E (18 + 3 * j)), (1, .int r4), (2, .int x5)]) [2, 1, 0] rfl ?_
    refine s_lo2 (σf := fun s6 x7 => s6) (lvf := fun s6 x7 => [(0, rV E (18 + 3 * j)), (1, .int r4), (2, .int x7)]) (fun rec8 ih9 s6 x7 => ?_)
    refine s_iload_n dX4_solve_42 2 rfl rfl ?_
    refine s_if_lt 113 dX4_solve_43 (by decide) ?_ ?_
    · skip
      refine s_aload_n dX4_solve_113 0 rfl rfl ?_
      refine s_callVwV (As := []) mf_X4_choose vf_X4_choose ml_X4_62 (c_X4_choose _ E hF s6 j hj) (mO hF hj) (kO hj) (by decide) rfl rfl rfl rfl (Nat.le_of_ble_eq_true rfl) rfl dX4_solve_114 (fun _ s10 => ?_)
      exact s_return rfl rfl rfl dX4_solve_117
    · skip
      refine s_iload_n dX4_solve_46 2 rfl rfl ?_
      refine s_iload_n dX4_solve_47 1 rfl rfl ?_
      refine s_bd 57 (fun x11 => [(0, rV E (18 + 3 * j)), (1, .int r4), (2, .int x7)]) (fun x11 => [.int x11]) (fun jk12 => (if x7 = r4 then jk12 (0 : Int32) else jk12 (8 : Int32))) (fun jk12 => (j_ite rfl rfl)) ?_ ?_
      · intro x11
        refine s_istore_n [(3, .int x11), (0, rV E (18 + 3 * j)), (1, .int r4), (2, .int x7)] dX4_solve_57 rfl (by decide) rfl ?_
        refine s_iconst (v := 0) dX4_solve_58 (by decide) ?_
        refine s_istore [(4, .int (0 : Int32)), (3, .int x11), (0, rV E (18 + 3 * j)), (1, .int r4), (2, .int x7)] dX4_solve_59 (by decide) rfl ?_
        refine s_sub (lv' := [(0, rV E (18 + 3 * j)), (1, .int r4), (2, .int x7), (3, .int x11), (4, .int (0 : Int32))]) [2, 3, 4, 1, 0] rfl ?_
        refine s_lo2 (σf := fun x13 x14 => s6) (lvf := fun x13 x14 => [(0, rV E (18 + 3 * j)), (1, .int r4), (2, .int x7), (3, .int x13), (4, .int x14)]) (fun rec15 ih16 x13 x14 => ?_)
        refine s_iload dX4_solve_61 4 rfl ?_
        refine s_aload_n dX4_solve_63 0 rfl rfl ?_
        refine s_getr (b := 1) gf_X4_18 rfl (mO hF hj) (kO hj) (ft_of (kO hj) rfl) (hF.2 _ _) (rO0 hj) dX4_solve_64 ?_
        refine s_callVpI (As := []) mf_X3_places vf_X3_places ml_X4_52 (c_X3_places _ E hF s6) (m1 hF) k1 (by decide) rfl rfl rfl rfl (Nat.le_of_ble_eq_true rfl) rfl dX4_solve_67 (fun r17 => ?_)
        refine s_icmp_ge 100 dX4_solve_70 (by decide) ?_ ?_
        · skip
          refine s_iload_n dX4_solve_73 2 rfl rfl ?_
          refine s_iload dX4_solve_74 4 rfl ?_
          refine s_callNpI (As := [.int x7, .int x14]) (host := "RunnerNet") mf_X9_has vf_X9_has (nl_of 6 rfl) (c_X9_has _ E hF s6 x7 x14) rfl rfl (Nat.le_of_ble_eq_true rfl) rfl dX4_solve_76 (fun r18 => ?_)
          refine s_if_ne 94 dX4_solve_79 (by decide) ?_ ?_
          · skip
            refine s_iload_n dX4_solve_82 3 rfl rfl ?_
            refine s_aload_n dX4_solve_83 0 rfl rfl ?_
            refine s_iload_n dX4_solve_84 2 rfl rfl ?_
            refine s_iload dX4_solve_85 4 rfl ?_
            refine s_callVpI (As := [.int x7, .int x14]) mf_X4_most vf_X4_most ml_X4_59 (c_X4_most _ E hF s6 j hj x7 x14) (mO hF hj) (kO hj) (by decide) rfl rfl rfl rfl (Nat.le_of_ble_eq_true rfl) rfl dX4_solve_87 (fun r19 => ?_)
            refine s_mmin ml_X4_46 rfl dX4_solve_90 ?_
            refine s_istore_nB (fun x20 => [(3, .int x20), (0, rV E (18 + 3 * j)), (1, .int r4), (2, .int x7), (4, .int x14)]) dX4_solve_93 rfl (by decide) (fun _ => rfl) (fun x20 => ?_)
            refine s_iinc [(4, .int (x14 + 1)), (3, .int x20), (0, rV E (18 + 3 * j)), (1, .int r4), (2, .int x7)] dX4_solve_94 4 rfl rfl (by decide) rfl ?_
            refine s_goto 61 dX4_solve_97 (by decide) ?_
            refine s_sub [2, 3, 4, 1, 0] rfl ?_
            exact ih16 x20 (x14 + 1)
          · skip
            refine s_iinc [(4, .int (x14 + 1)), (0, rV E (18 + 3 * j)), (1, .int r4), (2, .int x7), (3, .int x13)] dX4_solve_94 4 rfl rfl (by decide) rfl ?_
            refine s_goto 61 dX4_solve_97 (by decide) ?_
            refine s_sub [1, 2, 3, 4, 0] rfl ?_
            exact ih16 x13 (x14 + 1)
        · skip
          refine s_aload_n dX4_solve_100 0 rfl rfl ?_
          refine s_getr (b := (19 + 3 * j)) gf_X4_9 rfl (mO hF hj) (kO hj) (ft_of (kO hj) rfl) (hF.2 _ _) (rO2 hj) dX4_solve_101 ?_
          refine s_iload_n dX4_solve_104 2 rfl rfl ?_
          refine s_iload_n dX4_solve_105 3 rfl rfl ?_
          refine s_iast (mO1 hF hj) (kO1 hj) (lO1 hj) dX4_solve_106 (fun s21 => ?_)
          refine s_iinc [(2, .int (x7 + (-1))), (0, rV E (18 + 3 * j)), (1, .int r4), (3, .int x13), (4, .int x14)] dX4_solve_107 2 rfl rfl (by decide) rfl ?_
          refine s_goto 42 dX4_solve_110 (by decide) ?_
          refine s_sub [1, 2, 0] rfl ?_
          exact ih9 s21 (x7 + (-1))
      · intro jk12 hjk12
        refine s_icmp_ne 55 dX4_solve_48 (by decide) ?_ ?_
        · skip
          refine s_iconst (v := 0) dX4_solve_51 (by decide) ?_
          refine s_goto 57 dX4_solve_52 (by decide) ?_
          exact hjk12 (0 : Int32)
        · skip
          refine s_bipush (v := 8) dX4_solve_55 (by decide) ?_
          exact hjk12 (8 : Int32)
theorem dX4_hunters_0 : decode cX4_hunters 0 = .ok (.aload_n 0, 1) := by decide +kernel
theorem dX4_hunters_1 : decode cX4_hunters 1 = .ok (.invokevirtual 30, 3) := by decide +kernel
theorem dX4_hunters_4 : decode cX4_hunters 4 = .ok (.aload_n 0, 1) := by decide +kernel
theorem dX4_hunters_5 : decode cX4_hunters 5 = .ok (.getfield 9, 3) := by decide +kernel
theorem dX4_hunters_8 : decode cX4_hunters 8 = .ok (.iconst 0, 1) := by decide +kernel
theorem dX4_hunters_9 : decode cX4_hunters 9 = .ok (.iaload, 1) := by decide +kernel
theorem dX4_hunters_10 : decode cX4_hunters 10 = .ok (.iconst 1, 1) := by decide +kernel
theorem dX4_hunters_11 : decode cX4_hunters 11 = .ok (.iadd, 1) := by decide +kernel
theorem dX4_hunters_12 : decode cX4_hunters 12 = .ok (.ireturn, 1) := by decide +kernel
def f_X4_hunters (σ : St) (j : Nat) : Option (Int32 × St) :=
  cal (f_X4_solve σ j) fun _ s1 =>
    ck (0 : Int32) 256 <|
      some (((s1.1 (19 + 3 * j) (0 : Int32).toNatClampNeg) + (1 : Int32)), s1)
set_option maxHeartbeats 4000000 in
set_option maxRecDepth 100000 in
theorem c_X4_hunters (l : Launch) (E : Ev) (hF : Full E) (σ : St) (j : Nat) (hj : j < 2) : Ctr l (en2 enI) (fun q => q.2) E md_X4_hunters [rV E (18 + 3 * j)] σ (f_X4_hunters σ j) := by
  refine ctr_of rfl (Nat.le_of_ble_eq_true rfl) (fun Γ => ?_)
  show Sim _ Γ _ E md_X4_hunters σ 0 [(0, rV E (18 + 3 * j))] [] _
  unfold f_X4_hunters
  refine s_aload_n dX4_hunters_0 0 rfl rfl ?_
  refine s_callVwV (As := []) mf_X4_solve vf_X4_solve ml_X4_30 (c_X4_solve _ E hF σ j hj) (mO hF hj) (kO hj) (by decide) rfl rfl rfl rfl (Nat.le_of_ble_eq_true rfl) rfl dX4_hunters_1 (fun _ s1 => ?_)
  refine s_aload_n dX4_hunters_4 0 rfl rfl ?_
  refine s_getr (b := (19 + 3 * j)) gf_X4_9 rfl (mO hF hj) (kO hj) (ft_of (kO hj) rfl) (hF.2 _ _) (rO2 hj) dX4_hunters_5 ?_
  refine s_iconst (v := 0) dX4_hunters_8 (by decide) ?_
  refine s_iald (mO1 hF hj) (kO1 hj) (lO1 hj) dX4_hunters_9 ?_
  refine s_iconst (v := 1) dX4_hunters_10 (by decide) ?_
  refine s_iadd dX4_hunters_11 ?_
  exact s_ireturn rfl rfl rfl dX4_hunters_12
theorem dX4_placeAt_0 : decode cX4_placeAt 0 = .ok (.aload_n 0, 1) := by decide +kernel
theorem dX4_placeAt_1 : decode cX4_placeAt 1 = .ok (.invokevirtual 30, 3) := by decide +kernel
theorem dX4_placeAt_4 : decode cX4_placeAt 4 = .ok (.aload_n 0, 1) := by decide +kernel
theorem dX4_placeAt_5 : decode cX4_placeAt 5 = .ok (.getfield 18, 3) := by decide +kernel
theorem dX4_placeAt_8 : decode cX4_placeAt 8 = .ok (.iload_n 1, 1) := by decide +kernel
theorem dX4_placeAt_9 : decode cX4_placeAt 9 = .ok (.invokevirtual 33, 3) := by decide +kernel
theorem dX4_placeAt_12 : decode cX4_placeAt 12 = .ok (.ifCond .eq 12, 3) := by decide +kernel
theorem dX4_placeAt_15 : decode cX4_placeAt 15 = .ok (.aload_n 0, 1) := by decide +kernel
theorem dX4_placeAt_16 : decode cX4_placeAt 16 = .ok (.getfield 15, 3) := by decide +kernel
theorem dX4_placeAt_19 : decode cX4_placeAt 19 = .ok (.iload_n 1, 1) := by decide +kernel
theorem dX4_placeAt_20 : decode cX4_placeAt 20 = .ok (.iaload, 1) := by decide +kernel
theorem dX4_placeAt_21 : decode cX4_placeAt 21 = .ok (.goto 4, 3) := by decide +kernel
theorem dX4_placeAt_24 : decode cX4_placeAt 24 = .ok (.iconst (-1), 1) := by decide +kernel
theorem dX4_placeAt_25 : decode cX4_placeAt 25 = .ok (.ireturn, 1) := by decide +kernel
def f_X4_placeAt (σ : St) (j : Nat) (v1 : Int32) : Option (Int32 × St) :=
  cal (f_X4_solve σ j) fun _ s1 =>
    calP (f_X3_known s1 v1) fun r2 =>
      (if r2 = 0 then
        some ((-1 : Int32), s1)
         else
        ck v1 8 <|
          some ((s1.1 (20 + 3 * j) v1.toNatClampNeg), s1))
set_option maxHeartbeats 4000000 in
set_option maxRecDepth 100000 in
theorem c_X4_placeAt (l : Launch) (E : Ev) (hF : Full E) (σ : St) (j : Nat) (hj : j < 2) (v1 : Int32) : Ctr l (en2 enI) (fun q => q.2) E md_X4_placeAt [rV E (18 + 3 * j), .int v1] σ (f_X4_placeAt σ j v1) := by
  refine ctr_of rfl (Nat.le_of_ble_eq_true rfl) (fun Γ => ?_)
  show Sim _ Γ _ E md_X4_placeAt σ 0 [(0, rV E (18 + 3 * j)), (1, .int v1)] [] _
  unfold f_X4_placeAt
  refine s_aload_n dX4_placeAt_0 0 rfl rfl ?_
  refine s_callVwV (As := []) mf_X4_solve vf_X4_solve ml_X4_30 (c_X4_solve _ E hF σ j hj) (mO hF hj) (kO hj) (by decide) rfl rfl rfl rfl (Nat.le_of_ble_eq_true rfl) rfl dX4_placeAt_1 (fun _ s1 => ?_)
  refine s_aload_n dX4_placeAt_4 0 rfl rfl ?_
  refine s_getr (b := 1) gf_X4_18 rfl (mO hF hj) (kO hj) (ft_of (kO hj) rfl) (hF.2 _ _) (rO0 hj) dX4_placeAt_5 ?_
  refine s_iload_n dX4_placeAt_8 1 rfl rfl ?_
  refine s_callVpI (As := [.int v1]) mf_X3_known vf_X3_known ml_X4_33 (c_X3_known _ E hF s1 v1) (m1 hF) k1 (by decide) rfl rfl rfl rfl (Nat.le_of_ble_eq_true rfl) rfl dX4_placeAt_9 (fun r2 => ?_)
  refine s_if_eq 24 dX4_placeAt_12 (by decide) ?_ ?_
  · skip
    refine s_iconst (v := -1) dX4_placeAt_24 (by decide) ?_
    exact s_ireturn rfl rfl rfl dX4_placeAt_25
  · skip
    refine s_aload_n dX4_placeAt_15 0 rfl rfl ?_
    refine s_getr (b := (20 + 3 * j)) gf_X4_15 rfl (mO hF hj) (kO hj) (ft_of (kO hj) rfl) (hF.2 _ _) (rO3 hj) dX4_placeAt_16 ?_
    refine s_iload_n dX4_placeAt_19 1 rfl rfl ?_
    refine s_iald (mO2 hF hj) (kO2 hj) (lO2 hj) dX4_placeAt_20 ?_
    refine s_goto 25 dX4_placeAt_21 (by decide) ?_
    exact s_ireturn rfl rfl rfl dX4_placeAt_25
theorem dX5_isOn_0 : decode cX5_isOn 0 = .ok (.aload_n 0, 1) := by decide +kernel
theorem dX5_isOn_1 : decode cX5_isOn 1 = .ok (.getfield 7, 3) := by decide +kernel
theorem dX5_isOn_4 : decode cX5_isOn 4 = .ok (.ireturn, 1) := by decide +kernel
def f_X5_isOn (σ : St) : Option Int32 :=
  ckZ (σ.1 13 0) <|
    some (σ.1 13 0)
set_option maxHeartbeats 4000000 in
set_option maxRecDepth 100000 in
theorem c_X5_isOn (l : Launch) (E : Ev) (hF : Full E) (σ : St) : Ctr l enI (fun _ => σ) E md_X5_isOn [rV E 13] σ (f_X5_isOn σ) := by
  refine ctr_of rfl (Nat.le_of_ble_eq_true rfl) (fun Γ => ?_)
  show Sim _ Γ _ E md_X5_isOn σ 0 [(0, rV E 13)] [] _
  unfold f_X5_isOn
  refine s_aload_n dX5_isOn_0 0 rfl rfl ?_
  refine s_geti gf_X5_7 rfl (m13 hF) k13 (ft_of k13 rfl) dX5_isOn_1 ?_
  refine s_ckZ (fun hz1 => ?_)
  exact s_zreturn rfl hz1 rfl rfl dX5_isOn_4
theorem dX5_hunters_0 : decode cX5_hunters 0 = .ok (.aload_n 0, 1) := by decide +kernel
theorem dX5_hunters_1 : decode cX5_hunters 1 = .ok (.getfield 13, 3) := by decide +kernel
theorem dX5_hunters_4 : decode cX5_hunters 4 = .ok (.ireturn, 1) := by decide +kernel
def f_X5_hunters (σ : St) : Option Int32 :=
  some (σ.1 13 1)
set_option maxHeartbeats 4000000 in
set_option maxRecDepth 100000 in
theorem c_X5_hunters (l : Launch) (E : Ev) (hF : Full E) (σ : St) : Ctr l enI (fun _ => σ) E md_X5_hunters [rV E 13] σ (f_X5_hunters σ) := by
  refine ctr_of rfl (Nat.le_of_ble_eq_true rfl) (fun Γ => ?_)
  show Sim _ Γ _ E md_X5_hunters σ 0 [(0, rV E 13)] [] _
  unfold f_X5_hunters
  refine s_aload_n dX5_hunters_0 0 rfl rfl ?_
  refine s_geti gf_X5_13 rfl (m13 hF) k13 (ft_of k13 rfl) dX5_hunters_1 ?_
  exact s_ireturn rfl rfl rfl dX5_hunters_4
theorem dX5_speed_0 : decode cX5_speed 0 = .ok (.aload_n 0, 1) := by decide +kernel
theorem dX5_speed_1 : decode cX5_speed 1 = .ok (.getfield 17, 3) := by decide +kernel
theorem dX5_speed_4 : decode cX5_speed 4 = .ok (.ireturn, 1) := by decide +kernel
def f_X5_speed (σ : St) : Option Int32 :=
  some (σ.1 13 2)
set_option maxHeartbeats 4000000 in
set_option maxRecDepth 100000 in
theorem c_X5_speed (l : Launch) (E : Ev) (hF : Full E) (σ : St) : Ctr l enI (fun _ => σ) E md_X5_speed [rV E 13] σ (f_X5_speed σ) := by
  refine ctr_of rfl (Nat.le_of_ble_eq_true rfl) (fun Γ => ?_)
  show Sim _ Γ _ E md_X5_speed σ 0 [(0, rV E 13)] [] _
  unfold f_X5_speed
  refine s_aload_n dX5_speed_0 0 rfl rfl ?_
  refine s_geti gf_X5_17 rfl (m13 hF) k13 (ft_of k13 rfl) dX5_speed_1 ?_
  exact s_ireturn rfl rfl rfl dX5_speed_4
theorem dX5_setting_0 : decode cX5_setting 0 = .ok (.aload_n 0, 1) := by decide +kernel
theorem dX5_setting_1 : decode cX5_setting 1 = .ok (.getfield 20, 3) := by decide +kernel
theorem dX5_setting_4 : decode cX5_setting 4 = .ok (.ireturn, 1) := by decide +kernel
def f_X5_setting (σ : St) : Option Int32 :=
  some (σ.1 13 3)
set_option maxHeartbeats 4000000 in
set_option maxRecDepth 100000 in
theorem c_X5_setting (l : Launch) (E : Ev) (hF : Full E) (σ : St) : Ctr l enI (fun _ => σ) E md_X5_setting [rV E 13] σ (f_X5_setting σ) := by
  refine ctr_of rfl (Nat.le_of_ble_eq_true rfl) (fun Γ => ?_)
  show Sim _ Γ _ E md_X5_setting σ 0 [(0, rV E 13)] [] _
  unfold f_X5_setting
  refine s_aload_n dX5_setting_0 0 rfl rfl ?_
  refine s_geti gf_X5_20 rfl (m13 hF) k13 (ft_of k13 rfl) dX5_setting_1 ?_
  exact s_ireturn rfl rfl rfl dX5_setting_4
theorem dX5_place_0 : decode cX5_place 0 = .ok (.aload_n 0, 1) := by decide +kernel
theorem dX5_place_1 : decode cX5_place 1 = .ok (.getfield 23, 3) := by decide +kernel
theorem dX5_place_4 : decode cX5_place 4 = .ok (.ireturn, 1) := by decide +kernel
def f_X5_place (σ : St) : Option Int32 :=
  some (σ.1 13 4)
set_option maxHeartbeats 4000000 in
set_option maxRecDepth 100000 in
theorem c_X5_place (l : Launch) (E : Ev) (hF : Full E) (σ : St) : Ctr l enI (fun _ => σ) E md_X5_place [rV E 13] σ (f_X5_place σ) := by
  refine ctr_of rfl (Nat.le_of_ble_eq_true rfl) (fun Γ => ?_)
  show Sim _ Γ _ E md_X5_place σ 0 [(0, rV E 13)] [] _
  unfold f_X5_place
  refine s_aload_n dX5_place_0 0 rfl rfl ?_
  refine s_geti gf_X5_23 rfl (m13 hF) k13 (ft_of k13 rfl) dX5_place_1 ?_
  exact s_ireturn rfl rfl rfl dX5_place_4
theorem dX5_gone_0 : decode cX5_gone 0 = .ok (.aload_n 0, 1) := by decide +kernel
theorem dX5_gone_1 : decode cX5_gone 1 = .ok (.getfield 26, 3) := by decide +kernel
theorem dX5_gone_4 : decode cX5_gone 4 = .ok (.ireturn, 1) := by decide +kernel
def f_X5_gone (σ : St) : Option Int32 :=
  some (σ.1 13 5)
set_option maxHeartbeats 4000000 in
set_option maxRecDepth 100000 in
theorem c_X5_gone (l : Launch) (E : Ev) (hF : Full E) (σ : St) : Ctr l enI (fun _ => σ) E md_X5_gone [rV E 13] σ (f_X5_gone σ) := by
  refine ctr_of rfl (Nat.le_of_ble_eq_true rfl) (fun Γ => ?_)
  show Sim _ Γ _ E md_X5_gone σ 0 [(0, rV E 13)] [] _
  unfold f_X5_gone
  refine s_aload_n dX5_gone_0 0 rfl rfl ?_
  refine s_geti gf_X5_26 rfl (m13 hF) k13 (ft_of k13 rfl) dX5_gone_1 ?_
  exact s_ireturn rfl rfl rfl dX5_gone_4
theorem dX5_begin_0 : decode cX5_begin 0 = .ok (.aload_n 0, 1) := by decide +kernel
theorem dX5_begin_1 : decode cX5_begin 1 = .ok (.iconst 1, 1) := by decide +kernel
theorem dX5_begin_2 : decode cX5_begin 2 = .ok (.putfield 7, 3) := by decide +kernel
theorem dX5_begin_5 : decode cX5_begin 5 = .ok (.aload_n 0, 1) := by decide +kernel
theorem dX5_begin_6 : decode cX5_begin 6 = .ok (.iload_n 1, 1) := by decide +kernel
theorem dX5_begin_7 : decode cX5_begin 7 = .ok (.putfield 13, 3) := by decide +kernel
theorem dX5_begin_10 : decode cX5_begin 10 = .ok (.aload_n 0, 1) := by decide +kernel
theorem dX5_begin_11 : decode cX5_begin 11 = .ok (.iload_n 2, 1) := by decide +kernel
theorem dX5_begin_12 : decode cX5_begin 12 = .ok (.putfield 17, 3) := by decide +kernel
theorem dX5_begin_15 : decode cX5_begin 15 = .ok (.aload_n 0, 1) := by decide +kernel
theorem dX5_begin_16 : decode cX5_begin 16 = .ok (.iload_n 3, 1) := by decide +kernel
theorem dX5_begin_17 : decode cX5_begin 17 = .ok (.putfield 20, 3) := by decide +kernel
theorem dX5_begin_20 : decode cX5_begin 20 = .ok (.aload_n 0, 1) := by decide +kernel
theorem dX5_begin_21 : decode cX5_begin 21 = .ok (.iload 4, 2) := by decide +kernel
theorem dX5_begin_23 : decode cX5_begin 23 = .ok (.putfield 23, 3) := by decide +kernel
theorem dX5_begin_26 : decode cX5_begin 26 = .ok (.aload_n 0, 1) := by decide +kernel
theorem dX5_begin_27 : decode cX5_begin 27 = .ok (.iconst 0, 1) := by decide +kernel
theorem dX5_begin_28 : decode cX5_begin 28 = .ok (.putfield 26, 3) := by decide +kernel
theorem dX5_begin_31 : decode cX5_begin 31 = .ok (.return_, 1) := by decide +kernel
def f_X5_begin (σ : St) (v1 : Int32) (v2 : Int32) (v3 : Int32) (v4 : Int32) : Option (Unit × St) :=
  bd (setI σ 13 0 (1 : Int32)) fun s1 =>
    bd (setI s1 13 1 v1) fun s2 =>
      bd (setI s2 13 2 v2) fun s3 =>
        bd (setI s3 13 3 v3) fun s4 =>
          bd (setI s4 13 4 v4) fun s5 =>
            bd (setI s5 13 5 (0 : Int32)) fun s6 =>
              some ((), s6)
set_option maxHeartbeats 4000000 in
set_option maxRecDepth 100000 in
theorem c_X5_begin (l : Launch) (E : Ev) (hF : Full E) (σ : St) (v1 : Int32) (v2 : Int32) (v3 : Int32) (v4 : Int32) : Ctr l (en2 enV) (fun q => q.2) E md_X5_begin [rV E 13, .int v1, .int v2, .int v3, .int v4] σ (f_X5_begin σ v1 v2 v3 v4) := by
  refine ctr_of rfl (Nat.le_of_ble_eq_true rfl) (fun Γ => ?_)
  show Sim _ Γ _ E md_X5_begin σ 0 [(0, rV E 13), (1, .int v1), (2, .int v2), (3, .int v3), (4, .int v4)] [] _
  unfold f_X5_begin
  refine s_aload_n dX5_begin_0 0 rfl rfl ?_
  refine s_iconst (v := 1) dX5_begin_1 (by decide) ?_
  refine s_putz gf_X5_7 rfl (m13 hF) k13 (ft_of k13 rfl) (by decide) dX5_begin_2 (fun s1 => ?_)
  refine s_aload_n dX5_begin_5 0 rfl rfl ?_
  refine s_iload_n dX5_begin_6 1 rfl rfl ?_
  refine s_puti gf_X5_13 rfl (m13 hF) k13 (ft_of k13 rfl) dX5_begin_7 (fun s2 => ?_)
  refine s_aload_n dX5_begin_10 0 rfl rfl ?_
  refine s_iload_n dX5_begin_11 2 rfl rfl ?_
  refine s_puti gf_X5_17 rfl (m13 hF) k13 (ft_of k13 rfl) dX5_begin_12 (fun s3 => ?_)
  refine s_aload_n dX5_begin_15 0 rfl rfl ?_
  refine s_iload_n dX5_begin_16 3 rfl rfl ?_
  refine s_puti gf_X5_20 rfl (m13 hF) k13 (ft_of k13 rfl) dX5_begin_17 (fun s4 => ?_)
  refine s_aload_n dX5_begin_20 0 rfl rfl ?_
  refine s_iload dX5_begin_21 4 rfl ?_
  refine s_puti gf_X5_23 rfl (m13 hF) k13 (ft_of k13 rfl) dX5_begin_23 (fun s5 => ?_)
  refine s_aload_n dX5_begin_26 0 rfl rfl ?_
  refine s_iconst (v := 0) dX5_begin_27 (by decide) ?_
  refine s_puti gf_X5_26 rfl (m13 hF) k13 (ft_of k13 rfl) dX5_begin_28 (fun s6 => ?_)
  exact s_return rfl rfl rfl dX5_begin_31
theorem dX5_go_0 : decode cX5_go 0 = .ok (.aload_n 0, 1) := by decide +kernel
theorem dX5_go_1 : decode cX5_go 1 = .ok (.iload_n 1, 1) := by decide +kernel
theorem dX5_go_2 : decode cX5_go 2 = .ok (.putfield 20, 3) := by decide +kernel
theorem dX5_go_5 : decode cX5_go 5 = .ok (.aload_n 0, 1) := by decide +kernel
theorem dX5_go_6 : decode cX5_go 6 = .ok (.iload_n 2, 1) := by decide +kernel
theorem dX5_go_7 : decode cX5_go 7 = .ok (.putfield 23, 3) := by decide +kernel
theorem dX5_go_10 : decode cX5_go 10 = .ok (.aload_n 0, 1) := by decide +kernel
theorem dX5_go_11 : decode cX5_go 11 = .ok (.dup, 1) := by decide +kernel
theorem dX5_go_12 : decode cX5_go 12 = .ok (.getfield 26, 3) := by decide +kernel
theorem dX5_go_15 : decode cX5_go 15 = .ok (.iconst 1, 1) := by decide +kernel
theorem dX5_go_16 : decode cX5_go 16 = .ok (.iadd, 1) := by decide +kernel
theorem dX5_go_17 : decode cX5_go 17 = .ok (.putfield 26, 3) := by decide +kernel
theorem dX5_go_20 : decode cX5_go 20 = .ok (.return_, 1) := by decide +kernel
def f_X5_go (σ : St) (v1 : Int32) (v2 : Int32) : Option (Unit × St) :=
  bd (setI σ 13 3 v1) fun s1 =>
    bd (setI s1 13 4 v2) fun s2 =>
      bd (setI s2 13 5 ((s2.1 13 5) + (1 : Int32))) fun s3 =>
        some ((), s3)
set_option maxHeartbeats 4000000 in
set_option maxRecDepth 100000 in
theorem c_X5_go (l : Launch) (E : Ev) (hF : Full E) (σ : St) (v1 : Int32) (v2 : Int32) : Ctr l (en2 enV) (fun q => q.2) E md_X5_go [rV E 13, .int v1, .int v2] σ (f_X5_go σ v1 v2) := by
  refine ctr_of rfl (Nat.le_of_ble_eq_true rfl) (fun Γ => ?_)
  show Sim _ Γ _ E md_X5_go σ 0 [(0, rV E 13), (1, .int v1), (2, .int v2)] [] _
  unfold f_X5_go
  refine s_aload_n dX5_go_0 0 rfl rfl ?_
  refine s_iload_n dX5_go_1 1 rfl rfl ?_
  refine s_puti gf_X5_20 rfl (m13 hF) k13 (ft_of k13 rfl) dX5_go_2 (fun s1 => ?_)
  refine s_aload_n dX5_go_5 0 rfl rfl ?_
  refine s_iload_n dX5_go_6 2 rfl rfl ?_
  refine s_puti gf_X5_23 rfl (m13 hF) k13 (ft_of k13 rfl) dX5_go_7 (fun s2 => ?_)
  refine s_aload_n dX5_go_10 0 rfl rfl ?_
  refine s_dup dX5_go_11 rfl ?_
  refine s_geti gf_X5_26 rfl (m13 hF) k13 (ft_of k13 rfl) dX5_go_12 ?_
  refine s_iconst (v := 1) dX5_go_15 (by decide) ?_
  refine s_iadd dX5_go_16 ?_
  refine s_puti gf_X5_26 rfl (m13 hF) k13 (ft_of k13 rfl) dX5_go_17 (fun s3 => ?_)
  exact s_return rfl rfl rfl dX5_go_20
theorem dX5_end_0 : decode cX5_end 0 = .ok (.aload_n 0, 1) := by decide +kernel
theorem dX5_end_1 : decode cX5_end 1 = .ok (.iconst 0, 1) := by decide +kernel
theorem dX5_end_2 : decode cX5_end 2 = .ok (.putfield 7, 3) := by decide +kernel
theorem dX5_end_5 : decode cX5_end 5 = .ok (.aload_n 0, 1) := by decide +kernel
theorem dX5_end_6 : decode cX5_end 6 = .ok (.iconst 0, 1) := by decide +kernel
theorem dX5_end_7 : decode cX5_end 7 = .ok (.putfield 26, 3) := by decide +kernel
theorem dX5_end_10 : decode cX5_end 10 = .ok (.return_, 1) := by decide +kernel
def f_X5_end (σ : St) : Option (Unit × St) :=
  bd (setI σ 13 0 (0 : Int32)) fun s1 =>
    bd (setI s1 13 5 (0 : Int32)) fun s2 =>
      some ((), s2)
set_option maxHeartbeats 4000000 in
set_option maxRecDepth 100000 in
theorem c_X5_end (l : Launch) (E : Ev) (hF : Full E) (σ : St) : Ctr l (en2 enV) (fun q => q.2) E md_X5_end [rV E 13] σ (f_X5_end σ) := by
  refine ctr_of rfl (Nat.le_of_ble_eq_true rfl) (fun Γ => ?_)
  show Sim _ Γ _ E md_X5_end σ 0 [(0, rV E 13)] [] _
  unfold f_X5_end
  refine s_aload_n dX5_end_0 0 rfl rfl ?_
  refine s_iconst (v := 0) dX5_end_1 (by decide) ?_
  refine s_putz gf_X5_7 rfl (m13 hF) k13 (ft_of k13 rfl) (by decide) dX5_end_2 (fun s1 => ?_)
  refine s_aload_n dX5_end_5 0 rfl rfl ?_
  refine s_iconst (v := 0) dX5_end_6 (by decide) ?_
  refine s_puti gf_X5_26 rfl (m13 hF) k13 (ft_of k13 rfl) dX5_end_7 (fun s2 => ?_)
  exact s_return rfl rfl rfl dX5_end_10
theorem dX6_hunters_0 : decode cX6_hunters 0 = .ok (.aload_n 0, 1) := by decide +kernel
theorem dX6_hunters_1 : decode cX6_hunters 1 = .ok (.getfield 15, 3) := by decide +kernel
theorem dX6_hunters_4 : decode cX6_hunters 4 = .ok (.ireturn, 1) := by decide +kernel
def f_X6_hunters (σ : St) (k : Nat) : Option Int32 :=
  some (σ.1 (32 + 2 * k) 1)
set_option maxHeartbeats 4000000 in
set_option maxRecDepth 100000 in
theorem c_X6_hunters (l : Launch) (E : Ev) (hF : Full E) (σ : St) (k : Nat) (hk : k < 3) : Ctr l enI (fun _ => σ) E md_X6_hunters [rV E (32 + 2 * k)] σ (f_X6_hunters σ k) := by
  refine ctr_of rfl (Nat.le_of_ble_eq_true rfl) (fun Γ => ?_)
  show Sim _ Γ _ E md_X6_hunters σ 0 [(0, rV E (32 + 2 * k))] [] _
  unfold f_X6_hunters
  refine s_aload_n dX6_hunters_0 0 rfl rfl ?_
  refine s_geti gf_X6_15 rfl (mS hF hk) (kS hk) (ft_of (kS hk) rfl) dX6_hunters_1 ?_
  exact s_ireturn rfl rfl rfl dX6_hunters_4
theorem dX6_size_0 : decode cX6_size 0 = .ok (.aload_n 0, 1) := by decide +kernel
theorem dX6_size_1 : decode cX6_size 1 = .ok (.getfield 19, 3) := by decide +kernel
theorem dX6_size_4 : decode cX6_size 4 = .ok (.ireturn, 1) := by decide +kernel
def f_X6_size (σ : St) (k : Nat) : Option Int32 :=
  some (σ.1 (32 + 2 * k) 2)
set_option maxHeartbeats 4000000 in
set_option maxRecDepth 100000 in
theorem c_X6_size (l : Launch) (E : Ev) (hF : Full E) (σ : St) (k : Nat) (hk : k < 3) : Ctr l enI (fun _ => σ) E md_X6_size [rV E (32 + 2 * k)] σ (f_X6_size σ k) := by
  refine ctr_of rfl (Nat.le_of_ble_eq_true rfl) (fun Γ => ?_)
  show Sim _ Γ _ E md_X6_size σ 0 [(0, rV E (32 + 2 * k))] [] _
  unfold f_X6_size
  refine s_aload_n dX6_size_0 0 rfl rfl ?_
  refine s_geti gf_X6_19 rfl (mS hF hk) (kS hk) (ft_of (kS hk) rfl) dX6_size_1 ?_
  exact s_ireturn rfl rfl rfl dX6_size_4
theorem dX6_figure_0 : decode cX6_figure 0 = .ok (.iload_n 1, 1) := by decide +kernel
theorem dX6_figure_1 : decode cX6_figure 1 = .ok (.iconst 3, 1) := by decide +kernel
theorem dX6_figure_2 : decode cX6_figure 2 = .ok (.aload_n 0, 1) := by decide +kernel
theorem dX6_figure_3 : decode cX6_figure 3 = .ok (.getfield 15, 3) := by decide +kernel
theorem dX6_figure_6 : decode cX6_figure 6 = .ok (.iconst 1, 1) := by decide +kernel
theorem dX6_figure_7 : decode cX6_figure 7 = .ok (.isub, 1) := by decide +kernel
theorem dX6_figure_8 : decode cX6_figure 8 = .ok (.iload_n 2, 1) := by decide +kernel
theorem dX6_figure_9 : decode cX6_figure 9 = .ok (.isub, 1) := by decide +kernel
theorem dX6_figure_10 : decode cX6_figure 10 = .ok (.imul, 1) := by decide +kernel
theorem dX6_figure_11 : decode cX6_figure 11 = .ok (.ishr, 1) := by decide +kernel
theorem dX6_figure_12 : decode cX6_figure 12 = .ok (.bipush 7, 2) := by decide +kernel
theorem dX6_figure_14 : decode cX6_figure 14 = .ok (.iand, 1) := by decide +kernel
theorem dX6_figure_15 : decode cX6_figure 15 = .ok (.ireturn, 1) := by decide +kernel
def f_X6_figure (σ : St) (k : Nat) (v1 : Int32) (v2 : Int32) : Option Int32 :=
  some ((v1 >>> (((3 : Int32) * (((σ.1 (32 + 2 * k) 1) - (1 : Int32)) - v2)) &&& 31)) &&& (7 : Int32))
set_option maxHeartbeats 4000000 in
set_option maxRecDepth 100000 in
theorem c_X6_figure (l : Launch) (E : Ev) (hF : Full E) (σ : St) (k : Nat) (hk : k < 3) (v1 : Int32) (v2 : Int32) : Ctr l enI (fun _ => σ) E md_X6_figure [rV E (32 + 2 * k), .int v1, .int v2] σ (f_X6_figure σ k v1 v2) := by
  refine ctr_of rfl (Nat.le_of_ble_eq_true rfl) (fun Γ => ?_)
  show Sim _ Γ _ E md_X6_figure σ 0 [(0, rV E (32 + 2 * k)), (1, .int v1), (2, .int v2)] [] _
  unfold f_X6_figure
  refine s_iload_n dX6_figure_0 1 rfl rfl ?_
  refine s_iconst (v := 3) dX6_figure_1 (by decide) ?_
  refine s_aload_n dX6_figure_2 0 rfl rfl ?_
  refine s_geti gf_X6_15 rfl (mS hF hk) (kS hk) (ft_of (kS hk) rfl) dX6_figure_3 ?_
  refine s_iconst (v := 1) dX6_figure_6 (by decide) ?_
  refine s_isub dX6_figure_7 ?_
  refine s_iload_n dX6_figure_8 2 rfl rfl ?_
  refine s_isub dX6_figure_9 ?_
  refine s_imul dX6_figure_10 ?_
  refine s_ishr dX6_figure_11 ?_
  refine s_bipush (v := 7) dX6_figure_12 (by decide) ?_
  refine s_iand dX6_figure_14 ?_
  exact s_ireturn rfl rfl rfl dX6_figure_15
theorem dX6_placesOf_0 : decode cX6_placesOf 0 = .ok (.iload_n 1, 1) := by decide +kernel
theorem dX6_placesOf_1 : decode cX6_placesOf 1 = .ok (.ifCond .lt 20, 3) := by decide +kernel
theorem dX6_placesOf_4 : decode cX6_placesOf 4 = .ok (.iload_n 1, 1) := by decide +kernel
theorem dX6_placesOf_5 : decode cX6_placesOf 5 = .ok (.aload_n 0, 1) := by decide +kernel
theorem dX6_placesOf_6 : decode cX6_placesOf 6 = .ok (.getfield 19, 3) := by decide +kernel
theorem dX6_placesOf_9 : decode cX6_placesOf 9 = .ok (.if_icmp .ge 12, 3) := by decide +kernel
theorem dX6_placesOf_12 : decode cX6_placesOf 12 = .ok (.aload_n 0, 1) := by decide +kernel
theorem dX6_placesOf_13 : decode cX6_placesOf 13 = .ok (.getfield 22, 3) := by decide +kernel
theorem dX6_placesOf_16 : decode cX6_placesOf 16 = .ok (.iload_n 1, 1) := by decide +kernel
theorem dX6_placesOf_17 : decode cX6_placesOf 17 = .ok (.iaload, 1) := by decide +kernel
theorem dX6_placesOf_18 : decode cX6_placesOf 18 = .ok (.goto 4, 3) := by decide +kernel
theorem dX6_placesOf_21 : decode cX6_placesOf 21 = .ok (.iconst 0, 1) := by decide +kernel
theorem dX6_placesOf_22 : decode cX6_placesOf 22 = .ok (.ireturn, 1) := by decide +kernel
def f_X6_placesOf (σ : St) (k : Nat) (v1 : Int32) : Option Int32 :=
  (if v1 < 0 then
    some (0 : Int32)
     else
    (if v1 < (σ.1 (32 + 2 * k) 2) then
      ck v1 (szS k) <|
        some (σ.1 (33 + 2 * k) v1.toNatClampNeg)
       else
      some (0 : Int32)))
set_option maxHeartbeats 4000000 in
set_option maxRecDepth 100000 in
theorem c_X6_placesOf (l : Launch) (E : Ev) (hF : Full E) (σ : St) (k : Nat) (hk : k < 3) (v1 : Int32) : Ctr l enI (fun _ => σ) E md_X6_placesOf [rV E (32 + 2 * k), .int v1] σ (f_X6_placesOf σ k v1) := by
  refine ctr_of rfl (Nat.le_of_ble_eq_true rfl) (fun Γ => ?_)
  show Sim _ Γ _ E md_X6_placesOf σ 0 [(0, rV E (32 + 2 * k)), (1, .int v1)] [] _
  unfold f_X6_placesOf
  refine s_iload_n dX6_placesOf_0 1 rfl rfl ?_
  refine s_if_lt 21 dX6_placesOf_1 (by decide) ?_ ?_
  · skip
    refine s_iconst (v := 0) dX6_placesOf_21 (by decide) ?_
    exact s_ireturn rfl rfl rfl dX6_placesOf_22
  · skip
    refine s_iload_n dX6_placesOf_4 1 rfl rfl ?_
    refine s_aload_n dX6_placesOf_5 0 rfl rfl ?_
    refine s_geti gf_X6_19 rfl (mS hF hk) (kS hk) (ft_of (kS hk) rfl) dX6_placesOf_6 ?_
    refine s_icmp_ge 21 dX6_placesOf_9 (by decide) ?_ ?_
    · skip
      refine s_aload_n dX6_placesOf_12 0 rfl rfl ?_
      refine s_getr (b := (33 + 2 * k)) gf_X6_22 rfl (mS hF hk) (kS hk) (ft_of (kS hk) rfl) (hF.2 _ _) (rS3 hk) dX6_placesOf_13 ?_
      refine s_iload_n dX6_placesOf_16 1 rfl rfl ?_
      refine s_iald (mSp hF hk) (kSp hk) (lSp hk) dX6_placesOf_17 ?_
      refine s_goto 22 dX6_placesOf_18 (by decide) ?_
      exact s_ireturn rfl rfl rfl dX6_placesOf_22
    · skip
      refine s_iconst (v := 0) dX6_placesOf_21 (by decide) ?_
      exact s_ireturn rfl rfl rfl dX6_placesOf_22
theorem dX6_holds_0 : decode cX6_holds 0 = .ok (.aload_n 0, 1) := by decide +kernel
theorem dX6_holds_1 : decode cX6_holds 1 = .ok (.iload_n 1, 1) := by decide +kernel
theorem dX6_holds_2 : decode cX6_holds 2 = .ok (.invokevirtual 30, 3) := by decide +kernel
theorem dX6_holds_5 : decode cX6_holds 5 = .ok (.iload_n 2, 1) := by decide +kernel
theorem dX6_holds_6 : decode cX6_holds 6 = .ok (.invokestatic 33, 3) := by decide +kernel
theorem dX6_holds_9 : decode cX6_holds 9 = .ok (.ireturn, 1) := by decide +kernel
def f_X6_holds (σ : St) (k : Nat) (v1 : Int32) (v2 : Int32) : Option Int32 :=
  calP (f_X6_placesOf σ k v1) fun r1 =>
    calP (f_X9_has σ r1 v2) fun r2 =>
      ckZ r2 <|
        some r2
set_option maxHeartbeats 4000000 in
set_option maxRecDepth 100000 in
theorem c_X6_holds (l : Launch) (E : Ev) (hF : Full E) (σ : St) (k : Nat) (hk : k < 3) (v1 : Int32) (v2 : Int32) : Ctr l enI (fun _ => σ) E md_X6_holds [rV E (32 + 2 * k), .int v1, .int v2] σ (f_X6_holds σ k v1 v2) := by
  refine ctr_of rfl (Nat.le_of_ble_eq_true rfl) (fun Γ => ?_)
  show Sim _ Γ _ E md_X6_holds σ 0 [(0, rV E (32 + 2 * k)), (1, .int v1), (2, .int v2)] [] _
  unfold f_X6_holds
  refine s_aload_n dX6_holds_0 0 rfl rfl ?_
  refine s_iload_n dX6_holds_1 1 rfl rfl ?_
  refine s_callVpI (As := [.int v1]) mf_X6_placesOf vf_X6_placesOf ml_X6_30 (c_X6_placesOf _ E hF σ k hk v1) (mS hF hk) (kS hk) (by decide) rfl rfl rfl rfl (Nat.le_of_ble_eq_true rfl) rfl dX6_holds_2 (fun r1 => ?_)
  refine s_iload_n dX6_holds_5 2 rfl rfl ?_
  refine s_callNpI (As := [.int r1, .int v2]) (host := "RunnerNet") mf_X9_has vf_X9_has (nl_of 4 rfl) (c_X9_has _ E hF σ r1 v2) rfl rfl (Nat.le_of_ble_eq_true rfl) rfl dX6_holds_6 (fun r2 => ?_)
  refine s_ckZ (fun hz3 => ?_)
  exact s_zreturn rfl hz3 rfl rfl dX6_holds_9
theorem dX6_isRow_0 : decode cX6_isRow 0 = .ok (.iload_n 1, 1) := by decide +kernel
theorem dX6_isRow_1 : decode cX6_isRow 1 = .ok (.ifCond .lt 34, 3) := by decide +kernel
theorem dX6_isRow_4 : decode cX6_isRow 4 = .ok (.iload_n 1, 1) := by decide +kernel
theorem dX6_isRow_5 : decode cX6_isRow 5 = .ok (.aload_n 0, 1) := by decide +kernel
theorem dX6_isRow_6 : decode cX6_isRow 6 = .ok (.getfield 19, 3) := by decide +kernel
theorem dX6_isRow_9 : decode cX6_isRow 9 = .ok (.if_icmp .ge 26, 3) := by decide +kernel
theorem dX6_isRow_12 : decode cX6_isRow 12 = .ok (.aload_n 0, 1) := by decide +kernel
theorem dX6_isRow_13 : decode cX6_isRow 13 = .ok (.getfield 22, 3) := by decide +kernel
theorem dX6_isRow_16 : decode cX6_isRow 16 = .ok (.iload_n 1, 1) := by decide +kernel
theorem dX6_isRow_17 : decode cX6_isRow 17 = .ok (.iaload, 1) := by decide +kernel
theorem dX6_isRow_18 : decode cX6_isRow 18 = .ok (.aload_n 0, 1) := by decide +kernel
theorem dX6_isRow_19 : decode cX6_isRow 19 = .ok (.getfield 9, 3) := by decide +kernel
theorem dX6_isRow_22 : decode cX6_isRow 22 = .ok (.invokevirtual 37, 3) := by decide +kernel
theorem dX6_isRow_25 : decode cX6_isRow 25 = .ok (.iconst (-1), 1) := by decide +kernel
theorem dX6_isRow_26 : decode cX6_isRow 26 = .ok (.ixor, 1) := by decide +kernel
theorem dX6_isRow_27 : decode cX6_isRow 27 = .ok (.iand, 1) := by decide +kernel
theorem dX6_isRow_28 : decode cX6_isRow 28 = .ok (.ifCond .ne 7, 3) := by decide +kernel
theorem dX6_isRow_31 : decode cX6_isRow 31 = .ok (.iconst 1, 1) := by decide +kernel
theorem dX6_isRow_32 : decode cX6_isRow 32 = .ok (.goto 4, 3) := by decide +kernel
theorem dX6_isRow_35 : decode cX6_isRow 35 = .ok (.iconst 0, 1) := by decide +kernel
theorem dX6_isRow_36 : decode cX6_isRow 36 = .ok (.ireturn, 1) := by decide +kernel
def f_X6_isRow (σ : St) (k : Nat) (v1 : Int32) : Option Int32 :=
  (if v1 < 0 then
    some (0 : Int32)
     else
    (if v1 < (σ.1 (32 + 2 * k) 2) then
      ck v1 (szS k) <|
        calP (f_X3_all σ) fun r1 =>
          (if ((σ.1 (33 + 2 * k) v1.toNatClampNeg) &&& (r1 ^^^ (-1 : Int32))) = 0 then
            some (1 : Int32)
             else
            some (0 : Int32))
       else
      some (0 : Int32)))
set_option maxHeartbeats 4000000 in
set_option maxRecDepth 100000 in
theorem c_X6_isRow (l : Launch) (E : Ev) (hF : Full E) (σ : St) (k : Nat) (hk : k < 3) (v1 : Int32) : Ctr l enI (fun _ => σ) E md_X6_isRow [rV E (32 + 2 * k), .int v1] σ (f_X6_isRow σ k v1) := by
  refine ctr_of rfl (Nat.le_of_ble_eq_true rfl) (fun Γ => ?_)
  show Sim _ Γ _ E md_X6_isRow σ 0 [(0, rV E (32 + 2 * k)), (1, .int v1)] [] _
  unfold f_X6_isRow
  refine s_iload_n dX6_isRow_0 1 rfl rfl ?_
  refine s_if_lt 35 dX6_isRow_1 (by decide) ?_ ?_
  · skip
    refine s_iconst (v := 0) dX6_isRow_35 (by decide) ?_
    exact s_zreturn rfl (by decide) rfl rfl dX6_isRow_36
  · skip
    refine s_iload_n dX6_isRow_4 1 rfl rfl ?_
    refine s_aload_n dX6_isRow_5 0 rfl rfl ?_
    refine s_geti gf_X6_19 rfl (mS hF hk) (kS hk) (ft_of (kS hk) rfl) dX6_isRow_6 ?_
    refine s_icmp_ge 35 dX6_isRow_9 (by decide) ?_ ?_
    · skip
      refine s_aload_n dX6_isRow_12 0 rfl rfl ?_
      refine s_getr (b := (33 + 2 * k)) gf_X6_22 rfl (mS hF hk) (kS hk) (ft_of (kS hk) rfl) (hF.2 _ _) (rS3 hk) dX6_isRow_13 ?_
      refine s_iload_n dX6_isRow_16 1 rfl rfl ?_
      refine s_iald (mSp hF hk) (kSp hk) (lSp hk) dX6_isRow_17 ?_
      refine s_aload_n dX6_isRow_18 0 rfl rfl ?_
      refine s_getr (b := 1) gf_X6_9 rfl (mS hF hk) (kS hk) (ft_of (kS hk) rfl) (hF.2 _ _) (rS0 hk) dX6_isRow_19 ?_
      refine s_callVpI (As := []) mf_X3_all vf_X3_all ml_X6_37 (c_X3_all _ E hF σ) (m1 hF) k1 (by decide) rfl rfl rfl rfl (Nat.le_of_ble_eq_true rfl) rfl dX6_isRow_22 (fun r1 => ?_)
      refine s_iconst (v := -1) dX6_isRow_25 (by decide) ?_
      refine s_ixor dX6_isRow_26 ?_
      refine s_iand dX6_isRow_27 ?_
      refine s_if_ne 35 dX6_isRow_28 (by decide) ?_ ?_
      · skip
        refine s_iconst (v := 1) dX6_isRow_31 (by decide) ?_
        refine s_goto 36 dX6_isRow_32 (by decide) ?_
        exact s_zreturn rfl (by decide) rfl rfl dX6_isRow_36
      · skip
        refine s_iconst (v := 0) dX6_isRow_35 (by decide) ?_
        exact s_zreturn rfl (by decide) rfl rfl dX6_isRow_36
    · skip
      refine s_iconst (v := 0) dX6_isRow_35 (by decide) ?_
      exact s_zreturn rfl (by decide) rfl rfl dX6_isRow_36
theorem dX6_rising_0 : decode cX6_rising 0 = .ok (.aload_n 0, 1) := by decide +kernel
theorem dX6_rising_1 : decode cX6_rising 1 = .ok (.getfield 15, 3) := by decide +kernel
theorem dX6_rising_4 : decode cX6_rising 4 = .ok (.iconst 1, 1) := by decide +kernel
theorem dX6_rising_5 : decode cX6_rising 5 = .ok (.if_icmp .ne 5, 3) := by decide +kernel
theorem dX6_rising_8 : decode cX6_rising 8 = .ok (.iload_n 1, 1) := by decide +kernel
theorem dX6_rising_9 : decode cX6_rising 9 = .ok (.ireturn, 1) := by decide +kernel
theorem dX6_rising_10 : decode cX6_rising 10 = .ok (.aload_n 0, 1) := by decide +kernel
theorem dX6_rising_11 : decode cX6_rising 11 = .ok (.iload_n 1, 1) := by decide +kernel
theorem dX6_rising_12 : decode cX6_rising 12 = .ok (.iconst 0, 1) := by decide +kernel
theorem dX6_rising_13 : decode cX6_rising 13 = .ok (.invokevirtual 26, 3) := by decide +kernel
theorem dX6_rising_16 : decode cX6_rising 16 = .ok (.istore_n 2, 1) := by decide +kernel
theorem dX6_rising_17 : decode cX6_rising 17 = .ok (.aload_n 0, 1) := by decide +kernel
theorem dX6_rising_18 : decode cX6_rising 18 = .ok (.iload_n 1, 1) := by decide +kernel
theorem dX6_rising_19 : decode cX6_rising 19 = .ok (.iconst 1, 1) := by decide +kernel
theorem dX6_rising_20 : decode cX6_rising 20 = .ok (.invokevirtual 26, 3) := by decide +kernel
theorem dX6_rising_23 : decode cX6_rising 23 = .ok (.istore_n 3, 1) := by decide +kernel
theorem dX6_rising_24 : decode cX6_rising 24 = .ok (.aload_n 0, 1) := by decide +kernel
theorem dX6_rising_25 : decode cX6_rising 25 = .ok (.getfield 15, 3) := by decide +kernel
theorem dX6_rising_28 : decode cX6_rising 28 = .ok (.iconst 2, 1) := by decide +kernel
theorem dX6_rising_29 : decode cX6_rising 29 = .ok (.if_icmp .ne 17, 3) := by decide +kernel
theorem dX6_rising_32 : decode cX6_rising 32 = .ok (.iload_n 2, 1) := by decide +kernel
theorem dX6_rising_33 : decode cX6_rising 33 = .ok (.iload_n 3, 1) := by decide +kernel
theorem dX6_rising_34 : decode cX6_rising 34 = .ok (.invokestatic 53, 3) := by decide +kernel
theorem dX6_rising_37 : decode cX6_rising 37 = .ok (.iconst 3, 1) := by decide +kernel
theorem dX6_rising_38 : decode cX6_rising 38 = .ok (.ishl, 1) := by decide +kernel
theorem dX6_rising_39 : decode cX6_rising 39 = .ok (.iload_n 2, 1) := by decide +kernel
theorem dX6_rising_40 : decode cX6_rising 40 = .ok (.iload_n 3, 1) := by decide +kernel
theorem dX6_rising_41 : decode cX6_rising 41 = .ok (.invokestatic 58, 3) := by decide +kernel
theorem dX6_rising_44 : decode cX6_rising 44 = .ok (.ior, 1) := by decide +kernel
theorem dX6_rising_45 : decode cX6_rising 45 = .ok (.ireturn, 1) := by decide +kernel
theorem dX6_rising_46 : decode cX6_rising 46 = .ok (.aload_n 0, 1) := by decide +kernel
theorem dX6_rising_47 : decode cX6_rising 47 = .ok (.iload_n 1, 1) := by decide +kernel
theorem dX6_rising_48 : decode cX6_rising 48 = .ok (.iconst 2, 1) := by decide +kernel
theorem dX6_rising_49 : decode cX6_rising 49 = .ok (.invokevirtual 26, 3) := by decide +kernel
theorem dX6_rising_52 : decode cX6_rising 52 = .ok (.istore 4, 2) := by decide +kernel
theorem dX6_rising_54 : decode cX6_rising 54 = .ok (.iload_n 2, 1) := by decide +kernel
theorem dX6_rising_55 : decode cX6_rising 55 = .ok (.iload_n 3, 1) := by decide +kernel
theorem dX6_rising_56 : decode cX6_rising 56 = .ok (.iload 4, 2) := by decide +kernel
theorem dX6_rising_58 : decode cX6_rising 58 = .ok (.invokestatic 53, 3) := by decide +kernel
theorem dX6_rising_61 : decode cX6_rising 61 = .ok (.invokestatic 53, 3) := by decide +kernel
theorem dX6_rising_64 : decode cX6_rising 64 = .ok (.istore 5, 2) := by decide +kernel
theorem dX6_rising_66 : decode cX6_rising 66 = .ok (.iload_n 2, 1) := by decide +kernel
theorem dX6_rising_67 : decode cX6_rising 67 = .ok (.iload_n 3, 1) := by decide +kernel
theorem dX6_rising_68 : decode cX6_rising 68 = .ok (.iload 4, 2) := by decide +kernel
theorem dX6_rising_70 : decode cX6_rising 70 = .ok (.invokestatic 58, 3) := by decide +kernel
theorem dX6_rising_73 : decode cX6_rising 73 = .ok (.invokestatic 58, 3) := by decide +kernel
theorem dX6_rising_76 : decode cX6_rising 76 = .ok (.istore 6, 2) := by decide +kernel
theorem dX6_rising_78 : decode cX6_rising 78 = .ok (.iload 5, 2) := by decide +kernel
theorem dX6_rising_80 : decode cX6_rising 80 = .ok (.bipush 6, 2) := by decide +kernel
theorem dX6_rising_82 : decode cX6_rising 82 = .ok (.ishl, 1) := by decide +kernel
theorem dX6_rising_83 : decode cX6_rising 83 = .ok (.iload_n 2, 1) := by decide +kernel
theorem dX6_rising_84 : decode cX6_rising 84 = .ok (.iload_n 3, 1) := by decide +kernel
theorem dX6_rising_85 : decode cX6_rising 85 = .ok (.iadd, 1) := by decide +kernel
theorem dX6_rising_86 : decode cX6_rising 86 = .ok (.iload 4, 2) := by decide +kernel
theorem dX6_rising_88 : decode cX6_rising 88 = .ok (.iadd, 1) := by decide +kernel
theorem dX6_rising_89 : decode cX6_rising 89 = .ok (.iload 5, 2) := by decide +kernel
theorem dX6_rising_91 : decode cX6_rising 91 = .ok (.isub, 1) := by decide +kernel
theorem dX6_rising_92 : decode cX6_rising 92 = .ok (.iload 6, 2) := by decide +kernel
theorem dX6_rising_94 : decode cX6_rising 94 = .ok (.isub, 1) := by decide +kernel
theorem dX6_rising_95 : decode cX6_rising 95 = .ok (.iconst 3, 1) := by decide +kernel
theorem dX6_rising_96 : decode cX6_rising 96 = .ok (.ishl, 1) := by decide +kernel
theorem dX6_rising_97 : decode cX6_rising 97 = .ok (.ior, 1) := by decide +kernel
theorem dX6_rising_98 : decode cX6_rising 98 = .ok (.iload 6, 2) := by decide +kernel
theorem dX6_rising_100 : decode cX6_rising 100 = .ok (.ior, 1) := by decide +kernel
theorem dX6_rising_101 : decode cX6_rising 101 = .ok (.ireturn, 1) := by decide +kernel
def f_X6_rising (σ : St) (k : Nat) (v1 : Int32) : Option Int32 :=
  (if (σ.1 (32 + 2 * k) 1) = (1 : Int32) then
    some v1
     else
    calP (f_X6_figure σ k v1 (0 : Int32)) fun r1 =>
      calP (f_X6_figure σ k v1 (1 : Int32)) fun r2 =>
        (if (σ.1 (32 + 2 * k) 1) = (2 : Int32) then
          some (((if r2 < r1 then r2 else r1) <<< ((3 : Int32) &&& 31)) ||| (if r1 < r2 then r2 else r1))
           else
          calP (f_X6_figure σ k v1 (2 : Int32)) fun r3 =>
            bd (if (if r3 < r2 then r3 else r2) < r1 then (if r3 < r2 then r3 else r2) else r1) fun x4 =>
              bd (if r1 < (if r2 < r3 then r3 else r2) then (if r2 < r3 then r3 else r2) else r1) fun x5 =>
                some (((x4 <<< ((6 : Int32) &&& 31)) ||| (((((r1 + r2) + r3) - x4) - x5) <<< ((3 : Int32) &&& 31))) ||| x5)))
set_option maxHeartbeats 4000000 in
set_option maxRecDepth 100000 in
theorem c_X6_rising (l : Launch) (E : Ev) (hF : Full E) (σ : St) (k : Nat) (hk : k < 3) (v1 : Int32) : Ctr l enI (fun _ => σ) E md_X6_rising [rV E (32 + 2 * k), .int v1] σ (f_X6_rising σ k v1) := by
  refine ctr_of rfl (Nat.le_of_ble_eq_true rfl) (fun Γ => ?_)
  show Sim _ Γ _ E md_X6_rising σ 0 [(0, rV E (32 + 2 * k)), (1, .int v1)] [] _
  unfold f_X6_rising
  refine s_aload_n dX6_rising_0 0 rfl rfl ?_
  refine s_geti gf_X6_15 rfl (mS hF hk) (kS hk) (ft_of (kS hk) rfl) dX6_rising_1 ?_
  refine s_iconst (v := 1) dX6_rising_4 (by decide) ?_
  refine s_icmp_ne 10 dX6_rising_5 (by decide) ?_ ?_
  · skip
    refine s_iload_n dX6_rising_8 1 rfl rfl ?_
    exact s_ireturn rfl rfl rfl dX6_rising_9
  · skip
    refine s_aload_n dX6_rising_10 0 rfl rfl ?_
    refine s_iload_n dX6_rising_11 1 rfl rfl ?_
    refine s_iconst (v := 0) dX6_rising_12 (by decide) ?_
    refine s_callVpI (As := [.int v1, .int (0 : Int32)]) mf_X6_figure vf_X6_figure ml_X6_26 (c_X6_figure _ E hF σ k hk v1 (0 : Int32)) (mS hF hk) (kS hk) (by decide) rfl rfl rfl rfl (Nat.le_of_ble_eq_true rfl) rfl dX6_rising_13 (fun r1 => ?_)
    refine s_istore_n [(2, .int r1), (0, rV E (32 + 2 * k)), (1, .int v1)] dX6_rising_16 rfl (by decide) rfl ?_
    refine s_aload_n dX6_rising_17 1 rfl rfl ?_
    refine s_iload_n dX6_rising_18 2 rfl rfl ?_
    refine s_iconst (v := 1) dX6_rising_19 (by decide) ?_
    refine s_callVpI (As := [.int v1, .int (1 : Int32)]) mf_X6_figure vf_X6_figure ml_X6_26 (c_X6_figure _ E hF σ k hk v1 (1 : Int32)) (mS hF hk) (kS hk) (by decide) rfl rfl rfl rfl (Nat.le_of_ble_eq_true rfl) rfl dX6_rising_20 (fun r2 => ?_)
    refine s_istore_n [(3, .int r2), (2, .int r1), (0, rV E (32 + 2 * k)), (1, .int v1)] dX6_rising_23 rfl (by decide) rfl ?_
    refine s_aload_n dX6_rising_24 2 rfl rfl ?_
    refine s_geti gf_X6_15 rfl (mS hF hk) (kS hk) (ft_of (kS hk) rfl) dX6_rising_25 ?_
    refine s_iconst (v := 2) dX6_rising_28 (by decide) ?_
    refine s_icmp_ne 46 dX6_rising_29 (by decide) ?_ ?_
    · skip
      refine s_iload_n dX6_rising_32 1 rfl rfl ?_
      refine s_iload_n dX6_rising_33 0 rfl rfl ?_
      refine s_mmin ml_X6_53 rfl dX6_rising_34 ?_
      refine s_iconst (v := 3) dX6_rising_37 (by decide) ?_
      refine s_ishl dX6_rising_38 ?_
      refine s_iload_n dX6_rising_39 1 rfl rfl ?_
      refine s_iload_n dX6_rising_40 0 rfl rfl ?_
      refine s_mmax ml_X6_58 rfl dX6_rising_41 ?_
      refine s_ior dX6_rising_44 ?_
      exact s_ireturn rfl rfl rfl dX6_rising_45
    · skip
      refine s_aload_n dX6_rising_46 2 rfl rfl ?_
      refine s_iload_n dX6_rising_47 3 rfl rfl ?_
      refine s_iconst (v := 2) dX6_rising_48 (by decide) ?_
      refine s_callVpI (As := [.int v1, .int (2 : Int32)]) mf_X6_figure vf_X6_figure ml_X6_26 (c_X6_figure _ E hF σ k hk v1 (2 : Int32)) (mS hF hk) (kS hk) (by decide) rfl rfl rfl rfl (Nat.le_of_ble_eq_true rfl) rfl dX6_rising_49 (fun r3 => ?_)
      refine s_istore [(4, .int r3), (3, .int r2), (2, .int r1), (0, rV E (32 + 2 * k)), (1, .int v1)] dX6_rising_52 (by decide) rfl ?_
      refine s_iload_n dX6_rising_54 2 rfl rfl ?_
      refine s_iload_n dX6_rising_55 1 rfl rfl ?_
      refine s_iload dX6_rising_56 0 rfl ?_
      refine s_mmin ml_X6_53 rfl dX6_rising_58 ?_
      refine s_mmin ml_X6_53 rfl dX6_rising_61 ?_
      refine s_istoreB (fun x4 => [(5, .int x4), (4, .int r3), (3, .int r2), (2, .int r1), (0, rV E (32 + 2 * k)), (1, .int v1)]) dX6_rising_64 (by decide) (fun _ => rfl) (fun x4 => ?_)
      refine s_iload_n dX6_rising_66 3 rfl rfl ?_
      refine s_iload_n dX6_rising_67 2 rfl rfl ?_
      refine s_iload dX6_rising_68 1 rfl ?_
      refine s_mmax ml_X6_58 rfl dX6_rising_70 ?_
      refine s_mmax ml_X6_58 rfl dX6_rising_73 ?_
      refine s_istoreB (fun x5 => [(6, .int x5), (5, .int x4), (4, .int r3), (3, .int r2), (2, .int r1), (0, rV E (32 + 2 * k)), (1, .int v1)]) dX6_rising_76 (by decide) (fun _ => rfl) (fun x5 => ?_)
      refine s_iload dX6_rising_78 1 rfl ?_
      refine s_bipush (v := 6) dX6_rising_80 (by decide) ?_
      refine s_ishl dX6_rising_82 ?_
      refine s_iload_n dX6_rising_83 4 rfl rfl ?_
      refine s_iload_n dX6_rising_84 3 rfl rfl ?_
      refine s_iadd dX6_rising_85 ?_
      refine s_iload dX6_rising_86 2 rfl ?_
      refine s_iadd dX6_rising_88 ?_
      refine s_iload dX6_rising_89 1 rfl ?_
      refine s_isub dX6_rising_91 ?_
      refine s_iload dX6_rising_92 0 rfl ?_
      refine s_isub dX6_rising_94 ?_
      refine s_iconst (v := 3) dX6_rising_95 (by decide) ?_
      refine s_ishl dX6_rising_96 ?_
      refine s_ior dX6_rising_97 ?_
      refine s_iload dX6_rising_98 0 rfl ?_
      refine s_ior dX6_rising_100 ?_
      exact s_ireturn rfl rfl rfl dX6_rising_101
theorem dX6_isSetting_0 : decode cX6_isSetting 0 = .ok (.aload_n 0, 1) := by decide +kernel
theorem dX6_isSetting_1 : decode cX6_isSetting 1 = .ok (.iload_n 1, 1) := by decide +kernel
theorem dX6_isSetting_2 : decode cX6_isSetting 2 = .ok (.invokevirtual 43, 3) := by decide +kernel
theorem dX6_isSetting_5 : decode cX6_isSetting 5 = .ok (.ifCond .eq 16, 3) := by decide +kernel
theorem dX6_isSetting_8 : decode cX6_isSetting 8 = .ok (.aload_n 0, 1) := by decide +kernel
theorem dX6_isSetting_9 : decode cX6_isSetting 9 = .ok (.iload_n 1, 1) := by decide +kernel
theorem dX6_isSetting_10 : decode cX6_isSetting 10 = .ok (.invokevirtual 47, 3) := by decide +kernel
theorem dX6_isSetting_13 : decode cX6_isSetting 13 = .ok (.iload_n 1, 1) := by decide +kernel
theorem dX6_isSetting_14 : decode cX6_isSetting 14 = .ok (.if_icmp .ne 7, 3) := by decide +kernel
theorem dX6_isSetting_17 : decode cX6_isSetting 17 = .ok (.iconst 1, 1) := by decide +kernel
theorem dX6_isSetting_18 : decode cX6_isSetting 18 = .ok (.goto 4, 3) := by decide +kernel
theorem dX6_isSetting_21 : decode cX6_isSetting 21 = .ok (.iconst 0, 1) := by decide +kernel
theorem dX6_isSetting_22 : decode cX6_isSetting 22 = .ok (.ireturn, 1) := by decide +kernel
def f_X6_isSetting (σ : St) (k : Nat) (v1 : Int32) : Option Int32 :=
  calP (f_X6_isRow σ k v1) fun r1 =>
    (if r1 = 0 then
      some (0 : Int32)
       else
      calP (f_X6_rising σ k v1) fun r2 =>
        (if r2 = v1 then
          some (1 : Int32)
           else
          some (0 : Int32)))
set_option maxHeartbeats 4000000 in
set_option maxRecDepth 100000 in
theorem c_X6_isSetting (l : Launch) (E : Ev) (hF : Full E) (σ : St) (k : Nat) (hk : k < 3) (v1 : Int32) : Ctr l enI (fun _ => σ) E md_X6_isSetting [rV E (32 + 2 * k), .int v1] σ (f_X6_isSetting σ k v1) := by
  refine ctr_of rfl (Nat.le_of_ble_eq_true rfl) (fun Γ => ?_)
  show Sim _ Γ _ E md_X6_isSetting σ 0 [(0, rV E (32 + 2 * k)), (1, .int v1)] [] _
  unfold f_X6_isSetting
  refine s_aload_n dX6_isSetting_0 0 rfl rfl ?_
  refine s_iload_n dX6_isSetting_1 1 rfl rfl ?_
  refine s_callVpI (As := [.int v1]) mf_X6_isRow vf_X6_isRow ml_X6_43 (c_X6_isRow _ E hF σ k hk v1) (mS hF hk) (kS hk) (by decide) rfl rfl rfl rfl (Nat.le_of_ble_eq_true rfl) rfl dX6_isSetting_2 (fun r1 => ?_)
  refine s_if_eq 21 dX6_isSetting_5 (by decide) ?_ ?_
  · skip
    refine s_iconst (v := 0) dX6_isSetting_21 (by decide) ?_
    exact s_zreturn rfl (by decide) rfl rfl dX6_isSetting_22
  · skip
    refine s_aload_n dX6_isSetting_8 0 rfl rfl ?_
    refine s_iload_n dX6_isSetting_9 1 rfl rfl ?_
    refine s_callVpI (As := [.int v1]) mf_X6_rising vf_X6_rising ml_X6_47 (c_X6_rising _ E hF σ k hk v1) (mS hF hk) (kS hk) (by decide) rfl rfl rfl rfl (Nat.le_of_ble_eq_true rfl) rfl dX6_isSetting_10 (fun r2 => ?_)
    refine s_iload_n dX6_isSetting_13 1 rfl rfl ?_
    refine s_icmp_ne 21 dX6_isSetting_14 (by decide) ?_ ?_
    · skip
      refine s_iconst (v := 1) dX6_isSetting_17 (by decide) ?_
      refine s_goto 22 dX6_isSetting_18 (by decide) ?_
      exact s_zreturn rfl (by decide) rfl rfl dX6_isSetting_22
    · skip
      refine s_iconst (v := 0) dX6_isSetting_21 (by decide) ?_
      exact s_zreturn rfl (by decide) rfl rfl dX6_isSetting_22
theorem dX6_told_0 : decode cX6_told 0 = .ok (.iconst 0, 1) := by decide +kernel
theorem dX6_told_1 : decode cX6_told 1 = .ok (.istore_n 2, 1) := by decide +kernel
theorem dX6_told_2 : decode cX6_told 2 = .ok (.iconst 0, 1) := by decide +kernel
theorem dX6_told_3 : decode cX6_told 3 = .ok (.istore_n 3, 1) := by decide +kernel
theorem dX6_told_4 : decode cX6_told 4 = .ok (.iload_n 3, 1) := by decide +kernel
theorem dX6_told_5 : decode cX6_told 5 = .ok (.aload_n 0, 1) := by decide +kernel
theorem dX6_told_6 : decode cX6_told 6 = .ok (.getfield 15, 3) := by decide +kernel
theorem dX6_told_9 : decode cX6_told 9 = .ok (.if_icmp .ge 40, 3) := by decide +kernel
theorem dX6_told_12 : decode cX6_told 12 = .ok (.iload_n 1, 1) := by decide +kernel
theorem dX6_told_13 : decode cX6_told 13 = .ok (.iconst 4, 1) := by decide +kernel
theorem dX6_told_14 : decode cX6_told 14 = .ok (.iload_n 3, 1) := by decide +kernel
theorem dX6_told_15 : decode cX6_told 15 = .ok (.imul, 1) := by decide +kernel
theorem dX6_told_16 : decode cX6_told 16 = .ok (.ishr, 1) := by decide +kernel
theorem dX6_told_17 : decode cX6_told 17 = .ok (.bipush 15, 2) := by decide +kernel
theorem dX6_told_19 : decode cX6_told 19 = .ok (.iand, 1) := by decide +kernel
theorem dX6_told_20 : decode cX6_told 20 = .ok (.istore 4, 2) := by decide +kernel
theorem dX6_told_22 : decode cX6_told 22 = .ok (.aload_n 0, 1) := by decide +kernel
theorem dX6_told_23 : decode cX6_told 23 = .ok (.getfield 9, 3) := by decide +kernel
theorem dX6_told_26 : decode cX6_told 26 = .ok (.iload 4, 2) := by decide +kernel
theorem dX6_told_28 : decode cX6_told 28 = .ok (.invokevirtual 50, 3) := by decide +kernel
theorem dX6_told_31 : decode cX6_told 31 = .ok (.ifCond .ne 5, 3) := by decide +kernel
theorem dX6_told_34 : decode cX6_told 34 = .ok (.iconst (-1), 1) := by decide +kernel
theorem dX6_told_35 : decode cX6_told 35 = .ok (.ireturn, 1) := by decide +kernel
theorem dX6_told_36 : decode cX6_told 36 = .ok (.iload_n 2, 1) := by decide +kernel
theorem dX6_told_37 : decode cX6_told 37 = .ok (.iconst 3, 1) := by decide +kernel
theorem dX6_told_38 : decode cX6_told 38 = .ok (.ishl, 1) := by decide +kernel
theorem dX6_told_39 : decode cX6_told 39 = .ok (.iload 4, 2) := by decide +kernel
theorem dX6_told_41 : decode cX6_told 41 = .ok (.ior, 1) := by decide +kernel
theorem dX6_told_42 : decode cX6_told 42 = .ok (.istore_n 2, 1) := by decide +kernel
theorem dX6_told_43 : decode cX6_told 43 = .ok (.iinc 3 1, 3) := by decide +kernel
theorem dX6_told_46 : decode cX6_told 46 = .ok (.goto (-42), 3) := by decide +kernel
theorem dX6_told_49 : decode cX6_told 49 = .ok (.iload_n 2, 1) := by decide +kernel
theorem dX6_told_50 : decode cX6_told 50 = .ok (.ireturn, 1) := by decide +kernel
def f_X6_told (σ : St) (k : Nat) (v1 : Int32) : Option Int32 :=
  lo2 FU (fun rec3 (x1 : Int32) (x2 : Int32) =>
    (if x2 < (σ.1 (32 + 2 * k) 1) then
      bd ((v1 >>> (((4 : Int32) * x2) &&& 31)) &&& (15 : Int32)) fun x5 =>
        calP (f_X3_known σ x5) fun r6 =>
          (if r6 = 0 then
            some (-1 : Int32)
             else
            bd ((x1 <<< ((3 : Int32) &&& 31)) ||| x5) fun x7 =>
              rec3 x7 (x2 + 1))
       else
      some x1)) (0 : Int32) (0 : Int32)
set_option maxHeartbeats 4000000 in
set_option maxRecDepth 100000 in
theorem c_X6_told (l : Launch) (E : Ev) (hF : Full E) (σ : St) (k : Nat) (hk : k < 3) (v1 : Int32) : Ctr l enI (fun _ => σ) E md_X6_told [rV E (32 + 2 * k), .int v1] σ (f_X6_told σ k v1) := by
  refine ctr_of rfl (Nat.le_of_ble_eq_true rfl) (fun Γ => ?_)
  show Sim _ Γ _ E md_X6_told σ 0 [(0, rV E (32 + 2 * k)), (1, .int v1)] [] _
  unfold f_X6_told
  refine s_iconst (v := 0) dX6_told_0 (by decide) ?_
  refine s_istore_n [(2, .int (0 : Int32)), (0, rV E (32 + 2 * k)), (1, .int v1)] dX6_told_1 rfl (by decide) rfl ?_
  refine s_iconst (v := 0) dX6_told_2 (by decide) ?_
  refine s_istore_n [(3, .int (0 : Int32)), (2, .int (0 : Int32)), (0, rV E (32 + 2 * k)), (1, .int v1)] dX6_told_3 rfl (by decide) rfl ?_
  refine s_sub (lv' := [(0, rV E (32 + 2 * k)), (1, .int v1), (2, .int (0 : Int32)), (3, .int (0 : Int32))]) [2, 3, 1, 0] rfl ?_
  refine s_lo2 (σf := fun x1 x2 => σ) (lvf := fun x1 x2 => [(0, rV E (32 + 2 * k)), (1, .int v1), (2, .int x1), (3, .int x2)]) (fun rec3 ih4 x1 x2 => ?_)
  refine s_iload_n dX6_told_4 3 rfl rfl ?_
  refine s_aload_n dX6_told_5 0 rfl rfl ?_
  refine s_geti gf_X6_15 rfl (mS hF hk) (kS hk) (ft_of (kS hk) rfl) dX6_told_6 ?_
  refine s_icmp_ge 49 dX6_told_9 (by decide) ?_ ?_
  · skip
    refine s_iload_n dX6_told_12 1 rfl rfl ?_
    refine s_iconst (v := 4) dX6_told_13 (by decide) ?_
    refine s_iload_n dX6_told_14 3 rfl rfl ?_
    refine s_imul dX6_told_15 ?_
    refine s_ishr dX6_told_16 ?_
    refine s_bipush (v := 15) dX6_told_17 (by decide) ?_
    refine s_iand dX6_told_19 ?_
    refine s_istoreB (fun x5 => [(4, .int x5), (0, rV E (32 + 2 * k)), (1, .int v1), (2, .int x1), (3, .int x2)]) dX6_told_20 (by decide) (fun _ => rfl) (fun x5 => ?_)
    refine s_aload_n dX6_told_22 1 rfl rfl ?_
    refine s_getr (b := 1) gf_X6_9 rfl (mS hF hk) (kS hk) (ft_of (kS hk) rfl) (hF.2 _ _) (rS0 hk) dX6_told_23 ?_
    refine s_iload dX6_told_26 0 rfl ?_
    refine s_callVpI (As := [.int x5]) mf_X3_known vf_X3_known ml_X6_50 (c_X3_known _ E hF σ x5) (m1 hF) k1 (by decide) rfl rfl rfl rfl (Nat.le_of_ble_eq_true rfl) rfl dX6_told_28 (fun r6 => ?_)
    refine s_if_ne 36 dX6_told_31 (by decide) ?_ ?_
    · skip
      refine s_iconst (v := -1) dX6_told_34 (by decide) ?_
      exact s_ireturn rfl rfl rfl dX6_told_35
    · skip
      refine s_iload_n dX6_told_36 3 rfl rfl ?_
      refine s_iconst (v := 3) dX6_told_37 (by decide) ?_
      refine s_ishl dX6_told_38 ?_
      refine s_iload dX6_told_39 0 rfl ?_
      refine s_ior dX6_told_41 ?_
      refine s_istore_nB (fun x7 => [(2, .int x7), (4, .int x5), (0, rV E (32 + 2 * k)), (1, .int v1), (3, .int x2)]) dX6_told_42 rfl (by decide) (fun _ => rfl) (fun x7 => ?_)
      refine s_iinc [(3, .int (x2 + 1)), (2, .int x7), (4, .int x5), (0, rV E (32 + 2 * k)), (1, .int v1)] dX6_told_43 4 rfl rfl (by decide) rfl ?_
      refine s_goto 4 dX6_told_46 (by decide) ?_
      refine s_sub [3, 4, 1, 0] rfl ?_
      exact ih4 x7 (x2 + 1)
  · skip
    refine s_iload_n dX6_told_49 2 rfl rfl ?_
    exact s_ireturn rfl rfl rfl dX6_told_50
theorem dX6_canStep_0 : decode cX6_canStep 0 = .ok (.iconst 0, 1) := by decide +kernel
theorem dX6_canStep_1 : decode cX6_canStep 1 = .ok (.istore_n 3, 1) := by decide +kernel
theorem dX6_canStep_2 : decode cX6_canStep 2 = .ok (.iload_n 3, 1) := by decide +kernel
theorem dX6_canStep_3 : decode cX6_canStep 3 = .ok (.aload_n 0, 1) := by decide +kernel
theorem dX6_canStep_4 : decode cX6_canStep 4 = .ok (.getfield 15, 3) := by decide +kernel
theorem dX6_canStep_7 : decode cX6_canStep 7 = .ok (.if_icmp .ge 36, 3) := by decide +kernel
theorem dX6_canStep_10 : decode cX6_canStep 10 = .ok (.aload_n 0, 1) := by decide +kernel
theorem dX6_canStep_11 : decode cX6_canStep 11 = .ok (.getfield 9, 3) := by decide +kernel
theorem dX6_canStep_14 : decode cX6_canStep 14 = .ok (.aload_n 0, 1) := by decide +kernel
theorem dX6_canStep_15 : decode cX6_canStep 15 = .ok (.iload_n 1, 1) := by decide +kernel
theorem dX6_canStep_16 : decode cX6_canStep 16 = .ok (.iload_n 3, 1) := by decide +kernel
theorem dX6_canStep_17 : decode cX6_canStep 17 = .ok (.invokevirtual 26, 3) := by decide +kernel
theorem dX6_canStep_20 : decode cX6_canStep 20 = .ok (.invokevirtual 61, 3) := by decide +kernel
theorem dX6_canStep_23 : decode cX6_canStep 23 = .ok (.aload_n 0, 1) := by decide +kernel
theorem dX6_canStep_24 : decode cX6_canStep 24 = .ok (.iload_n 2, 1) := by decide +kernel
theorem dX6_canStep_25 : decode cX6_canStep 25 = .ok (.iload_n 3, 1) := by decide +kernel
theorem dX6_canStep_26 : decode cX6_canStep 26 = .ok (.invokevirtual 26, 3) := by decide +kernel
theorem dX6_canStep_29 : decode cX6_canStep 29 = .ok (.invokestatic 33, 3) := by decide +kernel
theorem dX6_canStep_32 : decode cX6_canStep 32 = .ok (.ifCond .ne 5, 3) := by decide +kernel
theorem dX6_canStep_35 : decode cX6_canStep 35 = .ok (.iconst 0, 1) := by decide +kernel
theorem dX6_canStep_36 : decode cX6_canStep 36 = .ok (.ireturn, 1) := by decide +kernel
theorem dX6_canStep_37 : decode cX6_canStep 37 = .ok (.iinc 3 1, 3) := by decide +kernel
theorem dX6_canStep_40 : decode cX6_canStep 40 = .ok (.goto (-38), 3) := by decide +kernel
theorem dX6_canStep_43 : decode cX6_canStep 43 = .ok (.iconst 1, 1) := by decide +kernel
theorem dX6_canStep_44 : decode cX6_canStep 44 = .ok (.ireturn, 1) := by decide +kernel
def f_X6_canStep (σ : St) (k : Nat) (v1 : Int32) (v2 : Int32) : Option Int32 :=
  lo1 FU (fun rec2 (x1 : Int32) =>
    (if x1 < (σ.1 (32 + 2 * k) 1) then
      calP (f_X6_figure σ k v1 x1) fun r4 =>
        calP (f_X3_outOf σ r4) fun r5 =>
          calP (f_X6_figure σ k v2 x1) fun r6 =>
            calP (f_X9_has σ r5 r6) fun r7 =>
              (if r7 = 0 then
                some (0 : Int32)
                 else
                rec2 (x1 + 1))
       else
      some (1 : Int32))) (0 : Int32)
set_option maxHeartbeats 4000000 in
set_option maxRecDepth 100000 in
theorem c_X6_canStep (l : Launch) (E : Ev) (hF : Full E) (σ : St) (k : Nat) (hk : k < 3) (v1 : Int32) (v2 : Int32) : Ctr l enI (fun _ => σ) E md_X6_canStep [rV E (32 + 2 * k), .int v1, .int v2] σ (f_X6_canStep σ k v1 v2) := by
  refine ctr_of rfl (Nat.le_of_ble_eq_true rfl) (fun Γ => ?_)
  show Sim _ Γ _ E md_X6_canStep σ 0 [(0, rV E (32 + 2 * k)), (1, .int v1), (2, .int v2)] [] _
  unfold f_X6_canStep
  refine s_iconst (v := 0) dX6_canStep_0 (by decide) ?_
  refine s_istore_n [(3, .int (0 : Int32)), (0, rV E (32 + 2 * k)), (1, .int v1), (2, .int v2)] dX6_canStep_1 rfl (by decide) rfl ?_
  refine s_sub (lv' := [(0, rV E (32 + 2 * k)), (1, .int v1), (2, .int v2), (3, .int (0 : Int32))]) [1, 2, 3, 0] rfl ?_
  refine s_lo1 (σf := fun x1 => σ) (lvf := fun x1 => [(0, rV E (32 + 2 * k)), (1, .int v1), (2, .int v2), (3, .int x1)]) (fun rec2 ih3 x1 => ?_)
  refine s_iload_n dX6_canStep_2 3 rfl rfl ?_
  refine s_aload_n dX6_canStep_3 0 rfl rfl ?_
  refine s_geti gf_X6_15 rfl (mS hF hk) (kS hk) (ft_of (kS hk) rfl) dX6_canStep_4 ?_
  refine s_icmp_ge 43 dX6_canStep_7 (by decide) ?_ ?_
  · skip
    refine s_aload_n dX6_canStep_10 0 rfl rfl ?_
    refine s_getr (b := 1) gf_X6_9 rfl (mS hF hk) (kS hk) (ft_of (kS hk) rfl) (hF.2 _ _) (rS0 hk) dX6_canStep_11 ?_
    refine s_aload_n dX6_canStep_14 0 rfl rfl ?_
    refine s_iload_n dX6_canStep_15 1 rfl rfl ?_
    refine s_iload_n dX6_canStep_16 3 rfl rfl ?_
    refine s_callVpI (As := [.int v1, .int x1]) mf_X6_figure vf_X6_figure ml_X6_26 (c_X6_figure _ E hF σ k hk v1 x1) (mS hF hk) (kS hk) (by decide) rfl rfl rfl rfl (Nat.le_of_ble_eq_true rfl) rfl dX6_canStep_17 (fun r4 => ?_)
    refine s_callVpI (As := [.int r4]) mf_X3_outOf vf_X3_outOf ml_X6_61 (c_X3_outOf _ E hF σ r4) (m1 hF) k1 (by decide) rfl rfl rfl rfl (Nat.le_of_ble_eq_true rfl) rfl dX6_canStep_20 (fun r5 => ?_)
    refine s_aload_n dX6_canStep_23 0 rfl rfl ?_
    refine s_iload_n dX6_canStep_24 2 rfl rfl ?_
    refine s_iload_n dX6_canStep_25 3 rfl rfl ?_
    refine s_callVpI (As := [.int v2, .int x1]) mf_X6_figure vf_X6_figure ml_X6_26 (c_X6_figure _ E hF σ k hk v2 x1) (mS hF hk) (kS hk) (by decide) rfl rfl rfl rfl (Nat.le_of_ble_eq_true rfl) rfl dX6_canStep_26 (fun r6 => ?_)
    refine s_callNpI (As := [.int r5, .int r6]) (host := "RunnerNet") mf_X9_has vf_X9_has (nl_of 4 rfl) (c_X9_has _ E hF σ r5 r6) rfl rfl (Nat.le_of_ble_eq_true rfl) rfl dX6_canStep_29 (fun r7 => ?_)
    refine s_if_ne 37 dX6_canStep_32 (by decide) ?_ ?_
    · skip
      refine s_iconst (v := 0) dX6_canStep_35 (by decide) ?_
      exact s_zreturn rfl (by decide) rfl rfl dX6_canStep_36
    · skip
      refine s_iinc [(3, .int (x1 + 1)), (0, rV E (32 + 2 * k)), (1, .int v1), (2, .int v2)] dX6_canStep_37 3 rfl rfl (by decide) rfl ?_
      refine s_goto 2 dX6_canStep_40 (by decide) ?_
      refine s_sub [1, 2, 3, 0] rfl ?_
      exact ih3 (x1 + 1)
  · skip
    refine s_iconst (v := 1) dX6_canStep_43 (by decide) ?_
    exact s_zreturn rfl (by decide) rfl rfl dX6_canStep_44
theorem dJ13_bitCount_95d88_0 : decode cJ13_bitCount_95d88 0 = .ok (.lload_n 0, 1) := by decide +kernel
theorem dJ13_bitCount_95d88_1 : decode cJ13_bitCount_95d88 1 = .ok (.lload_n 0, 1) := by decide +kernel
theorem dJ13_bitCount_95d88_2 : decode cJ13_bitCount_95d88 2 = .ok (.iconst 1, 1) := by decide +kernel
theorem dJ13_bitCount_95d88_3 : decode cJ13_bitCount_95d88 3 = .ok (.lushr, 1) := by decide +kernel
theorem dJ13_bitCount_95d88_4 : decode cJ13_bitCount_95d88 4 = .ok (.ldc2_w 314, 3) := by decide +kernel
theorem dJ13_bitCount_95d88_7 : decode cJ13_bitCount_95d88 7 = .ok (.land, 1) := by decide +kernel
theorem dJ13_bitCount_95d88_8 : decode cJ13_bitCount_95d88 8 = .ok (.lsub, 1) := by decide +kernel
theorem dJ13_bitCount_95d88_9 : decode cJ13_bitCount_95d88 9 = .ok (.lstore_n 0, 1) := by decide +kernel
theorem dJ13_bitCount_95d88_10 : decode cJ13_bitCount_95d88 10 = .ok (.lload_n 0, 1) := by decide +kernel
theorem dJ13_bitCount_95d88_11 : decode cJ13_bitCount_95d88 11 = .ok (.ldc2_w 316, 3) := by decide +kernel
theorem dJ13_bitCount_95d88_14 : decode cJ13_bitCount_95d88 14 = .ok (.land, 1) := by decide +kernel
theorem dJ13_bitCount_95d88_15 : decode cJ13_bitCount_95d88 15 = .ok (.lload_n 0, 1) := by decide +kernel
theorem dJ13_bitCount_95d88_16 : decode cJ13_bitCount_95d88 16 = .ok (.iconst 2, 1) := by decide +kernel
theorem dJ13_bitCount_95d88_17 : decode cJ13_bitCount_95d88 17 = .ok (.lushr, 1) := by decide +kernel
theorem dJ13_bitCount_95d88_18 : decode cJ13_bitCount_95d88 18 = .ok (.ldc2_w 316, 3) := by decide +kernel
theorem dJ13_bitCount_95d88_21 : decode cJ13_bitCount_95d88 21 = .ok (.land, 1) := by decide +kernel
theorem dJ13_bitCount_95d88_22 : decode cJ13_bitCount_95d88 22 = .ok (.ladd, 1) := by decide +kernel
theorem dJ13_bitCount_95d88_23 : decode cJ13_bitCount_95d88 23 = .ok (.lstore_n 0, 1) := by decide +kernel
theorem dJ13_bitCount_95d88_24 : decode cJ13_bitCount_95d88 24 = .ok (.lload_n 0, 1) := by decide +kernel
theorem dJ13_bitCount_95d88_25 : decode cJ13_bitCount_95d88 25 = .ok (.lload_n 0, 1) := by decide +kernel
theorem dJ13_bitCount_95d88_26 : decode cJ13_bitCount_95d88 26 = .ok (.iconst 4, 1) := by decide +kernel
theorem dJ13_bitCount_95d88_27 : decode cJ13_bitCount_95d88 27 = .ok (.lushr, 1) := by decide +kernel
theorem dJ13_bitCount_95d88_28 : decode cJ13_bitCount_95d88 28 = .ok (.ladd, 1) := by decide +kernel
theorem dJ13_bitCount_95d88_29 : decode cJ13_bitCount_95d88 29 = .ok (.ldc2_w 318, 3) := by decide +kernel
theorem dJ13_bitCount_95d88_32 : decode cJ13_bitCount_95d88 32 = .ok (.land, 1) := by decide +kernel
theorem dJ13_bitCount_95d88_33 : decode cJ13_bitCount_95d88 33 = .ok (.lstore_n 0, 1) := by decide +kernel
theorem dJ13_bitCount_95d88_34 : decode cJ13_bitCount_95d88 34 = .ok (.lload_n 0, 1) := by decide +kernel
theorem dJ13_bitCount_95d88_35 : decode cJ13_bitCount_95d88 35 = .ok (.lload_n 0, 1) := by decide +kernel
theorem dJ13_bitCount_95d88_36 : decode cJ13_bitCount_95d88 36 = .ok (.bipush 8, 2) := by decide +kernel
theorem dJ13_bitCount_95d88_38 : decode cJ13_bitCount_95d88 38 = .ok (.lushr, 1) := by decide +kernel
theorem dJ13_bitCount_95d88_39 : decode cJ13_bitCount_95d88 39 = .ok (.ladd, 1) := by decide +kernel
theorem dJ13_bitCount_95d88_40 : decode cJ13_bitCount_95d88 40 = .ok (.lstore_n 0, 1) := by decide +kernel
theorem dJ13_bitCount_95d88_41 : decode cJ13_bitCount_95d88 41 = .ok (.lload_n 0, 1) := by decide +kernel
theorem dJ13_bitCount_95d88_42 : decode cJ13_bitCount_95d88 42 = .ok (.lload_n 0, 1) := by decide +kernel
theorem dJ13_bitCount_95d88_43 : decode cJ13_bitCount_95d88 43 = .ok (.bipush 16, 2) := by decide +kernel
theorem dJ13_bitCount_95d88_45 : decode cJ13_bitCount_95d88 45 = .ok (.lushr, 1) := by decide +kernel
theorem dJ13_bitCount_95d88_46 : decode cJ13_bitCount_95d88 46 = .ok (.ladd, 1) := by decide +kernel
theorem dJ13_bitCount_95d88_47 : decode cJ13_bitCount_95d88 47 = .ok (.lstore_n 0, 1) := by decide +kernel
theorem dJ13_bitCount_95d88_48 : decode cJ13_bitCount_95d88 48 = .ok (.lload_n 0, 1) := by decide +kernel
theorem dJ13_bitCount_95d88_49 : decode cJ13_bitCount_95d88 49 = .ok (.lload_n 0, 1) := by decide +kernel
theorem dJ13_bitCount_95d88_50 : decode cJ13_bitCount_95d88 50 = .ok (.bipush 32, 2) := by decide +kernel
theorem dJ13_bitCount_95d88_52 : decode cJ13_bitCount_95d88 52 = .ok (.lushr, 1) := by decide +kernel
theorem dJ13_bitCount_95d88_53 : decode cJ13_bitCount_95d88 53 = .ok (.ladd, 1) := by decide +kernel
theorem dJ13_bitCount_95d88_54 : decode cJ13_bitCount_95d88 54 = .ok (.lstore_n 0, 1) := by decide +kernel
theorem dJ13_bitCount_95d88_55 : decode cJ13_bitCount_95d88 55 = .ok (.lload_n 0, 1) := by decide +kernel
theorem dJ13_bitCount_95d88_56 : decode cJ13_bitCount_95d88 56 = .ok (.l2i, 1) := by decide +kernel
theorem dJ13_bitCount_95d88_57 : decode cJ13_bitCount_95d88 57 = .ok (.bipush 127, 2) := by decide +kernel
theorem dJ13_bitCount_95d88_59 : decode cJ13_bitCount_95d88 59 = .ok (.iand, 1) := by decide +kernel
theorem dJ13_bitCount_95d88_60 : decode cJ13_bitCount_95d88 60 = .ok (.ireturn, 1) := by decide +kernel
def f_J13_bitCount_95d88 (σ : St) (v0 : Int64) : Option Int32 :=
  bd (v0 - ((v0.toUInt64 >>> ((1 : Int32).toInt64.toUInt64 &&& Int64.toUInt64 63)).toInt64 &&& (6148914691236517205 : Int64))) fun y1 =>
    bd ((y1 &&& (3689348814741910323 : Int64)) + ((y1.toUInt64 >>> ((2 : Int32).toInt64.toUInt64 &&& Int64.toUInt64 63)).toInt64 &&& (3689348814741910323 : Int64))) fun y2 =>
      bd ((y2 + (y2.toUInt64 >>> ((4 : Int32).toInt64.toUInt64 &&& Int64.toUInt64 63)).toInt64) &&& (1085102592571150095 : Int64)) fun y3 =>
        bd (y3 + (y3.toUInt64 >>> ((8 : Int32).toInt64.toUInt64 &&& Int64.toUInt64 63)).toInt64) fun y4 =>
          bd (y4 + (y4.toUInt64 >>> ((16 : Int32).toInt64.toUInt64 &&& Int64.toUInt64 63)).toInt64) fun y5 =>
            bd (y5 + (y5.toUInt64 >>> ((32 : Int32).toInt64.toUInt64 &&& Int64.toUInt64 63)).toInt64) fun y6 =>
              some (y6.toInt32 &&& (127 : Int32))
set_option maxHeartbeats 4000000 in
set_option maxRecDepth 100000 in
theorem c_J13_bitCount_95d88 (l : Launch) (E : Ev) (hF : Full E) (σ : St) (v0 : Int64) : Ctr l enI (fun _ => σ) E md_J13_bitCount_95d88 [.long v0] σ (f_J13_bitCount_95d88 σ v0) := by
  refine ctr_of rfl (Nat.le_of_ble_eq_true rfl) (fun Γ => ?_)
  show Sim _ Γ _ E md_J13_bitCount_95d88 σ 0 [(0, .long v0)] [] _
  unfold f_J13_bitCount_95d88
  refine s_lload_n dJ13_bitCount_95d88_0 0 rfl rfl ?_
  refine s_lload_n dJ13_bitCount_95d88_1 0 rfl rfl ?_
  refine s_iconst (v := 1) dJ13_bitCount_95d88_2 (by decide) ?_
  refine s_lushr dJ13_bitCount_95d88_3 rfl ?_
  refine s_ldc2 (v := 6148914691236517205) rfl w_1035 dJ13_bitCount_95d88_4 ?_
  refine s_land dJ13_bitCount_95d88_7 ?_
  refine s_lsub dJ13_bitCount_95d88_8 ?_
  refine s_lstore_nB (fun y1 => [(0, .long y1)]) dJ13_bitCount_95d88_9 rfl (by decide) (fun _ => rfl) (fun y1 => ?_)
  refine s_lload_n dJ13_bitCount_95d88_10 0 rfl rfl ?_
  refine s_ldc2 (v := 3689348814741910323) rfl w_1036 dJ13_bitCount_95d88_11 ?_
  refine s_land dJ13_bitCount_95d88_14 ?_
  refine s_lload_n dJ13_bitCount_95d88_15 0 rfl rfl ?_
  refine s_iconst (v := 2) dJ13_bitCount_95d88_16 (by decide) ?_
  refine s_lushr dJ13_bitCount_95d88_17 rfl ?_
  refine s_ldc2 (v := 3689348814741910323) rfl w_1036 dJ13_bitCount_95d88_18 ?_
  refine s_land dJ13_bitCount_95d88_21 ?_
  refine s_ladd dJ13_bitCount_95d88_22 ?_
  refine s_lstore_nB (fun y2 => [(0, .long y2)]) dJ13_bitCount_95d88_23 rfl (by decide) (fun _ => rfl) (fun y2 => ?_)
  refine s_lload_n dJ13_bitCount_95d88_24 0 rfl rfl ?_
  refine s_lload_n dJ13_bitCount_95d88_25 0 rfl rfl ?_
  refine s_iconst (v := 4) dJ13_bitCount_95d88_26 (by decide) ?_
  refine s_lushr dJ13_bitCount_95d88_27 rfl ?_
  refine s_ladd dJ13_bitCount_95d88_28 ?_
  refine s_ldc2 (v := 1085102592571150095) rfl w_1037 dJ13_bitCount_95d88_29 ?_
  refine s_land dJ13_bitCount_95d88_32 ?_
  refine s_lstore_nB (fun y3 => [(0, .long y3)]) dJ13_bitCount_95d88_33 rfl (by decide) (fun _ => rfl) (fun y3 => ?_)
  refine s_lload_n dJ13_bitCount_95d88_34 0 rfl rfl ?_
  refine s_lload_n dJ13_bitCount_95d88_35 0 rfl rfl ?_
  refine s_bipush (v := 8) dJ13_bitCount_95d88_36 (by decide) ?_
  refine s_lushr dJ13_bitCount_95d88_38 rfl ?_
  refine s_ladd dJ13_bitCount_95d88_39 ?_
  refine s_lstore_nB (fun y4 => [(0, .long y4)]) dJ13_bitCount_95d88_40 rfl (by decide) (fun _ => rfl) (fun y4 => ?_)
  refine s_lload_n dJ13_bitCount_95d88_41 0 rfl rfl ?_
  refine s_lload_n dJ13_bitCount_95d88_42 0 rfl rfl ?_
  refine s_bipush (v := 16) dJ13_bitCount_95d88_43 (by decide) ?_
  refine s_lushr dJ13_bitCount_95d88_45 rfl ?_
  refine s_ladd dJ13_bitCount_95d88_46 ?_
  refine s_lstore_nB (fun y5 => [(0, .long y5)]) dJ13_bitCount_95d88_47 rfl (by decide) (fun _ => rfl) (fun y5 => ?_)
  refine s_lload_n dJ13_bitCount_95d88_48 0 rfl rfl ?_
  refine s_lload_n dJ13_bitCount_95d88_49 0 rfl rfl ?_
  refine s_bipush (v := 32) dJ13_bitCount_95d88_50 (by decide) ?_
  refine s_lushr dJ13_bitCount_95d88_52 rfl ?_
  refine s_ladd dJ13_bitCount_95d88_53 ?_
  refine s_lstore_nB (fun y6 => [(0, .long y6)]) dJ13_bitCount_95d88_54 rfl (by decide) (fun _ => rfl) (fun y6 => ?_)
  refine s_lload_n dJ13_bitCount_95d88_55 0 rfl rfl ?_
  refine s_l2i dJ13_bitCount_95d88_56 rfl ?_
  refine s_bipush (v := 127) dJ13_bitCount_95d88_57 (by decide) ?_
  refine s_iand dJ13_bitCount_95d88_59 ?_
  exact s_ireturn rfl rfl rfl dJ13_bitCount_95d88_60
theorem dJ7_fill_d0a16_0 : decode cJ7_fill_d0a16 0 = .ok (.iconst 0, 1) := by decide +kernel
theorem dJ7_fill_d0a16_1 : decode cJ7_fill_d0a16 1 = .ok (.istore_n 3, 1) := by decide +kernel
theorem dJ7_fill_d0a16_2 : decode cJ7_fill_d0a16 2 = .ok (.aload_n 0, 1) := by decide +kernel
theorem dJ7_fill_d0a16_3 : decode cJ7_fill_d0a16 3 = .ok (.arraylength, 1) := by decide +kernel
theorem dJ7_fill_d0a16_4 : decode cJ7_fill_d0a16 4 = .ok (.istore 4, 2) := by decide +kernel
theorem dJ7_fill_d0a16_6 : decode cJ7_fill_d0a16 6 = .ok (.iload_n 3, 1) := by decide +kernel
theorem dJ7_fill_d0a16_7 : decode cJ7_fill_d0a16 7 = .ok (.iload 4, 2) := by decide +kernel
theorem dJ7_fill_d0a16_9 : decode cJ7_fill_d0a16 9 = .ok (.if_icmp .ge 13, 3) := by decide +kernel
theorem dJ7_fill_d0a16_12 : decode cJ7_fill_d0a16 12 = .ok (.aload_n 0, 1) := by decide +kernel
theorem dJ7_fill_d0a16_13 : decode cJ7_fill_d0a16 13 = .ok (.iload_n 3, 1) := by decide +kernel
theorem dJ7_fill_d0a16_14 : decode cJ7_fill_d0a16 14 = .ok (.lload_n 1, 1) := by decide +kernel
theorem dJ7_fill_d0a16_15 : decode cJ7_fill_d0a16 15 = .ok (.lastore, 1) := by decide +kernel
theorem dJ7_fill_d0a16_16 : decode cJ7_fill_d0a16 16 = .ok (.iinc 3 1, 3) := by decide +kernel
theorem dJ7_fill_d0a16_19 : decode cJ7_fill_d0a16 19 = .ok (.goto (-13), 3) := by decide +kernel
theorem dJ7_fill_d0a16_22 : decode cJ7_fill_d0a16 22 = .ok (.return_, 1) := by decide +kernel
def f_J7_fill_d0a16 (σ : St) (a : Nat) (v1 : Int64) : Option (Unit × St) :=
  bd (nI (ln a)) fun x1 =>
    lo2 FU (fun rec4 (s2 : St) (x3 : Int32) =>
      (if x3 < x1 then
        ck x3 (ln a) <|
          bd (setL s2 a x3.toNatClampNeg v1) fun s6 =>
            rec4 s6 (x3 + 1)
         else
        some ((), s2))) σ (0 : Int32)
set_option maxHeartbeats 4000000 in
set_option maxRecDepth 100000 in
theorem c_J7_fill_d0a16 (l : Launch) (E : Ev) (hF : Full E) (σ : St) (a : Nat) (hm : a ∈ E.2.2.2.1) (hkd : kd a = 12) (v1 : Int64) : Ctr l (en2 enV) (fun q => q.2) E md_J7_fill_d0a16 [rV E a, .long v1] σ (f_J7_fill_d0a16 σ a v1) := by
  refine ctr_of rfl (Nat.le_of_ble_eq_true rfl) (fun Γ => ?_)
  show Sim _ Γ _ E md_J7_fill_d0a16 σ 0 [(0, rV E a), (1, .long v1)] [] _
  unfold f_J7_fill_d0a16
  refine s_iconst (v := 0) dJ7_fill_d0a16_0 (by decide) ?_
  refine s_istore_n [(3, .int (0 : Int32)), (0, rV E a), (1, .long v1)] dJ7_fill_d0a16_1 rfl (by decide) rfl ?_
  refine s_aload_n dJ7_fill_d0a16_2 1 rfl rfl ?_
  refine s_alen (n := nI (ln a)) hm hkd (by decide) (by decide) (by rw [show ln a = ln a from rfl]; rfl) dJ7_fill_d0a16_3 ?_
  refine s_istoreB (fun x1 => [(4, .int x1), (3, .int (0 : Int32)), (0, rV E a), (1, .long v1)]) dJ7_fill_d0a16_4 (by decide) (fun _ => rfl) (fun x1 => ?_)
  refine s_sub (lv' := [(0, rV E a), (1, .long v1), (3, .int (0 : Int32)), (4, .int x1)]) [2, 3, 1, 0] rfl ?_
  refine s_lo2 (σf := fun s2 x3 => s2) (lvf := fun s2 x3 => [(0, rV E a), (1, .long v1), (3, .int x3), (4, .int x1)]) (fun rec4 ih5 s2 x3 => ?_)
  refine s_iload_n dJ7_fill_d0a16_6 2 rfl rfl ?_
  refine s_iload dJ7_fill_d0a16_7 3 rfl ?_
  refine s_icmp_ge 22 dJ7_fill_d0a16_9 (by decide) ?_ ?_
  · skip
    refine s_aload_n dJ7_fill_d0a16_12 0 rfl rfl ?_
    refine s_iload_n dJ7_fill_d0a16_13 2 rfl rfl ?_
    refine s_lload_n dJ7_fill_d0a16_14 1 rfl rfl ?_
    refine s_last hm hkd rfl dJ7_fill_d0a16_15 (fun s6 => ?_)
    refine s_iinc [(3, .int (x3 + 1)), (0, rV E a), (1, .long v1), (4, .int x1)] dJ7_fill_d0a16_16 2 rfl rfl (by decide) rfl ?_
    refine s_goto 6 dJ7_fill_d0a16_19 (by decide) ?_
    refine s_sub [1, 2, 0, 3] rfl ?_
    exact ih5 s6 (x3 + 1)
  · skip
    exact s_return rfl rfl rfl dJ7_fill_d0a16_22
theorem dJ7_fill_53178_0 : decode cJ7_fill_53178 0 = .ok (.iconst 0, 1) := by decide +kernel
theorem dJ7_fill_53178_1 : decode cJ7_fill_53178 1 = .ok (.istore_n 2, 1) := by decide +kernel
theorem dJ7_fill_53178_2 : decode cJ7_fill_53178 2 = .ok (.aload_n 0, 1) := by decide +kernel
theorem dJ7_fill_53178_3 : decode cJ7_fill_53178 3 = .ok (.arraylength, 1) := by decide +kernel
theorem dJ7_fill_53178_4 : decode cJ7_fill_53178 4 = .ok (.istore_n 3, 1) := by decide +kernel
theorem dJ7_fill_53178_5 : decode cJ7_fill_53178 5 = .ok (.iload_n 2, 1) := by decide +kernel
theorem dJ7_fill_53178_6 : decode cJ7_fill_53178 6 = .ok (.iload_n 3, 1) := by decide +kernel
theorem dJ7_fill_53178_7 : decode cJ7_fill_53178 7 = .ok (.if_icmp .ge 13, 3) := by decide +kernel
theorem dJ7_fill_53178_10 : decode cJ7_fill_53178 10 = .ok (.aload_n 0, 1) := by decide +kernel
theorem dJ7_fill_53178_11 : decode cJ7_fill_53178 11 = .ok (.iload_n 2, 1) := by decide +kernel
theorem dJ7_fill_53178_12 : decode cJ7_fill_53178 12 = .ok (.iload_n 1, 1) := by decide +kernel
theorem dJ7_fill_53178_13 : decode cJ7_fill_53178 13 = .ok (.iastore, 1) := by decide +kernel
theorem dJ7_fill_53178_14 : decode cJ7_fill_53178 14 = .ok (.iinc 2 1, 3) := by decide +kernel
theorem dJ7_fill_53178_17 : decode cJ7_fill_53178 17 = .ok (.goto (-12), 3) := by decide +kernel
theorem dJ7_fill_53178_20 : decode cJ7_fill_53178 20 = .ok (.return_, 1) := by decide +kernel
def f_J7_fill_53178 (σ : St) (a : Nat) (v1 : Int32) : Option (Unit × St) :=
  bd (nI (ln a)) fun x1 =>
    lo2 FU (fun rec4 (s2 : St) (x3 : Int32) =>
      (if x3 < x1 then
        ck x3 (ln a) <|
          bd (setI s2 a x3.toNatClampNeg v1) fun s6 =>
            rec4 s6 (x3 + 1)
         else
        some ((), s2))) σ (0 : Int32)
set_option maxHeartbeats 4000000 in
set_option maxRecDepth 100000 in
theorem c_J7_fill_53178 (l : Launch) (E : Ev) (hF : Full E) (σ : St) (a : Nat) (hm : a ∈ E.2.2.2.1) (hkd : kd a = 11) (v1 : Int32) : Ctr l (en2 enV) (fun q => q.2) E md_J7_fill_53178 [rV E a, .int v1] σ (f_J7_fill_53178 σ a v1) := by
  refine ctr_of rfl (Nat.le_of_ble_eq_true rfl) (fun Γ => ?_)
  show Sim _ Γ _ E md_J7_fill_53178 σ 0 [(0, rV E a), (1, .int v1)] [] _
  unfold f_J7_fill_53178
  refine s_iconst (v := 0) dJ7_fill_53178_0 (by decide) ?_
  refine s_istore_n [(2, .int (0 : Int32)), (0, rV E a), (1, .int v1)] dJ7_fill_53178_1 rfl (by decide) rfl ?_
  refine s_aload_n dJ7_fill_53178_2 1 rfl rfl ?_
  refine s_alen (n := nI (ln a)) hm hkd (by decide) (by decide) (by rw [show ln a = ln a from rfl]; rfl) dJ7_fill_53178_3 ?_
  refine s_istore_nB (fun x1 => [(3, .int x1), (2, .int (0 : Int32)), (0, rV E a), (1, .int v1)]) dJ7_fill_53178_4 rfl (by decide) (fun _ => rfl) (fun x1 => ?_)
  refine s_sub (lv' := [(0, rV E a), (1, .int v1), (2, .int (0 : Int32)), (3, .int x1)]) [2, 3, 1, 0] rfl ?_
  refine s_lo2 (σf := fun s2 x3 => s2) (lvf := fun s2 x3 => [(0, rV E a), (1, .int v1), (2, .int x3), (3, .int x1)]) (fun rec4 ih5 s2 x3 => ?_)
  refine s_iload_n dJ7_fill_53178_5 2 rfl rfl ?_
  refine s_iload_n dJ7_fill_53178_6 3 rfl rfl ?_
  refine s_icmp_ge 20 dJ7_fill_53178_7 (by decide) ?_ ?_
  · skip
    refine s_aload_n dJ7_fill_53178_10 0 rfl rfl ?_
    refine s_iload_n dJ7_fill_53178_11 2 rfl rfl ?_
    refine s_iload_n dJ7_fill_53178_12 1 rfl rfl ?_
    refine s_iast hm hkd rfl dJ7_fill_53178_13 (fun s6 => ?_)
    refine s_iinc [(2, .int (x3 + 1)), (0, rV E a), (1, .int v1), (3, .int x1)] dJ7_fill_53178_14 2 rfl rfl (by decide) rfl ?_
    refine s_goto 5 dJ7_fill_53178_17 (by decide) ?_
    refine s_sub [1, 2, 0, 3] rfl ?_
    exact ih5 s6 (x3 + 1)
  · skip
    exact s_return rfl rfl rfl dJ7_fill_53178_20
