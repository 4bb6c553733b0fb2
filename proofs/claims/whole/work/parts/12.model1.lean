theorem dX10_in_0 : decode cX10_in 0 = .ok (.iload_n 0, 1) := by decide +kernel
theorem dX10_in_1 : decode cX10_in 1 = .ok (.iload_n 1, 1) := by decide +kernel
theorem dX10_in_2 : decode cX10_in 2 = .ok (.if_icmp .lt 12, 3) := by decide +kernel
theorem dX10_in_5 : decode cX10_in 5 = .ok (.iload_n 0, 1) := by decide +kernel
theorem dX10_in_6 : decode cX10_in 6 = .ok (.iload_n 2, 1) := by decide +kernel
theorem dX10_in_7 : decode cX10_in 7 = .ok (.if_icmp .gt 7, 3) := by decide +kernel
theorem dX10_in_10 : decode cX10_in 10 = .ok (.iconst 1, 1) := by decide +kernel
theorem dX10_in_11 : decode cX10_in 11 = .ok (.goto 4, 3) := by decide +kernel
theorem dX10_in_14 : decode cX10_in 14 = .ok (.iconst 0, 1) := by decide +kernel
theorem dX10_in_15 : decode cX10_in 15 = .ok (.ireturn, 1) := by decide +kernel
def f_X10_in (σ : St) (v0 : Int32) (v1 : Int32) (v2 : Int32) : Option Int32 :=
  (if v0 < v1 then
    some (0 : Int32)
     else
    (if v2 < v0 then
      some (0 : Int32)
       else
      some (1 : Int32)))
set_option maxHeartbeats 4000000 in
set_option maxRecDepth 100000 in
theorem c_X10_in (l : Launch) (E : Ev) (hF : Full E) (σ : St) (v0 : Int32) (v1 : Int32) (v2 : Int32) : Ctr l enI (fun _ => σ) E md_X10_in [.int v0, .int v1, .int v2] σ (f_X10_in σ v0 v1 v2) := by
  refine ctr_of rfl (Nat.le_of_ble_eq_true rfl) (fun Γ => ?_)
  show Sim _ Γ _ E md_X10_in σ 0 [(0, .int v0), (1, .int v1), (2, .int v2)] [] _
  unfold f_X10_in
  refine s_iload_n dX10_in_0 0 rfl rfl ?_
  refine s_iload_n dX10_in_1 1 rfl rfl ?_
  refine s_icmp_lt 14 dX10_in_2 (by decide) ?_ ?_
  · skip
    refine s_iconst (v := 0) dX10_in_14 (by decide) ?_
    exact s_zreturn rfl (by decide) rfl rfl dX10_in_15
  · skip
    refine s_iload_n dX10_in_5 0 rfl rfl ?_
    refine s_iload_n dX10_in_6 2 rfl rfl ?_
    refine s_icmp_gt 14 dX10_in_7 (by decide) ?_ ?_
    · skip
      refine s_iconst (v := 0) dX10_in_14 (by decide) ?_
      exact s_zreturn rfl (by decide) rfl rfl dX10_in_15
    · skip
      refine s_iconst (v := 1) dX10_in_10 (by decide) ?_
      refine s_goto 15 dX10_in_11 (by decide) ?_
      exact s_zreturn rfl (by decide) rfl rfl dX10_in_15
theorem dX10_isPlace_0 : decode cX10_isPlace 0 = .ok (.iload_n 1, 1) := by decide +kernel
theorem dX10_isPlace_1 : decode cX10_isPlace 1 = .ok (.iconst 0, 1) := by decide +kernel
theorem dX10_isPlace_2 : decode cX10_isPlace 2 = .ok (.aload_n 0, 1) := by decide +kernel
theorem dX10_isPlace_3 : decode cX10_isPlace 3 = .ok (.getfield 7, 3) := by decide +kernel
theorem dX10_isPlace_6 : decode cX10_isPlace 6 = .ok (.iconst 1, 1) := by decide +kernel
theorem dX10_isPlace_7 : decode cX10_isPlace 7 = .ok (.isub, 1) := by decide +kernel
theorem dX10_isPlace_8 : decode cX10_isPlace 8 = .ok (.invokestatic 83, 3) := by decide +kernel
theorem dX10_isPlace_11 : decode cX10_isPlace 11 = .ok (.ireturn, 1) := by decide +kernel
def f_X10_isPlace (σ : St) (v1 : Int32) : Option Int32 :=
  calP (f_X10_in σ v1 (0 : Int32) ((σ.1 100 0) - (1 : Int32))) fun r1 =>
    ckZ r1 <|
      some r1
set_option maxHeartbeats 4000000 in
set_option maxRecDepth 100000 in
theorem c_X10_isPlace (l : Launch) (E : Ev) (hF : Full E) (σ : St) (v1 : Int32) : Ctr l enI (fun _ => σ) E md_X10_isPlace [rV E 100, .int v1] σ (f_X10_isPlace σ v1) := by
  refine ctr_of rfl (Nat.le_of_ble_eq_true rfl) (fun Γ => ?_)
  show Sim _ Γ _ E md_X10_isPlace σ 0 [(0, rV E 100), (1, .int v1)] [] _
  unfold f_X10_isPlace
  refine s_iload_n dX10_isPlace_0 1 rfl rfl ?_
  refine s_iconst (v := 0) dX10_isPlace_1 (by decide) ?_
  refine s_aload_n dX10_isPlace_2 0 rfl rfl ?_
  refine s_geti gf_X10_7 rfl (m100 hF) k100 (ft_of k100 rfl) dX10_isPlace_3 ?_
  refine s_iconst (v := 1) dX10_isPlace_6 (by decide) ?_
  refine s_isub dX10_isPlace_7 ?_
  refine s_callSpI (As := [.int v1, .int (0 : Int32), .int ((σ.1 100 0) - (1 : Int32))]) mf_X10_in vf_X10_in ml_X10_83 (c_X10_in _ E hF σ v1 (0 : Int32) ((σ.1 100 0) - (1 : Int32))) rfl rfl (Nat.le_of_ble_eq_true rfl) rfl dX10_isPlace_8 (fun r1 => ?_)
  refine s_ckZ (fun hz2 => ?_)
  exact s_zreturn rfl hz2 rfl rfl dX10_isPlace_11
theorem dX10_bits_0 : decode cX10_bits 0 = .ok (.iconst 0, 1) := by decide +kernel
theorem dX10_bits_1 : decode cX10_bits 1 = .ok (.istore_n 1, 1) := by decide +kernel
theorem dX10_bits_2 : decode cX10_bits 2 = .ok (.iconst 0, 1) := by decide +kernel
theorem dX10_bits_3 : decode cX10_bits 3 = .ok (.istore_n 2, 1) := by decide +kernel
theorem dX10_bits_4 : decode cX10_bits 4 = .ok (.iload_n 2, 1) := by decide +kernel
theorem dX10_bits_5 : decode cX10_bits 5 = .ok (.bipush 8, 2) := by decide +kernel
theorem dX10_bits_7 : decode cX10_bits 7 = .ok (.if_icmp .ge 17, 3) := by decide +kernel
theorem dX10_bits_10 : decode cX10_bits 10 = .ok (.iload_n 1, 1) := by decide +kernel
theorem dX10_bits_11 : decode cX10_bits 11 = .ok (.iload_n 0, 1) := by decide +kernel
theorem dX10_bits_12 : decode cX10_bits 12 = .ok (.iload_n 2, 1) := by decide +kernel
theorem dX10_bits_13 : decode cX10_bits 13 = .ok (.ishr, 1) := by decide +kernel
theorem dX10_bits_14 : decode cX10_bits 14 = .ok (.iconst 1, 1) := by decide +kernel
theorem dX10_bits_15 : decode cX10_bits 15 = .ok (.iand, 1) := by decide +kernel
theorem dX10_bits_16 : decode cX10_bits 16 = .ok (.iadd, 1) := by decide +kernel
theorem dX10_bits_17 : decode cX10_bits 17 = .ok (.istore_n 1, 1) := by decide +kernel
theorem dX10_bits_18 : decode cX10_bits 18 = .ok (.iinc 2 1, 3) := by decide +kernel
theorem dX10_bits_21 : decode cX10_bits 21 = .ok (.goto (-17), 3) := by decide +kernel
theorem dX10_bits_24 : decode cX10_bits 24 = .ok (.iload_n 1, 1) := by decide +kernel
theorem dX10_bits_25 : decode cX10_bits 25 = .ok (.ireturn, 1) := by decide +kernel
def f_X10_bits (σ : St) (v0 : Int32) : Option Int32 :=
  lo2 FU (fun rec3 (x1 : Int32) (x2 : Int32) =>
    (if x2 < (8 : Int32) then
      bd (x1 + ((v0 >>> (x2 &&& 31)) &&& (1 : Int32))) fun x5 =>
        rec3 x5 (x2 + 1)
       else
      some x1)) (0 : Int32) (0 : Int32)
set_option maxHeartbeats 4000000 in
set_option maxRecDepth 100000 in
theorem c_X10_bits (l : Launch) (E : Ev) (hF : Full E) (σ : St) (v0 : Int32) : Ctr l enI (fun _ => σ) E md_X10_bits [.int v0] σ (f_X10_bits σ v0) := by
  refine ctr_of rfl (Nat.le_of_ble_eq_true rfl) (fun Γ => ?_)
  show Sim _ Γ _ E md_X10_bits σ 0 [(0, .int v0)] [] _
  unfold f_X10_bits
  refine s_iconst (v := 0) dX10_bits_0 (by decide) ?_
  refine s_istore_n [(1, .int (0 : Int32)), (0, .int v0)] dX10_bits_1 rfl (by decide) rfl ?_
  refine s_iconst (v := 0) dX10_bits_2 (by decide) ?_
  refine s_istore_n [(2, .int (0 : Int32)), (1, .int (0 : Int32)), (0, .int v0)] dX10_bits_3 rfl (by decide) rfl ?_
  refine s_sub (lv' := [(0, .int v0), (1, .int (0 : Int32)), (2, .int (0 : Int32))]) [2, 1, 0] rfl ?_
  refine s_lo2 (σf := fun x1 x2 => σ) (lvf := fun x1 x2 => [(0, .int v0), (1, .int x1), (2, .int x2)]) (fun rec3 ih4 x1 x2 => ?_)
  refine s_iload_n dX10_bits_4 2 rfl rfl ?_
  refine s_bipush (v := 8) dX10_bits_5 (by decide) ?_
  refine s_icmp_ge 24 dX10_bits_7 (by decide) ?_ ?_
  · skip
    refine s_iload_n dX10_bits_10 1 rfl rfl ?_
    refine s_iload_n dX10_bits_11 0 rfl rfl ?_
    refine s_iload_n dX10_bits_12 2 rfl rfl ?_
    refine s_ishr dX10_bits_13 ?_
    refine s_iconst (v := 1) dX10_bits_14 (by decide) ?_
    refine s_iand dX10_bits_15 ?_
    refine s_iadd dX10_bits_16 ?_
    refine s_istore_nB (fun x5 => [(1, .int x5), (0, .int v0), (2, .int x2)]) dX10_bits_17 rfl (by decide) (fun _ => rfl) (fun x5 => ?_)
    refine s_iinc [(2, .int (x2 + 1)), (1, .int x5), (0, .int v0)] dX10_bits_18 2 rfl rfl (by decide) rfl ?_
    refine s_goto 4 dX10_bits_21 (by decide) ?_
    refine s_sub [2, 1, 0] rfl ?_
    exact ih4 x5 (x2 + 1)
  · skip
    refine s_iload_n dX10_bits_24 1 rfl rfl ?_
    exact s_ireturn rfl rfl rfl dX10_bits_25
theorem dX10_stepsOf_0 : decode cX10_stepsOf 0 = .ok (.aload_n 0, 1) := by decide +kernel
theorem dX10_stepsOf_1 : decode cX10_stepsOf 1 = .ok (.getfield 13, 3) := by decide +kernel
theorem dX10_stepsOf_4 : decode cX10_stepsOf 4 = .ok (.iload_n 1, 1) := by decide +kernel
theorem dX10_stepsOf_5 : decode cX10_stepsOf 5 = .ok (.iaload, 1) := by decide +kernel
theorem dX10_stepsOf_6 : decode cX10_stepsOf 6 = .ok (.iconst 1, 1) := by decide +kernel
theorem dX10_stepsOf_7 : decode cX10_stepsOf 7 = .ok (.iload_n 1, 1) := by decide +kernel
theorem dX10_stepsOf_8 : decode cX10_stepsOf 8 = .ok (.ishl, 1) := by decide +kernel
theorem dX10_stepsOf_9 : decode cX10_stepsOf 9 = .ok (.ior, 1) := by decide +kernel
theorem dX10_stepsOf_10 : decode cX10_stepsOf 10 = .ok (.ireturn, 1) := by decide +kernel
def f_X10_stepsOf (σ : St) (v1 : Int32) : Option Int32 :=
  ck v1 8 <|
    some ((σ.1 101 v1.toNatClampNeg) ||| ((1 : Int32) <<< (v1 &&& 31)))
set_option maxHeartbeats 4000000 in
set_option maxRecDepth 100000 in
theorem c_X10_stepsOf (l : Launch) (E : Ev) (hF : Full E) (σ : St) (v1 : Int32) : Ctr l enI (fun _ => σ) E md_X10_stepsOf [rV E 100, .int v1] σ (f_X10_stepsOf σ v1) := by
  refine ctr_of rfl (Nat.le_of_ble_eq_true rfl) (fun Γ => ?_)
  show Sim _ Γ _ E md_X10_stepsOf σ 0 [(0, rV E 100), (1, .int v1)] [] _
  unfold f_X10_stepsOf
  refine s_aload_n dX10_stepsOf_0 0 rfl rfl ?_
  refine s_getr (b := 101) gf_X10_13 rfl (m100 hF) k100 (ft_of k100 rfl) (hF.2 _ _) rfl dX10_stepsOf_1 ?_
  refine s_iload_n dX10_stepsOf_4 1 rfl rfl ?_
  refine s_iald (m101 hF) k101 l101 dX10_stepsOf_5 ?_
  refine s_iconst (v := 1) dX10_stepsOf_6 (by decide) ?_
  refine s_iload_n dX10_stepsOf_7 1 rfl rfl ?_
  refine s_ishl dX10_stepsOf_8 ?_
  refine s_ior dX10_stepsOf_9 ?_
  exact s_ireturn rfl rfl rfl dX10_stepsOf_10
theorem dX10_forget_0 : decode cX10_forget 0 = .ok (.iconst 0, 1) := by decide +kernel
theorem dX10_forget_1 : decode cX10_forget 1 = .ok (.istore_n 1, 1) := by decide +kernel
theorem dX10_forget_2 : decode cX10_forget 2 = .ok (.iload_n 1, 1) := by decide +kernel
theorem dX10_forget_3 : decode cX10_forget 3 = .ok (.bipush 9, 2) := by decide +kernel
theorem dX10_forget_5 : decode cX10_forget 5 = .ok (.if_icmp .ge 16, 3) := by decide +kernel
theorem dX10_forget_8 : decode cX10_forget 8 = .ok (.aload_n 0, 1) := by decide +kernel
theorem dX10_forget_9 : decode cX10_forget 9 = .ok (.getfield 23, 3) := by decide +kernel
theorem dX10_forget_12 : decode cX10_forget 12 = .ok (.iload_n 1, 1) := by decide +kernel
theorem dX10_forget_13 : decode cX10_forget 13 = .ok (.iconst 0, 1) := by decide +kernel
theorem dX10_forget_14 : decode cX10_forget 14 = .ok (.bastore, 1) := by decide +kernel
theorem dX10_forget_15 : decode cX10_forget 15 = .ok (.iinc 1 1, 3) := by decide +kernel
theorem dX10_forget_18 : decode cX10_forget 18 = .ok (.goto (-16), 3) := by decide +kernel
theorem dX10_forget_21 : decode cX10_forget 21 = .ok (.iconst 0, 1) := by decide +kernel
theorem dX10_forget_22 : decode cX10_forget 22 = .ok (.istore_n 1, 1) := by decide +kernel
theorem dX10_forget_23 : decode cX10_forget 23 = .ok (.iload_n 1, 1) := by decide +kernel
theorem dX10_forget_24 : decode cX10_forget 24 = .ok (.iconst 3, 1) := by decide +kernel
theorem dX10_forget_25 : decode cX10_forget 25 = .ok (.if_icmp .ge 16, 3) := by decide +kernel
theorem dX10_forget_28 : decode cX10_forget 28 = .ok (.aload_n 0, 1) := by decide +kernel
theorem dX10_forget_29 : decode cX10_forget 29 = .ok (.getfield 49, 3) := by decide +kernel
theorem dX10_forget_32 : decode cX10_forget 32 = .ok (.iload_n 1, 1) := by decide +kernel
theorem dX10_forget_33 : decode cX10_forget 33 = .ok (.iconst 0, 1) := by decide +kernel
theorem dX10_forget_34 : decode cX10_forget 34 = .ok (.bastore, 1) := by decide +kernel
theorem dX10_forget_35 : decode cX10_forget 35 = .ok (.iinc 1 1, 3) := by decide +kernel
theorem dX10_forget_38 : decode cX10_forget 38 = .ok (.goto (-15), 3) := by decide +kernel
theorem dX10_forget_41 : decode cX10_forget 41 = .ok (.aload_n 0, 1) := by decide +kernel
theorem dX10_forget_42 : decode cX10_forget 42 = .ok (.iconst 0, 1) := by decide +kernel
theorem dX10_forget_43 : decode cX10_forget 43 = .ok (.putfield 87, 3) := by decide +kernel
theorem dX10_forget_46 : decode cX10_forget 46 = .ok (.aload_n 0, 1) := by decide +kernel
theorem dX10_forget_47 : decode cX10_forget 47 = .ok (.iconst 0, 1) := by decide +kernel
theorem dX10_forget_48 : decode cX10_forget 48 = .ok (.putfield 91, 3) := by decide +kernel
theorem dX10_forget_51 : decode cX10_forget 51 = .ok (.aload_n 0, 1) := by decide +kernel
theorem dX10_forget_52 : decode cX10_forget 52 = .ok (.iconst 0, 1) := by decide +kernel
theorem dX10_forget_53 : decode cX10_forget 53 = .ok (.putfield 94, 3) := by decide +kernel
theorem dX10_forget_56 : decode cX10_forget 56 = .ok (.return_, 1) := by decide +kernel
def f_X10_forget (σ : St) : Option (Unit × St) :=
  lo2 FU (fun rec3 (s1 : St) (x2 : Int32) =>
    (if x2 < (9 : Int32) then
      ck x2 9 <|
        bd (setI s1 104 x2.toNatClampNeg (0 : Int32)) fun s5 =>
          rec3 s5 (x2 + 1)
       else
      lo2 FU (fun rec8 (s6 : St) (x7 : Int32) =>
        (if x7 < (3 : Int32) then
          ck x7 3 <|
            bd (setI s6 112 x7.toNatClampNeg (0 : Int32)) fun s10 =>
              rec8 s10 (x7 + 1)
           else
          bd (setI s6 100 36 (0 : Int32)) fun s11 =>
            bd (setI s11 100 24 (0 : Int32)) fun s12 =>
              bd (setI s12 100 23 (0 : Int32)) fun s13 =>
                some ((), s13))) s1 (0 : Int32))) σ (0 : Int32)
set_option maxHeartbeats 4000000 in
set_option maxRecDepth 100000 in
theorem c_X10_forget (l : Launch) (E : Ev) (hF : Full E) (σ : St) : Ctr l (en2 enV) (fun q => q.2) E md_X10_forget [rV E 100] σ (f_X10_forget σ) := by
  refine ctr_of rfl (Nat.le_of_ble_eq_true rfl) (fun Γ => ?_)
  show Sim _ Γ _ E md_X10_forget σ 0 [(0, rV E 100)] [] _
  unfold f_X10_forget
  refine s_iconst (v := 0) dX10_forget_0 (by decide) ?_
  refine s_istore_n [(1, .int (0 : Int32)), (0, rV E 100)] dX10_forget_1 rfl (by decide) rfl ?_
  refine s_sub (lv' := [(0, rV E 100), (1, .int (0 : Int32))]) [1, 0] rfl ?_
  refine s_lo2 (σf := fun s1 x2 => s1) (lvf := fun s1 x2 => [(0, rV E 100), (1, .int x2)]) (fun rec3 ih4 s1 x2 => ?_)
  refine s_iload_n dX10_forget_2 1 rfl rfl ?_
  refine s_bipush (v := 9) dX10_forget_3 (by decide) ?_
  refine s_icmp_ge 21 dX10_forget_5 (by decide) ?_ ?_
  · skip
    refine s_aload_n dX10_forget_8 0 rfl rfl ?_
    refine s_getr (b := 104) gf_X10_23 rfl (m100 hF) k100 (ft_of k100 rfl) (hF.2 _ _) rfl dX10_forget_9 ?_
    refine s_iload_n dX10_forget_12 1 rfl rfl ?_
    refine s_iconst (v := 0) dX10_forget_13 (by decide) ?_
    refine s_zast (m104 hF) k104 l104 (by decide) dX10_forget_14 (fun s5 => ?_)
    refine s_iinc [(1, .int (x2 + 1)), (0, rV E 100)] dX10_forget_15 1 rfl rfl (by decide) rfl ?_
    refine s_goto 2 dX10_forget_18 (by decide) ?_
    refine s_sub [1, 0] rfl ?_
    exact ih4 s5 (x2 + 1)
  · skip
    refine s_iconst (v := 0) dX10_forget_21 (by decide) ?_
    refine s_istore_n [(1, .int (0 : Int32)), (0, rV E 100)] dX10_forget_22 rfl (by decide) rfl ?_
    refine s_sub (lv' := [(0, rV E 100), (1, .int (0 : Int32))]) [1, 0] rfl ?_
    refine s_lo2 (σf := fun s6 x7 => s6) (lvf := fun s6 x7 => [(0, rV E 100), (1, .int x7)]) (fun rec8 ih9 s6 x7 => ?_)
    refine s_iload_n dX10_forget_23 1 rfl rfl ?_
    refine s_iconst (v := 3) dX10_forget_24 (by decide) ?_
    refine s_icmp_ge 41 dX10_forget_25 (by decide) ?_ ?_
    · skip
      refine s_aload_n dX10_forget_28 0 rfl rfl ?_
      refine s_getr (b := 112) gf_X10_49 rfl (m100 hF) k100 (ft_of k100 rfl) (hF.2 _ _) rfl dX10_forget_29 ?_
      refine s_iload_n dX10_forget_32 1 rfl rfl ?_
      refine s_iconst (v := 0) dX10_forget_33 (by decide) ?_
      refine s_zast (m112 hF) k112 l112 (by decide) dX10_forget_34 (fun s10 => ?_)
      refine s_iinc [(1, .int (x7 + 1)), (0, rV E 100)] dX10_forget_35 1 rfl rfl (by decide) rfl ?_
      refine s_goto 23 dX10_forget_38 (by decide) ?_
      refine s_sub [1, 0] rfl ?_
      exact ih9 s10 (x7 + 1)
    · skip
      refine s_aload_n dX10_forget_41 0 rfl rfl ?_
      refine s_iconst (v := 0) dX10_forget_42 (by decide) ?_
      refine s_putz gf_X10_87 rfl (m100 hF) k100 (ft_of k100 rfl) (by decide) dX10_forget_43 (fun s11 => ?_)
      refine s_aload_n dX10_forget_46 0 rfl rfl ?_
      refine s_iconst (v := 0) dX10_forget_47 (by decide) ?_
      refine s_putz gf_X10_91 rfl (m100 hF) k100 (ft_of k100 rfl) (by decide) dX10_forget_48 (fun s12 => ?_)
      refine s_aload_n dX10_forget_51 0 rfl rfl ?_
      refine s_iconst (v := 0) dX10_forget_52 (by decide) ?_
      refine s_puti gf_X10_94 rfl (m100 hF) k100 (ft_of k100 rfl) dX10_forget_53 (fun s13 => ?_)
      exact s_return rfl rfl rfl dX10_forget_56
theorem dX10_write_0 : decode cX10_write 0 = .ok (.iload_n 3, 1) := by decide +kernel
theorem dX10_write_1 : decode cX10_write 1 = .ok (.iconst 1, 1) := by decide +kernel
theorem dX10_write_2 : decode cX10_write 2 = .ok (.bipush 8, 2) := by decide +kernel
theorem dX10_write_4 : decode cX10_write 4 = .ok (.invokestatic 83, 3) := by decide +kernel
theorem dX10_write_7 : decode cX10_write 7 = .ok (.ifCond .ne 6, 3) := by decide +kernel
theorem dX10_write_10 : decode cX10_write 10 = .ok (.bipush (-3), 2) := by decide +kernel
theorem dX10_write_12 : decode cX10_write 12 = .ok (.ireturn, 1) := by decide +kernel
theorem dX10_write_13 : decode cX10_write 13 = .ok (.aload_n 0, 1) := by decide +kernel
theorem dX10_write_14 : decode cX10_write 14 = .ok (.getfield 97, 3) := by decide +kernel
theorem dX10_write_17 : decode cX10_write 17 = .ok (.iload_n 3, 1) := by decide +kernel
theorem dX10_write_18 : decode cX10_write 18 = .ok (.iadd, 1) := by decide +kernel
theorem dX10_write_19 : decode cX10_write 19 = .ok (.sipush 160, 3) := by decide +kernel
theorem dX10_write_22 : decode cX10_write 22 = .ok (.if_icmp .le 6, 3) := by decide +kernel
theorem dX10_write_25 : decode cX10_write 25 = .ok (.bipush (-5), 2) := by decide +kernel
theorem dX10_write_27 : decode cX10_write 27 = .ok (.ireturn, 1) := by decide +kernel
theorem dX10_write_28 : decode cX10_write 28 = .ok (.iconst 0, 1) := by decide +kernel
theorem dX10_write_29 : decode cX10_write 29 = .ok (.istore 4, 2) := by decide +kernel
theorem dX10_write_31 : decode cX10_write 31 = .ok (.iload 4, 2) := by decide +kernel
theorem dX10_write_33 : decode cX10_write 33 = .ok (.iload_n 3, 1) := by decide +kernel
theorem dX10_write_34 : decode cX10_write 34 = .ok (.if_icmp .ge 33, 3) := by decide +kernel
theorem dX10_write_37 : decode cX10_write 37 = .ok (.aload_n 0, 1) := by decide +kernel
theorem dX10_write_38 : decode cX10_write 38 = .ok (.getfield 17, 3) := by decide +kernel
theorem dX10_write_41 : decode cX10_write 41 = .ok (.aload_n 0, 1) := by decide +kernel
theorem dX10_write_42 : decode cX10_write 42 = .ok (.getfield 97, 3) := by decide +kernel
theorem dX10_write_45 : decode cX10_write 45 = .ok (.iload 4, 2) := by decide +kernel
theorem dX10_write_47 : decode cX10_write 47 = .ok (.iadd, 1) := by decide +kernel
theorem dX10_write_48 : decode cX10_write 48 = .ok (.lload_n 1, 1) := by decide +kernel
theorem dX10_write_49 : decode cX10_write 49 = .ok (.bipush 8, 2) := by decide +kernel
theorem dX10_write_51 : decode cX10_write 51 = .ok (.iload 4, 2) := by decide +kernel
theorem dX10_write_53 : decode cX10_write 53 = .ok (.imul, 1) := by decide +kernel
theorem dX10_write_54 : decode cX10_write 54 = .ok (.lshr, 1) := by decide +kernel
theorem dX10_write_55 : decode cX10_write 55 = .ok (.ldc2_w 100, 3) := by decide +kernel
theorem dX10_write_58 : decode cX10_write 58 = .ok (.land, 1) := by decide +kernel
theorem dX10_write_59 : decode cX10_write 59 = .ok (.l2i, 1) := by decide +kernel
theorem dX10_write_60 : decode cX10_write 60 = .ok (.iastore, 1) := by decide +kernel
theorem dX10_write_61 : decode cX10_write 61 = .ok (.iinc 4 1, 3) := by decide +kernel
theorem dX10_write_64 : decode cX10_write 64 = .ok (.goto (-33), 3) := by decide +kernel
theorem dX10_write_67 : decode cX10_write 67 = .ok (.aload_n 0, 1) := by decide +kernel
theorem dX10_write_68 : decode cX10_write 68 = .ok (.dup, 1) := by decide +kernel
theorem dX10_write_69 : decode cX10_write 69 = .ok (.getfield 97, 3) := by decide +kernel
theorem dX10_write_72 : decode cX10_write 72 = .ok (.iload_n 3, 1) := by decide +kernel
theorem dX10_write_73 : decode cX10_write 73 = .ok (.iadd, 1) := by decide +kernel
theorem dX10_write_74 : decode cX10_write 74 = .ok (.putfield 97, 3) := by decide +kernel
theorem dX10_write_77 : decode cX10_write 77 = .ok (.aload_n 0, 1) := by decide +kernel
theorem dX10_write_78 : decode cX10_write 78 = .ok (.getfield 97, 3) := by decide +kernel
theorem dX10_write_81 : decode cX10_write 81 = .ok (.ireturn, 1) := by decide +kernel
def f_X10_write (σ : St) (v1 : Int64) (v3 : Int32) : Option (Int32 × St) :=
  calP (f_X10_in σ v3 (1 : Int32) (8 : Int32)) fun r1 =>
    (if r1 = 0 then
      some ((-3 : Int32), σ)
       else
      (if (160 : Int32) < ((σ.1 100 2) + v3) then
        some ((-5 : Int32), σ)
         else
        lo2 FU (fun rec4 (s2 : St) (x3 : Int32) =>
          (if x3 < v3 then
            ck ((s2.1 100 2) + x3) 160 <|
              bd (setI s2 102 ((s2.1 100 2) + x3).toNatClampNeg ((v1 >>> (((8 : Int32) * x3).toInt64 &&& 63)) &&& (255 : Int64)).toInt32) fun s6 =>
                rec4 s6 (x3 + 1)
             else
            bd (setI s2 100 2 ((s2.1 100 2) + v3)) fun s7 =>
              some ((s7.1 100 2), s7))) σ (0 : Int32)))
set_option maxHeartbeats 4000000 in
set_option maxRecDepth 100000 in
theorem c_X10_write (l : Launch) (E : Ev) (hF : Full E) (σ : St) (v1 : Int64) (v3 : Int32) : Ctr l (en2 enI) (fun q => q.2) E md_X10_write [rV E 100, .long v1, .int v3] σ (f_X10_write σ v1 v3) := by
  refine ctr_of rfl (Nat.le_of_ble_eq_true rfl) (fun Γ => ?_)
  show Sim _ Γ _ E md_X10_write σ 0 [(0, rV E 100), (1, .long v1), (3, .int v3)] [] _
  unfold f_X10_write
  refine s_iload_n dX10_write_0 2 rfl rfl ?_
  refine s_iconst (v := 1) dX10_write_1 (by decide) ?_
  refine s_bipush (v := 8) dX10_write_2 (by decide) ?_
  refine s_callSpI (As := [.int v3, .int (1 : Int32), .int (8 : Int32)]) mf_X10_in vf_X10_in ml_X10_83 (c_X10_in _ E hF σ v3 (1 : Int32) (8 : Int32)) rfl rfl (Nat.le_of_ble_eq_true rfl) rfl dX10_write_4 (fun r1 => ?_)
  refine s_if_ne 13 dX10_write_7 (by decide) ?_ ?_
  · skip
    refine s_bipush (v := -3) dX10_write_10 (by decide) ?_
    exact s_ireturn rfl rfl rfl dX10_write_12
  · skip
    refine s_aload_n dX10_write_13 0 rfl rfl ?_
    refine s_geti gf_X10_97 rfl (m100 hF) k100 (ft_of k100 rfl) dX10_write_14 ?_
    refine s_iload_n dX10_write_17 2 rfl rfl ?_
    refine s_iadd dX10_write_18 ?_
    refine s_sipush (v := 160) dX10_write_19 (by decide) ?_
    refine s_icmp_le 28 dX10_write_22 (by decide) ?_ ?_
    · skip
      refine s_bipush (v := -5) dX10_write_25 (by decide) ?_
      exact s_ireturn rfl rfl rfl dX10_write_27
    · skip
      refine s_iconst (v := 0) dX10_write_28 (by decide) ?_
      refine s_istore [(4, .int (0 : Int32)), (0, rV E 100), (1, .long v1), (3, .int v3)] dX10_write_29 (by decide) rfl ?_
      refine s_sub (lv' := [(0, rV E 100), (1, .long v1), (3, .int v3), (4, .int (0 : Int32))]) [1, 2, 3, 0] rfl ?_
      refine s_lo2 (σf := fun s2 x3 => s2) (lvf := fun s2 x3 => [(0, rV E 100), (1, .long v1), (3, .int v3), (4, .int x3)]) (fun rec4 ih5 s2 x3 => ?_)
      refine s_iload dX10_write_31 3 rfl ?_
      refine s_iload_n dX10_write_33 2 rfl rfl ?_
      refine s_icmp_ge 67 dX10_write_34 (by decide) ?_ ?_
      · skip
        refine s_aload_n dX10_write_37 0 rfl rfl ?_
        refine s_getr (b := 102) gf_X10_17 rfl (m100 hF) k100 (ft_of k100 rfl) (hF.2 _ _) rfl dX10_write_38 ?_
        refine s_aload_n dX10_write_41 0 rfl rfl ?_
        refine s_geti gf_X10_97 rfl (m100 hF) k100 (ft_of k100 rfl) dX10_write_42 ?_
        refine s_iload dX10_write_45 3 rfl ?_
        refine s_iadd dX10_write_47 ?_
        refine s_lload_n dX10_write_48 1 rfl rfl ?_
        refine s_bipush (v := 8) dX10_write_49 (by decide) ?_
        refine s_iload dX10_write_51 3 rfl ?_
        refine s_imul dX10_write_53 ?_
        refine s_lshr dX10_write_54 rfl ?_
        refine s_ldc2 (v := 255) rfl w_1187 dX10_write_55 ?_
        refine s_land dX10_write_58 ?_
        refine s_l2i dX10_write_59 rfl ?_
        refine s_iast (m102 hF) k102 l102 dX10_write_60 (fun s6 => ?_)
        refine s_iinc [(4, .int (x3 + 1)), (0, rV E 100), (1, .long v1), (3, .int v3)] dX10_write_61 3 rfl rfl (by decide) rfl ?_
        refine s_goto 31 dX10_write_64 (by decide) ?_
        refine s_sub [1, 2, 3, 0] rfl ?_
        exact ih5 s6 (x3 + 1)
      · skip
        refine s_aload_n dX10_write_67 0 rfl rfl ?_
        refine s_dup dX10_write_68 rfl ?_
        refine s_geti gf_X10_97 rfl (m100 hF) k100 (ft_of k100 rfl) dX10_write_69 ?_
        refine s_iload_n dX10_write_72 2 rfl rfl ?_
        refine s_iadd dX10_write_73 ?_
        refine s_puti gf_X10_97 rfl (m100 hF) k100 (ft_of k100 rfl) dX10_write_74 (fun s7 => ?_)
        refine s_aload_n dX10_write_77 0 rfl rfl ?_
        refine s_geti gf_X10_97 rfl (m100 hF) k100 (ft_of k100 rfl) dX10_write_78 ?_
        exact s_ireturn rfl rfl rfl dX10_write_81
theorem dX10_erase_0 : decode cX10_erase 0 = .ok (.aload_n 0, 1) := by decide +kernel
theorem dX10_erase_1 : decode cX10_erase 1 = .ok (.getfield 97, 3) := by decide +kernel
theorem dX10_erase_4 : decode cX10_erase 4 = .ok (.istore_n 1, 1) := by decide +kernel
theorem dX10_erase_5 : decode cX10_erase 5 = .ok (.aload_n 0, 1) := by decide +kernel
theorem dX10_erase_6 : decode cX10_erase 6 = .ok (.iconst 0, 1) := by decide +kernel
theorem dX10_erase_7 : decode cX10_erase 7 = .ok (.putfield 97, 3) := by decide +kernel
theorem dX10_erase_10 : decode cX10_erase 10 = .ok (.iload_n 1, 1) := by decide +kernel
theorem dX10_erase_11 : decode cX10_erase 11 = .ok (.ireturn, 1) := by decide +kernel
def f_X10_erase (σ : St) : Option (Int32 × St) :=
  bd (σ.1 100 2) fun x1 =>
    bd (setI σ 100 2 (0 : Int32)) fun s2 =>
      some (x1, s2)
set_option maxHeartbeats 4000000 in
set_option maxRecDepth 100000 in
theorem c_X10_erase (l : Launch) (E : Ev) (hF : Full E) (σ : St) : Ctr l (en2 enI) (fun q => q.2) E md_X10_erase [rV E 100] σ (f_X10_erase σ) := by
  refine ctr_of rfl (Nat.le_of_ble_eq_true rfl) (fun Γ => ?_)
  show Sim _ Γ _ E md_X10_erase σ 0 [(0, rV E 100)] [] _
  unfold f_X10_erase
  refine s_aload_n dX10_erase_0 0 rfl rfl ?_
  refine s_geti gf_X10_97 rfl (m100 hF) k100 (ft_of k100 rfl) dX10_erase_1 ?_
  refine s_istore_nB (fun x1 => [(1, .int x1), (0, rV E 100)]) dX10_erase_4 rfl (by decide) (fun _ => rfl) (fun x1 => ?_)
  refine s_aload_n dX10_erase_5 1 rfl rfl ?_
  refine s_iconst (v := 0) dX10_erase_6 (by decide) ?_
  refine s_puti gf_X10_97 rfl (m100 hF) k100 (ft_of k100 rfl) dX10_erase_7 (fun s2 => ?_)
  refine s_iload_n dX10_erase_10 0 rfl rfl ?_
  exact s_ireturn rfl rfl rfl dX10_erase_11
theorem dX10_nextToken_0 : decode cX10_nextToken 0 = .ok (.aload_n 0, 1) := by decide +kernel
theorem dX10_nextToken_1 : decode cX10_nextToken 1 = .ok (.getfield 102, 3) := by decide +kernel
theorem dX10_nextToken_4 : decode cX10_nextToken 4 = .ok (.aload_n 0, 1) := by decide +kernel
theorem dX10_nextToken_5 : decode cX10_nextToken 5 = .ok (.getfield 97, 3) := by decide +kernel
theorem dX10_nextToken_8 : decode cX10_nextToken 8 = .ok (.if_icmp .ge 30, 3) := by decide +kernel
theorem dX10_nextToken_11 : decode cX10_nextToken 11 = .ok (.aload_n 0, 1) := by decide +kernel
theorem dX10_nextToken_12 : decode cX10_nextToken 12 = .ok (.getfield 17, 3) := by decide +kernel
theorem dX10_nextToken_15 : decode cX10_nextToken 15 = .ok (.aload_n 0, 1) := by decide +kernel
theorem dX10_nextToken_16 : decode cX10_nextToken 16 = .ok (.getfield 102, 3) := by decide +kernel
theorem dX10_nextToken_19 : decode cX10_nextToken 19 = .ok (.iaload, 1) := by decide +kernel
theorem dX10_nextToken_20 : decode cX10_nextToken 20 = .ok (.bipush 32, 2) := by decide +kernel
theorem dX10_nextToken_22 : decode cX10_nextToken 22 = .ok (.if_icmp .ne 16, 3) := by decide +kernel
theorem dX10_nextToken_25 : decode cX10_nextToken 25 = .ok (.aload_n 0, 1) := by decide +kernel
theorem dX10_nextToken_26 : decode cX10_nextToken 26 = .ok (.dup, 1) := by decide +kernel
theorem dX10_nextToken_27 : decode cX10_nextToken 27 = .ok (.getfield 102, 3) := by decide +kernel
theorem dX10_nextToken_30 : decode cX10_nextToken 30 = .ok (.iconst 1, 1) := by decide +kernel
theorem dX10_nextToken_31 : decode cX10_nextToken 31 = .ok (.iadd, 1) := by decide +kernel
theorem dX10_nextToken_32 : decode cX10_nextToken 32 = .ok (.putfield 102, 3) := by decide +kernel
theorem dX10_nextToken_35 : decode cX10_nextToken 35 = .ok (.goto (-35), 3) := by decide +kernel
theorem dX10_nextToken_38 : decode cX10_nextToken 38 = .ok (.aload_n 0, 1) := by decide +kernel
theorem dX10_nextToken_39 : decode cX10_nextToken 39 = .ok (.aload_n 0, 1) := by decide +kernel
theorem dX10_nextToken_40 : decode cX10_nextToken 40 = .ok (.getfield 102, 3) := by decide +kernel
theorem dX10_nextToken_43 : decode cX10_nextToken 43 = .ok (.putfield 105, 3) := by decide +kernel
theorem dX10_nextToken_46 : decode cX10_nextToken 46 = .ok (.aload_n 0, 1) := by decide +kernel
theorem dX10_nextToken_47 : decode cX10_nextToken 47 = .ok (.iconst 0, 1) := by decide +kernel
theorem dX10_nextToken_48 : decode cX10_nextToken 48 = .ok (.putfield 108, 3) := by decide +kernel
theorem dX10_nextToken_51 : decode cX10_nextToken 51 = .ok (.aload_n 0, 1) := by decide +kernel
theorem dX10_nextToken_52 : decode cX10_nextToken 52 = .ok (.iconst 0, 1) := by decide +kernel
theorem dX10_nextToken_53 : decode cX10_nextToken 53 = .ok (.putfield 111, 3) := by decide +kernel
theorem dX10_nextToken_56 : decode cX10_nextToken 56 = .ok (.aload_n 0, 1) := by decide +kernel
theorem dX10_nextToken_57 : decode cX10_nextToken 57 = .ok (.getfield 102, 3) := by decide +kernel
theorem dX10_nextToken_60 : decode cX10_nextToken 60 = .ok (.aload_n 0, 1) := by decide +kernel
theorem dX10_nextToken_61 : decode cX10_nextToken 61 = .ok (.getfield 97, 3) := by decide +kernel
theorem dX10_nextToken_64 : decode cX10_nextToken 64 = .ok (.if_icmp .ne 13, 3) := by decide +kernel
theorem dX10_nextToken_67 : decode cX10_nextToken 67 = .ok (.aload_n 0, 1) := by decide +kernel
theorem dX10_nextToken_68 : decode cX10_nextToken 68 = .ok (.ldc2_w 114, 3) := by decide +kernel
theorem dX10_nextToken_71 : decode cX10_nextToken 71 = .ok (.putfield 116, 3) := by decide +kernel
theorem dX10_nextToken_74 : decode cX10_nextToken 74 = .ok (.goto 297, 3) := by decide +kernel
theorem dX10_nextToken_77 : decode cX10_nextToken 77 = .ok (.aload_n 0, 1) := by decide +kernel
theorem dX10_nextToken_78 : decode cX10_nextToken 78 = .ok (.getfield 17, 3) := by decide +kernel
theorem dX10_nextToken_81 : decode cX10_nextToken 81 = .ok (.aload_n 0, 1) := by decide +kernel
theorem dX10_nextToken_82 : decode cX10_nextToken 82 = .ok (.getfield 102, 3) := by decide +kernel
theorem dX10_nextToken_85 : decode cX10_nextToken 85 = .ok (.iaload, 1) := by decide +kernel
theorem dX10_nextToken_86 : decode cX10_nextToken 86 = .ok (.bipush 97, 2) := by decide +kernel
theorem dX10_nextToken_88 : decode cX10_nextToken 88 = .ok (.bipush 122, 2) := by decide +kernel
theorem dX10_nextToken_90 : decode cX10_nextToken 90 = .ok (.invokestatic 83, 3) := by decide +kernel
theorem dX10_nextToken_93 : decode cX10_nextToken 93 = .ok (.ifCond .eq 129, 3) := by decide +kernel
theorem dX10_nextToken_96 : decode cX10_nextToken 96 = .ok (.aload_n 0, 1) := by decide +kernel
theorem dX10_nextToken_97 : decode cX10_nextToken 97 = .ok (.lconst 0, 1) := by decide +kernel
theorem dX10_nextToken_98 : decode cX10_nextToken 98 = .ok (.putfield 116, 3) := by decide +kernel
theorem dX10_nextToken_101 : decode cX10_nextToken 101 = .ok (.aload_n 0, 1) := by decide +kernel
theorem dX10_nextToken_102 : decode cX10_nextToken 102 = .ok (.getfield 102, 3) := by decide +kernel
theorem dX10_nextToken_105 : decode cX10_nextToken 105 = .ok (.aload_n 0, 1) := by decide +kernel
theorem dX10_nextToken_106 : decode cX10_nextToken 106 = .ok (.getfield 97, 3) := by decide +kernel
theorem dX10_nextToken_109 : decode cX10_nextToken 109 = .ok (.if_icmp .ge 82, 3) := by decide +kernel
theorem dX10_nextToken_112 : decode cX10_nextToken 112 = .ok (.aload_n 0, 1) := by decide +kernel
theorem dX10_nextToken_113 : decode cX10_nextToken 113 = .ok (.getfield 17, 3) := by decide +kernel
theorem dX10_nextToken_116 : decode cX10_nextToken 116 = .ok (.aload_n 0, 1) := by decide +kernel
theorem dX10_nextToken_117 : decode cX10_nextToken 117 = .ok (.getfield 102, 3) := by decide +kernel
theorem dX10_nextToken_120 : decode cX10_nextToken 120 = .ok (.iaload, 1) := by decide +kernel
theorem dX10_nextToken_121 : decode cX10_nextToken 121 = .ok (.bipush 97, 2) := by decide +kernel
theorem dX10_nextToken_123 : decode cX10_nextToken 123 = .ok (.bipush 122, 2) := by decide +kernel
theorem dX10_nextToken_125 : decode cX10_nextToken 125 = .ok (.invokestatic 83, 3) := by decide +kernel
theorem dX10_nextToken_128 : decode cX10_nextToken 128 = .ok (.ifCond .eq 63, 3) := by decide +kernel
theorem dX10_nextToken_131 : decode cX10_nextToken 131 = .ok (.aload_n 0, 1) := by decide +kernel
theorem dX10_nextToken_132 : decode cX10_nextToken 132 = .ok (.aload_n 0, 1) := by decide +kernel
theorem dX10_nextToken_133 : decode cX10_nextToken 133 = .ok (.getfield 102, 3) := by decide +kernel
theorem dX10_nextToken_136 : decode cX10_nextToken 136 = .ok (.aload_n 0, 1) := by decide +kernel
theorem dX10_nextToken_137 : decode cX10_nextToken 137 = .ok (.getfield 105, 3) := by decide +kernel
theorem dX10_nextToken_140 : decode cX10_nextToken 140 = .ok (.isub, 1) := by decide +kernel
theorem dX10_nextToken_141 : decode cX10_nextToken 141 = .ok (.bipush 9, 2) := by decide +kernel
theorem dX10_nextToken_143 : decode cX10_nextToken 143 = .ok (.if_icmp .ge 29, 3) := by decide +kernel
theorem dX10_nextToken_146 : decode cX10_nextToken 146 = .ok (.ldc2_w 120, 3) := by decide +kernel
theorem dX10_nextToken_149 : decode cX10_nextToken 149 = .ok (.aload_n 0, 1) := by decide +kernel
theorem dX10_nextToken_150 : decode cX10_nextToken 150 = .ok (.getfield 116, 3) := by decide +kernel
theorem dX10_nextToken_153 : decode cX10_nextToken 153 = .ok (.lmul, 1) := by decide +kernel
theorem dX10_nextToken_154 : decode cX10_nextToken 154 = .ok (.aload_n 0, 1) := by decide +kernel
theorem dX10_nextToken_155 : decode cX10_nextToken 155 = .ok (.getfield 17, 3) := by decide +kernel
theorem dX10_nextToken_158 : decode cX10_nextToken 158 = .ok (.aload_n 0, 1) := by decide +kernel
theorem dX10_nextToken_159 : decode cX10_nextToken 159 = .ok (.getfield 102, 3) := by decide +kernel
theorem dX10_nextToken_162 : decode cX10_nextToken 162 = .ok (.iaload, 1) := by decide +kernel
theorem dX10_nextToken_163 : decode cX10_nextToken 163 = .ok (.i2l, 1) := by decide +kernel
theorem dX10_nextToken_164 : decode cX10_nextToken 164 = .ok (.ladd, 1) := by decide +kernel
theorem dX10_nextToken_165 : decode cX10_nextToken 165 = .ok (.ldc2_w 122, 3) := by decide +kernel
theorem dX10_nextToken_168 : decode cX10_nextToken 168 = .ok (.lsub, 1) := by decide +kernel
theorem dX10_nextToken_169 : decode cX10_nextToken 169 = .ok (.goto 6, 3) := by decide +kernel
theorem dX10_nextToken_172 : decode cX10_nextToken 172 = .ok (.ldc2_w 124, 3) := by decide +kernel
theorem dX10_nextToken_175 : decode cX10_nextToken 175 = .ok (.putfield 116, 3) := by decide +kernel
theorem dX10_nextToken_178 : decode cX10_nextToken 178 = .ok (.aload_n 0, 1) := by decide +kernel
theorem dX10_nextToken_179 : decode cX10_nextToken 179 = .ok (.dup, 1) := by decide +kernel
theorem dX10_nextToken_180 : decode cX10_nextToken 180 = .ok (.getfield 102, 3) := by decide +kernel
theorem dX10_nextToken_183 : decode cX10_nextToken 183 = .ok (.iconst 1, 1) := by decide +kernel
theorem dX10_nextToken_184 : decode cX10_nextToken 184 = .ok (.iadd, 1) := by decide +kernel
theorem dX10_nextToken_185 : decode cX10_nextToken 185 = .ok (.putfield 102, 3) := by decide +kernel
theorem dX10_nextToken_188 : decode cX10_nextToken 188 = .ok (.goto (-87), 3) := by decide +kernel
theorem dX10_nextToken_191 : decode cX10_nextToken 191 = .ok (.aload_n 0, 1) := by decide +kernel
theorem dX10_nextToken_192 : decode cX10_nextToken 192 = .ok (.aload_n 0, 1) := by decide +kernel
theorem dX10_nextToken_193 : decode cX10_nextToken 193 = .ok (.getfield 102, 3) := by decide +kernel
theorem dX10_nextToken_196 : decode cX10_nextToken 196 = .ok (.aload_n 0, 1) := by decide +kernel
theorem dX10_nextToken_197 : decode cX10_nextToken 197 = .ok (.getfield 105, 3) := by decide +kernel
theorem dX10_nextToken_200 : decode cX10_nextToken 200 = .ok (.isub, 1) := by decide +kernel
theorem dX10_nextToken_201 : decode cX10_nextToken 201 = .ok (.bipush 9, 2) := by decide +kernel
theorem dX10_nextToken_203 : decode cX10_nextToken 203 = .ok (.if_icmp .le 9, 3) := by decide +kernel
theorem dX10_nextToken_206 : decode cX10_nextToken 206 = .ok (.ldc2_w 124, 3) := by decide +kernel
theorem dX10_nextToken_209 : decode cX10_nextToken 209 = .ok (.goto 7, 3) := by decide +kernel
theorem dX10_nextToken_212 : decode cX10_nextToken 212 = .ok (.aload_n 0, 1) := by decide +kernel
theorem dX10_nextToken_213 : decode cX10_nextToken 213 = .ok (.getfield 116, 3) := by decide +kernel
theorem dX10_nextToken_216 : decode cX10_nextToken 216 = .ok (.putfield 116, 3) := by decide +kernel
theorem dX10_nextToken_219 : decode cX10_nextToken 219 = .ok (.goto 152, 3) := by decide +kernel
theorem dX10_nextToken_222 : decode cX10_nextToken 222 = .ok (.aload_n 0, 1) := by decide +kernel
theorem dX10_nextToken_223 : decode cX10_nextToken 223 = .ok (.getfield 17, 3) := by decide +kernel
theorem dX10_nextToken_226 : decode cX10_nextToken 226 = .ok (.aload_n 0, 1) := by decide +kernel
theorem dX10_nextToken_227 : decode cX10_nextToken 227 = .ok (.getfield 102, 3) := by decide +kernel
theorem dX10_nextToken_230 : decode cX10_nextToken 230 = .ok (.iaload, 1) := by decide +kernel
theorem dX10_nextToken_231 : decode cX10_nextToken 231 = .ok (.bipush 48, 2) := by decide +kernel
theorem dX10_nextToken_233 : decode cX10_nextToken 233 = .ok (.bipush 57, 2) := by decide +kernel
theorem dX10_nextToken_235 : decode cX10_nextToken 235 = .ok (.invokestatic 83, 3) := by decide +kernel
theorem dX10_nextToken_238 : decode cX10_nextToken 238 = .ok (.ifCond .eq 96, 3) := by decide +kernel
theorem dX10_nextToken_241 : decode cX10_nextToken 241 = .ok (.aload_n 0, 1) := by decide +kernel
theorem dX10_nextToken_242 : decode cX10_nextToken 242 = .ok (.getfield 102, 3) := by decide +kernel
theorem dX10_nextToken_245 : decode cX10_nextToken 245 = .ok (.aload_n 0, 1) := by decide +kernel
theorem dX10_nextToken_246 : decode cX10_nextToken 246 = .ok (.getfield 97, 3) := by decide +kernel
theorem dX10_nextToken_249 : decode cX10_nextToken 249 = .ok (.if_icmp .ge 61, 3) := by decide +kernel
theorem dX10_nextToken_252 : decode cX10_nextToken 252 = .ok (.aload_n 0, 1) := by decide +kernel
theorem dX10_nextToken_253 : decode cX10_nextToken 253 = .ok (.getfield 17, 3) := by decide +kernel
theorem dX10_nextToken_256 : decode cX10_nextToken 256 = .ok (.aload_n 0, 1) := by decide +kernel
theorem dX10_nextToken_257 : decode cX10_nextToken 257 = .ok (.getfield 102, 3) := by decide +kernel
theorem dX10_nextToken_260 : decode cX10_nextToken 260 = .ok (.iaload, 1) := by decide +kernel
theorem dX10_nextToken_261 : decode cX10_nextToken 261 = .ok (.bipush 48, 2) := by decide +kernel
theorem dX10_nextToken_263 : decode cX10_nextToken 263 = .ok (.bipush 57, 2) := by decide +kernel
theorem dX10_nextToken_265 : decode cX10_nextToken 265 = .ok (.invokestatic 83, 3) := by decide +kernel
theorem dX10_nextToken_268 : decode cX10_nextToken 268 = .ok (.ifCond .eq 42, 3) := by decide +kernel
theorem dX10_nextToken_271 : decode cX10_nextToken 271 = .ok (.aload_n 0, 1) := by decide +kernel
theorem dX10_nextToken_272 : decode cX10_nextToken 272 = .ok (.aload_n 0, 1) := by decide +kernel
theorem dX10_nextToken_273 : decode cX10_nextToken 273 = .ok (.getfield 17, 3) := by decide +kernel
theorem dX10_nextToken_276 : decode cX10_nextToken 276 = .ok (.aload_n 0, 1) := by decide +kernel
theorem dX10_nextToken_277 : decode cX10_nextToken 277 = .ok (.getfield 102, 3) := by decide +kernel
theorem dX10_nextToken_280 : decode cX10_nextToken 280 = .ok (.iaload, 1) := by decide +kernel
theorem dX10_nextToken_281 : decode cX10_nextToken 281 = .ok (.bipush 48, 2) := by decide +kernel
theorem dX10_nextToken_283 : decode cX10_nextToken 283 = .ok (.isub, 1) := by decide +kernel
theorem dX10_nextToken_284 : decode cX10_nextToken 284 = .ok (.putfield 111, 3) := by decide +kernel
theorem dX10_nextToken_287 : decode cX10_nextToken 287 = .ok (.aload_n 0, 1) := by decide +kernel
theorem dX10_nextToken_288 : decode cX10_nextToken 288 = .ok (.dup, 1) := by decide +kernel
theorem dX10_nextToken_289 : decode cX10_nextToken 289 = .ok (.getfield 108, 3) := by decide +kernel
theorem dX10_nextToken_292 : decode cX10_nextToken 292 = .ok (.iconst 1, 1) := by decide +kernel
theorem dX10_nextToken_293 : decode cX10_nextToken 293 = .ok (.iadd, 1) := by decide +kernel
theorem dX10_nextToken_294 : decode cX10_nextToken 294 = .ok (.putfield 108, 3) := by decide +kernel
theorem dX10_nextToken_297 : decode cX10_nextToken 297 = .ok (.aload_n 0, 1) := by decide +kernel
theorem dX10_nextToken_298 : decode cX10_nextToken 298 = .ok (.dup, 1) := by decide +kernel
theorem dX10_nextToken_299 : decode cX10_nextToken 299 = .ok (.getfield 102, 3) := by decide +kernel
theorem dX10_nextToken_302 : decode cX10_nextToken 302 = .ok (.iconst 1, 1) := by decide +kernel
theorem dX10_nextToken_303 : decode cX10_nextToken 303 = .ok (.iadd, 1) := by decide +kernel
theorem dX10_nextToken_304 : decode cX10_nextToken 304 = .ok (.putfield 102, 3) := by decide +kernel
theorem dX10_nextToken_307 : decode cX10_nextToken 307 = .ok (.goto (-66), 3) := by decide +kernel
theorem dX10_nextToken_310 : decode cX10_nextToken 310 = .ok (.aload_n 0, 1) := by decide +kernel
theorem dX10_nextToken_311 : decode cX10_nextToken 311 = .ok (.aload_n 0, 1) := by decide +kernel
theorem dX10_nextToken_312 : decode cX10_nextToken 312 = .ok (.getfield 108, 3) := by decide +kernel
theorem dX10_nextToken_315 : decode cX10_nextToken 315 = .ok (.iconst 1, 1) := by decide +kernel
theorem dX10_nextToken_316 : decode cX10_nextToken 316 = .ok (.if_icmp .le 9, 3) := by decide +kernel
theorem dX10_nextToken_319 : decode cX10_nextToken 319 = .ok (.ldc2_w 124, 3) := by decide +kernel
theorem dX10_nextToken_322 : decode cX10_nextToken 322 = .ok (.goto 6, 3) := by decide +kernel
theorem dX10_nextToken_325 : decode cX10_nextToken 325 = .ok (.ldc2_w 126, 3) := by decide +kernel
theorem dX10_nextToken_328 : decode cX10_nextToken 328 = .ok (.putfield 116, 3) := by decide +kernel
theorem dX10_nextToken_331 : decode cX10_nextToken 331 = .ok (.goto 40, 3) := by decide +kernel
theorem dX10_nextToken_334 : decode cX10_nextToken 334 = .ok (.aload_n 0, 1) := by decide +kernel
theorem dX10_nextToken_335 : decode cX10_nextToken 335 = .ok (.aload_n 0, 1) := by decide +kernel
theorem dX10_nextToken_336 : decode cX10_nextToken 336 = .ok (.getfield 17, 3) := by decide +kernel
theorem dX10_nextToken_339 : decode cX10_nextToken 339 = .ok (.aload_n 0, 1) := by decide +kernel
theorem dX10_nextToken_340 : decode cX10_nextToken 340 = .ok (.getfield 102, 3) := by decide +kernel
theorem dX10_nextToken_343 : decode cX10_nextToken 343 = .ok (.iaload, 1) := by decide +kernel
theorem dX10_nextToken_344 : decode cX10_nextToken 344 = .ok (.bipush 59, 2) := by decide +kernel
theorem dX10_nextToken_346 : decode cX10_nextToken 346 = .ok (.if_icmp .ne 9, 3) := by decide +kernel
theorem dX10_nextToken_349 : decode cX10_nextToken 349 = .ok (.ldc2_w 128, 3) := by decide +kernel
theorem dX10_nextToken_352 : decode cX10_nextToken 352 = .ok (.goto 6, 3) := by decide +kernel
theorem dX10_nextToken_355 : decode cX10_nextToken 355 = .ok (.ldc2_w 124, 3) := by decide +kernel
theorem dX10_nextToken_358 : decode cX10_nextToken 358 = .ok (.putfield 116, 3) := by decide +kernel
theorem dX10_nextToken_361 : decode cX10_nextToken 361 = .ok (.aload_n 0, 1) := by decide +kernel
theorem dX10_nextToken_362 : decode cX10_nextToken 362 = .ok (.dup, 1) := by decide +kernel
theorem dX10_nextToken_363 : decode cX10_nextToken 363 = .ok (.getfield 102, 3) := by decide +kernel
theorem dX10_nextToken_366 : decode cX10_nextToken 366 = .ok (.iconst 1, 1) := by decide +kernel
theorem dX10_nextToken_367 : decode cX10_nextToken 367 = .ok (.iadd, 1) := by decide +kernel
theorem dX10_nextToken_368 : decode cX10_nextToken 368 = .ok (.putfield 102, 3) := by decide +kernel
theorem dX10_nextToken_371 : decode cX10_nextToken 371 = .ok (.return_, 1) := by decide +kernel
def f_X10_nextToken (σ : St) : Option (Unit × St) :=
  lo1 FU (fun rec2 (s1 : St) =>
    jn0 (fun jk4 =>
      (if (s1.1 100 4) < (s1.1 100 2) then
        ck (s1.1 100 4) 160 <|
          (if (s1.1 102 (s1.1 100 4).toNatClampNeg) = (32 : Int32) then
            bd (setI s1 100 4 ((s1.1 100 4) + (1 : Int32))) fun s37 =>
              rec2 s37
             else
            jk4)
         else
        jk4))
      (
      bd (setI s1 100 5 (s1.1 100 4)) fun s5 =>
          bd (setI s5 100 7 (0 : Int32)) fun s6 =>
            bd (setI s6 100 8 (0 : Int32)) fun s7 =>
              (if (s7.1 100 4) = (s7.1 100 2) then
                bd (setL s7 100 6 (-2 : Int64)) fun s8 =>
                  some ((), s8)
                 else
                ck (s7.1 100 4) 160 <|
                  calP (f_X10_in s7 (s7.1 102 (s7.1 100 4).toNatClampNeg) (97 : Int32) (122 : Int32)) fun r9 =>
                    (if r9 = 0 then
                      ck (s7.1 100 4) 160 <|
                        calP (f_X10_in s7 (s7.1 102 (s7.1 100 4).toNatClampNeg) (48 : Int32) (57 : Int32)) fun r10 =>
                          (if r10 = 0 then
                            ck (s7.1 100 4) 160 <|
                              bd (if (s7.1 102 (s7.1 100 4).toNatClampNeg) = (59 : Int32) then (-3 : Int64) else (-4 : Int64)) fun y11 =>
                                bd (setL s7 100 6 y11) fun s13 =>
                                  bd (setI s13 100 4 ((s13.1 100 4) + (1 : Int32))) fun s14 =>
                                    some ((), s14)
                             else
                            lo1 FU (fun rec16 (s15 : St) =>
                              jn0 (fun jk18 =>
                                (if (s15.1 100 4) < (s15.1 100 2) then
                                  ck (s15.1 100 4) 160 <|
                                    calP (f_X10_in s15 (s15.1 102 (s15.1 100 4).toNatClampNeg) (48 : Int32) (57 : Int32)) fun r21 =>
                                      (if r21 = 0 then
                                        jk18
                                         else
                                        ck (s15.1 100 4) 160 <|
                                          bd (setI s15 100 8 ((s15.1 102 (s15.1 100 4).toNatClampNeg) - (48 : Int32))) fun s22 =>
                                            bd (setI s22 100 7 ((s22.1 100 7) + (1 : Int32))) fun s23 =>
                                              bd (setI s23 100 4 ((s23.1 100 4) + (1 : Int32))) fun s24 =>
                                                rec16 s24)
                                   else
                                  jk18))
                                (
                                (if (1 : Int32) < (s15.1 100 7) then
                                    bd (setL s15 100 6 (-4 : Int64)) fun s19 =>
                                      some ((), s19)
                                     else
                                    bd (setL s15 100 6 (-1 : Int64)) fun s20 =>
                                      some ((), s20)))) s7)
                       else
                      bd (setL s7 100 6 (0 : Int64)) fun s25 =>
                        lo1 FU (fun rec27 (s26 : St) =>
                          jn0 (fun jk29 =>
                            (if (s26.1 100 4) < (s26.1 100 2) then
                              ck (s26.1 100 4) 160 <|
                                calP (f_X10_in s26 (s26.1 102 (s26.1 100 4).toNatClampNeg) (97 : Int32) (122 : Int32)) fun r32 =>
                                  (if r32 = 0 then
                                    jk29
                                     else
                                    jn1 (fun jk34 =>
                                      (if ((s26.1 100 4) - (s26.1 100 5)) < (9 : Int32) then
                                        ck (s26.1 100 4) 160 <|
                                          jk34 ((((27 : Int64) * (s26.2 100 6)) + (s26.1 102 (s26.1 100 4).toNatClampNeg).toInt64) - (96 : Int64))
                                         else
                                        jk34 (-4 : Int64)))
                                      (fun (y33 : Int64) => 
                                      bd (setL s26 100 6 y33) fun s35 =>
                                          bd (setI s35 100 4 ((s35.1 100 4) + (1 : Int32))) fun s36 =>
                                            rec27 s36))
                               else
                              jk29))
                            (
                            (if (9 : Int32) < ((s26.1 100 4) - (s26.1 100 5)) then
                                bd (setL s26 100 6 (-4 : Int64)) fun s30 =>
                                  some ((), s30)
                                 else
                                bd (setL s26 100 6 (s26.2 100 6)) fun s31 =>
                                  some ((), s31)))) s25)))) σ
set_option maxHeartbeats 4000000 in
set_option maxRecDepth 100000 in
theorem c_X10_nextToken (l : Launch) (E : Ev) (hF : Full E) (σ : St) : Ctr l (en2 enV) (fun q => q.2) E md_X10_nextToken [rV E 100] σ (f_X10_nextToken σ) := by
  refine ctr_of rfl (Nat.le_of_ble_eq_true rfl) (fun Γ => ?_)
  show Sim _ Γ _ E md_X10_nextToken σ 0 [(0, rV E 100)] [] _
  unfold f_X10_nextToken
  refine s_lo1 (σf := fun s1 => s1) (lvf := fun s1 => [(0, rV E 100)]) (fun rec2 ih3 s1 => ?_)
  refine s_aload_n dX10_nextToken_0 0 rfl rfl ?_
  refine s_geti gf_X10_102 rfl (m100 hF) k100 (ft_of k100 rfl) dX10_nextToken_1 ?_
  refine s_aload_n dX10_nextToken_4 0 rfl rfl ?_
  refine s_geti gf_X10_97 rfl (m100 hF) k100 (ft_of k100 rfl) dX10_nextToken_5 ?_
  refine s_jn0 s1 38 [(0, rV E 100)] [] ?_ ?_
  · skip
    refine s_aload_n dX10_nextToken_38 0 rfl rfl ?_
    refine s_aload_n dX10_nextToken_39 0 rfl rfl ?_
    refine s_geti gf_X10_102 rfl (m100 hF) k100 (ft_of k100 rfl) dX10_nextToken_40 ?_
    refine s_puti gf_X10_105 rfl (m100 hF) k100 (ft_of k100 rfl) dX10_nextToken_43 (fun s5 => ?_)
    refine s_aload_n dX10_nextToken_46 0 rfl rfl ?_
    refine s_iconst (v := 0) dX10_nextToken_47 (by decide) ?_
    refine s_puti gf_X10_108 rfl (m100 hF) k100 (ft_of k100 rfl) dX10_nextToken_48 (fun s6 => ?_)
    refine s_aload_n dX10_nextToken_51 0 rfl rfl ?_
    refine s_iconst (v := 0) dX10_nextToken_52 (by decide) ?_
    refine s_puti gf_X10_111 rfl (m100 hF) k100 (ft_of k100 rfl) dX10_nextToken_53 (fun s7 => ?_)
    refine s_aload_n dX10_nextToken_56 0 rfl rfl ?_
    refine s_geti gf_X10_102 rfl (m100 hF) k100 (ft_of k100 rfl) dX10_nextToken_57 ?_
    refine s_aload_n dX10_nextToken_60 0 rfl rfl ?_
    refine s_geti gf_X10_97 rfl (m100 hF) k100 (ft_of k100 rfl) dX10_nextToken_61 ?_
    refine s_icmp_ne 77 dX10_nextToken_64 (by decide) ?_ ?_
    · skip
      refine s_aload_n dX10_nextToken_67 0 rfl rfl ?_
      refine s_ldc2 (v := -2) rfl w_1208 dX10_nextToken_68 ?_
      refine s_putl gf_X10_116 rfl (m100 hF) k100 (ft_of k100 rfl) dX10_nextToken_71 (fun s8 => ?_)
      refine s_goto 371 dX10_nextToken_74 (by decide) ?_
      exact s_return rfl rfl rfl dX10_nextToken_371
    · skip
      refine s_aload_n dX10_nextToken_77 0 rfl rfl ?_
      refine s_getr (b := 102) gf_X10_17 rfl (m100 hF) k100 (ft_of k100 rfl) (hF.2 _ _) rfl dX10_nextToken_78 ?_
      refine s_aload_n dX10_nextToken_81 0 rfl rfl ?_
      refine s_geti gf_X10_102 rfl (m100 hF) k100 (ft_of k100 rfl) dX10_nextToken_82 ?_
      refine s_iald (m102 hF) k102 l102 dX10_nextToken_85 ?_
      refine s_bipush (v := 97) dX10_nextToken_86 (by decide) ?_
      refine s_bipush (v := 122) dX10_nextToken_88 (by decide) ?_
      refine s_callSpI (As := [.int (s7.1 102 (s7.1 100 4).toNatClampNeg), .int (97 : Int32), .int (122 : Int32)]) mf_X10_in vf_X10_in ml_X10_83 (c_X10_in _ E hF s7 (s7.1 102 (s7.1 100 4).toNatClampNeg) (97 : Int32) (122 : Int32)) rfl rfl (Nat.le_of_ble_eq_true rfl) rfl dX10_nextToken_90 (fun r9 => ?_)
      refine s_if_eq 222 dX10_nextToken_93 (by decide) ?_ ?_
      · skip
        refine s_aload_n dX10_nextToken_222 0 rfl rfl ?_
        refine s_getr (b := 102) gf_X10_17 rfl (m100 hF) k100 (ft_of k100 rfl) (hF.2 _ _) rfl dX10_nextToken_223 ?_
        refine s_aload_n dX10_nextToken_226 0 rfl rfl ?_
        refine s_geti gf_X10_102 rfl (m100 hF) k100 (ft_of k100 rfl) dX10_nextToken_227 ?_
        refine s_iald (m102 hF) k102 l102 dX10_nextToken_230 ?_
        refine s_bipush (v := 48) dX10_nextToken_231 (by decide) ?_
        refine s_bipush (v := 57) dX10_nextToken_233 (by decide) ?_
        refine s_callSpI (As := [.int (s7.1 102 (s7.1 100 4).toNatClampNeg), .int (48 : Int32), .int (57 : Int32)]) mf_X10_in vf_X10_in ml_X10_83 (c_X10_in _ E hF s7 (s7.1 102 (s7.1 100 4).toNatClampNeg) (48 : Int32) (57 : Int32)) rfl rfl (Nat.le_of_ble_eq_true rfl) rfl dX10_nextToken_235 (fun r10 => ?_)
        refine s_if_eq 334 dX10_nextToken_238 (by decide) ?_ ?_
        · skip
          refine s_aload_n dX10_nextToken_334 0 rfl rfl ?_
          refine s_aload_n dX10_nextToken_335 0 rfl rfl ?_
          refine s_getr (b := 102) gf_X10_17 rfl (m100 hF) k100 (ft_of k100 rfl) (hF.2 _ _) rfl dX10_nextToken_336 ?_
          refine s_aload_n dX10_nextToken_339 0 rfl rfl ?_
          refine s_geti gf_X10_102 rfl (m100 hF) k100 (ft_of k100 rfl) dX10_nextToken_340 ?_
          refine s_iald (m102 hF) k102 l102 dX10_nextToken_343 ?_
          refine s_bipush (v := 59) dX10_nextToken_344 (by decide) ?_
          refine s_bd 358 (fun y11 => [(0, rV E 100)]) (fun y11 => [.long y11, rV E 100]) (fun jk12 => (if (s7.1 102 (s7.1 100 4).toNatClampNeg) = (59 : Int32) then jk12 (-3 : Int64) else jk12 (-4 : Int64))) (fun jk12 => (j_ite rfl rfl)) ?_ ?_
          · intro y11
            refine s_putl gf_X10_116 rfl (m100 hF) k100 (ft_of k100 rfl) dX10_nextToken_358 (fun s13 => ?_)
            refine s_aload_n dX10_nextToken_361 0 rfl rfl ?_
            refine s_dup dX10_nextToken_362 rfl ?_
            refine s_geti gf_X10_102 rfl (m100 hF) k100 (ft_of k100 rfl) dX10_nextToken_363 ?_
            refine s_iconst (v := 1) dX10_nextToken_366 (by decide) ?_
            refine s_iadd dX10_nextToken_367 ?_
            refine s_puti gf_X10_102 rfl (m100 hF) k100 (ft_of k100 rfl) dX10_nextToken_368 (fun s14 => ?_)
            exact s_return rfl rfl rfl dX10_nextToken_371
          · intro jk12 hjk12
            refine s_icmp_ne 355 dX10_nextToken_346 (by decide) ?_ ?_
            · skip
              refine s_ldc2 (v := -3) rfl w_1213 dX10_nextToken_349 ?_
              refine s_goto 358 dX10_nextToken_352 (by decide) ?_
              exact hjk12 (-3 : Int64)
            · skip
              refine s_ldc2 (v := -4) rfl w_1211 dX10_nextToken_355 ?_
              exact hjk12 (-4 : Int64)
        · skip
          refine s_lo1 (σf := fun s15 => s15) (lvf := fun s15 => [(0, rV E 100)]) (fun rec16 ih17 s15 => ?_)
          refine s_aload_n dX10_nextToken_241 0 rfl rfl ?_
          refine s_geti gf_X10_102 rfl (m100 hF) k100 (ft_of k100 rfl) dX10_nextToken_242 ?_
          refine s_aload_n dX10_nextToken_245 0 rfl rfl ?_
          refine s_geti gf_X10_97 rfl (m100 hF) k100 (ft_of k100 rfl) dX10_nextToken_246 ?_
          refine s_jn0 s15 310 [(0, rV E 100)] [] ?_ ?_
          · skip
            refine s_aload_n dX10_nextToken_310 0 rfl rfl ?_
            refine s_aload_n dX10_nextToken_311 0 rfl rfl ?_
            refine s_geti gf_X10_108 rfl (m100 hF) k100 (ft_of k100 rfl) dX10_nextToken_312 ?_
            refine s_iconst (v := 1) dX10_nextToken_315 (by decide) ?_
            refine s_icmp_le 325 dX10_nextToken_316 (by decide) ?_ ?_
            · skip
              refine s_ldc2 (v := -4) rfl w_1211 dX10_nextToken_319 ?_
              refine s_goto 328 dX10_nextToken_322 (by decide) ?_
              refine s_putl gf_X10_116 rfl (m100 hF) k100 (ft_of k100 rfl) dX10_nextToken_328 (fun s19 => ?_)
              refine s_goto 371 dX10_nextToken_331 (by decide) ?_
              exact s_return rfl rfl rfl dX10_nextToken_371
            · skip
              refine s_ldc2 (v := -1) rfl w_1212 dX10_nextToken_325 ?_
              refine s_putl gf_X10_116 rfl (m100 hF) k100 (ft_of k100 rfl) dX10_nextToken_328 (fun s20 => ?_)
              refine s_goto 371 dX10_nextToken_331 (by decide) ?_
              exact s_return rfl rfl rfl dX10_nextToken_371
          · intro jk18 hjk18
            refine s_icmp_ge 310 dX10_nextToken_249 (by decide) ?_ ?_
            · skip
              refine s_aload_n dX10_nextToken_252 0 rfl rfl ?_
              refine s_getr (b := 102) gf_X10_17 rfl (m100 hF) k100 (ft_of k100 rfl) (hF.2 _ _) rfl dX10_nextToken_253 ?_
              refine s_aload_n dX10_nextToken_256 0 rfl rfl ?_
              refine s_geti gf_X10_102 rfl (m100 hF) k100 (ft_of k100 rfl) dX10_nextToken_257 ?_
              refine s_iald (m102 hF) k102 l102 dX10_nextToken_260 ?_
              refine s_bipush (v := 48) dX10_nextToken_261 (by decide) ?_
              refine s_bipush (v := 57) dX10_nextToken_263 (by decide) ?_
              refine s_callSpI (As := [.int (s15.1 102 (s15.1 100 4).toNatClampNeg), .int (48 : Int32), .int (57 : Int32)]) mf_X10_in vf_X10_in ml_X10_83 (c_X10_in _ E hF s15 (s15.1 102 (s15.1 100 4).toNatClampNeg) (48 : Int32) (57 : Int32)) rfl rfl (Nat.le_of_ble_eq_true rfl) rfl dX10_nextToken_265 (fun r21 => ?_)
              refine s_if_eq 310 dX10_nextToken_268 (by decide) ?_ ?_
              · skip
                exact hjk18
              · skip
                refine s_aload_n dX10_nextToken_271 0 rfl rfl ?_
                refine s_aload_n dX10_nextToken_272 0 rfl rfl ?_
                refine s_getr (b := 102) gf_X10_17 rfl (m100 hF) k100 (ft_of k100 rfl) (hF.2 _ _) rfl dX10_nextToken_273 ?_
                refine s_aload_n dX10_nextToken_276 0 rfl rfl ?_
                refine s_geti gf_X10_102 rfl (m100 hF) k100 (ft_of k100 rfl) dX10_nextToken_277 ?_
                refine s_iald (m102 hF) k102 l102 dX10_nextToken_280 ?_
                refine s_bipush (v := 48) dX10_nextToken_281 (by decide) ?_
                refine s_isub dX10_nextToken_283 ?_
                refine s_puti gf_X10_111 rfl (m100 hF) k100 (ft_of k100 rfl) dX10_nextToken_284 (fun s22 => ?_)
                refine s_aload_n dX10_nextToken_287 0 rfl rfl ?_
                refine s_dup dX10_nextToken_288 rfl ?_
                refine s_geti gf_X10_108 rfl (m100 hF) k100 (ft_of k100 rfl) dX10_nextToken_289 ?_
                refine s_iconst (v := 1) dX10_nextToken_292 (by decide) ?_
                refine s_iadd dX10_nextToken_293 ?_
                refine s_puti gf_X10_108 rfl (m100 hF) k100 (ft_of k100 rfl) dX10_nextToken_294 (fun s23 => ?_)
                refine s_aload_n dX10_nextToken_297 0 rfl rfl ?_
                refine s_dup dX10_nextToken_298 rfl ?_
                refine s_geti gf_X10_102 rfl (m100 hF) k100 (ft_of k100 rfl) dX10_nextToken_299 ?_
                refine s_iconst (v := 1) dX10_nextToken_302 (by decide) ?_
                refine s_iadd dX10_nextToken_303 ?_
                refine s_puti gf_X10_102 rfl (m100 hF) k100 (ft_of k100 rfl) dX10_nextToken_304 (fun s24 => ?_)
                refine s_goto 241 dX10_nextToken_307 (by decide) ?_
                exact ih17 s24
            · skip
              exact hjk18
      · skip
        refine s_aload_n dX10_nextToken_96 0 rfl rfl ?_
        refine s_lconst (v := 0) dX10_nextToken_97 (by decide) ?_
        refine s_putl gf_X10_116 rfl (m100 hF) k100 (ft_of k100 rfl) dX10_nextToken_98 (fun s25 => ?_)
        refine s_lo1 (σf := fun s26 => s26) (lvf := fun s26 => [(0, rV E 100)]) (fun rec27 ih28 s26 => ?_)
        refine s_aload_n dX10_nextToken_101 0 rfl rfl ?_
        refine s_geti gf_X10_102 rfl (m100 hF) k100 (ft_of k100 rfl) dX10_nextToken_102 ?_
        refine s_aload_n dX10_nextToken_105 0 rfl rfl ?_
        refine s_geti gf_X10_97 rfl (m100 hF) k100 (ft_of k100 rfl) dX10_nextToken_106 ?_
        refine s_jn0 s26 191 [(0, rV E 100)] [] ?_ ?_
        · skip
          refine s_aload_n dX10_nextToken_191 0 rfl rfl ?_
          refine s_aload_n dX10_nextToken_192 0 rfl rfl ?_
          refine s_geti gf_X10_102 rfl (m100 hF) k100 (ft_of k100 rfl) dX10_nextToken_193 ?_
          refine s_aload_n dX10_nextToken_196 0 rfl rfl ?_
          refine s_geti gf_X10_105 rfl (m100 hF) k100 (ft_of k100 rfl) dX10_nextToken_197 ?_
          refine s_isub dX10_nextToken_200 ?_
          refine s_bipush (v := 9) dX10_nextToken_201 (by decide) ?_
          refine s_icmp_le 212 dX10_nextToken_203 (by decide) ?_ ?_
          · skip
            refine s_ldc2 (v := -4) rfl w_1211 dX10_nextToken_206 ?_
            refine s_goto 216 dX10_nextToken_209 (by decide) ?_
            refine s_putl gf_X10_116 rfl (m100 hF) k100 (ft_of k100 rfl) dX10_nextToken_216 (fun s30 => ?_)
            refine s_goto 371 dX10_nextToken_219 (by decide) ?_
            exact s_return rfl rfl rfl dX10_nextToken_371
          · skip
            refine s_aload_n dX10_nextToken_212 0 rfl rfl ?_
            refine s_getl gf_X10_116 rfl (m100 hF) k100 (ft_of k100 rfl) dX10_nextToken_213 ?_
            refine s_putl gf_X10_116 rfl (m100 hF) k100 (ft_of k100 rfl) dX10_nextToken_216 (fun s31 => ?_)
            refine s_goto 371 dX10_nextToken_219 (by decide) ?_
            exact s_return rfl rfl rfl dX10_nextToken_371
        · intro jk29 hjk29
          refine s_icmp_ge 191 dX10_nextToken_109 (by decide) ?_ ?_
          · skip
            refine s_aload_n dX10_nextToken_112 0 rfl rfl ?_
            refine s_getr (b := 102) gf_X10_17 rfl (m100 hF) k100 (ft_of k100 rfl) (hF.2 _ _) rfl dX10_nextToken_113 ?_
            refine s_aload_n dX10_nextToken_116 0 rfl rfl ?_
            refine s_geti gf_X10_102 rfl (m100 hF) k100 (ft_of k100 rfl) dX10_nextToken_117 ?_
            refine s_iald (m102 hF) k102 l102 dX10_nextToken_120 ?_
            refine s_bipush (v := 97) dX10_nextToken_121 (by decide) ?_
            refine s_bipush (v := 122) dX10_nextToken_123 (by decide) ?_
            refine s_callSpI (As := [.int (s26.1 102 (s26.1 100 4).toNatClampNeg), .int (97 : Int32), .int (122 : Int32)]) mf_X10_in vf_X10_in ml_X10_83 (c_X10_in _ E hF s26 (s26.1 102 (s26.1 100 4).toNatClampNeg) (97 : Int32) (122 : Int32)) rfl rfl (Nat.le_of_ble_eq_true rfl) rfl dX10_nextToken_125 (fun r32 => ?_)
            refine s_if_eq 191 dX10_nextToken_128 (by decide) ?_ ?_
            · skip
              exact hjk29
            · skip
              refine s_aload_n dX10_nextToken_131 0 rfl rfl ?_
              refine s_aload_n dX10_nextToken_132 0 rfl rfl ?_
              refine s_geti gf_X10_102 rfl (m100 hF) k100 (ft_of k100 rfl) dX10_nextToken_133 ?_
              refine s_aload_n dX10_nextToken_136 0 rfl rfl ?_
              refine s_geti gf_X10_105 rfl (m100 hF) k100 (ft_of k100 rfl) dX10_nextToken_137 ?_
              refine s_isub dX10_nextToken_140 ?_
              refine s_bipush (v := 9) dX10_nextToken_141 (by decide) ?_
              refine s_jn1 175 (fun y33 => s26) (fun y33 => [(0, rV E 100)]) (fun y33 => [.long y33, rV E 100]) ?_ ?_
              · intro y33
                refine s_putl gf_X10_116 rfl (m100 hF) k100 (ft_of k100 rfl) dX10_nextToken_175 (fun s35 => ?_)
                refine s_aload_n dX10_nextToken_178 0 rfl rfl ?_
                refine s_dup dX10_nextToken_179 rfl ?_
                refine s_geti gf_X10_102 rfl (m100 hF) k100 (ft_of k100 rfl) dX10_nextToken_180 ?_
                refine s_iconst (v := 1) dX10_nextToken_183 (by decide) ?_
                refine s_iadd dX10_nextToken_184 ?_
                refine s_puti gf_X10_102 rfl (m100 hF) k100 (ft_of k100 rfl) dX10_nextToken_185 (fun s36 => ?_)
                refine s_goto 101 dX10_nextToken_188 (by decide) ?_
                exact ih28 s36
              · intro jk34 hjk34
                refine s_icmp_ge 172 dX10_nextToken_143 (by decide) ?_ ?_
                · skip
                  refine s_ldc2 (v := 27) rfl w_1209 dX10_nextToken_146 ?_
                  refine s_aload_n dX10_nextToken_149 0 rfl rfl ?_
                  refine s_getl gf_X10_116 rfl (m100 hF) k100 (ft_of k100 rfl) dX10_nextToken_150 ?_
                  refine s_lmul dX10_nextToken_153 ?_
                  refine s_aload_n dX10_nextToken_154 0 rfl rfl ?_
                  refine s_getr (b := 102) gf_X10_17 rfl (m100 hF) k100 (ft_of k100 rfl) (hF.2 _ _) rfl dX10_nextToken_155 ?_
                  refine s_aload_n dX10_nextToken_158 0 rfl rfl ?_
                  refine s_geti gf_X10_102 rfl (m100 hF) k100 (ft_of k100 rfl) dX10_nextToken_159 ?_
                  refine s_iald (m102 hF) k102 l102 dX10_nextToken_162 ?_
                  refine s_i2l dX10_nextToken_163 rfl ?_
                  refine s_ladd dX10_nextToken_164 ?_
                  refine s_ldc2 (v := 96) rfl w_1210 dX10_nextToken_165 ?_
                  refine s_lsub dX10_nextToken_168 ?_
                  refine s_goto 175 dX10_nextToken_169 (by decide) ?_
                  exact hjk34 ((((27 : Int64) * (s26.2 100 6)) + (s26.1 102 (s26.1 100 4).toNatClampNeg).toInt64) - (96 : Int64))
                · skip
                  refine s_ldc2 (v := -4) rfl w_1211 dX10_nextToken_172 ?_
                  exact hjk34 (-4 : Int64)
          · skip
            exact hjk29
  · intro jk4 hjk4
    refine s_icmp_ge 38 dX10_nextToken_8 (by decide) ?_ ?_
    · skip
      refine s_aload_n dX10_nextToken_11 0 rfl rfl ?_
      refine s_getr (b := 102) gf_X10_17 rfl (m100 hF) k100 (ft_of k100 rfl) (hF.2 _ _) rfl dX10_nextToken_12 ?_
      refine s_aload_n dX10_nextToken_15 0 rfl rfl ?_
      refine s_geti gf_X10_102 rfl (m100 hF) k100 (ft_of k100 rfl) dX10_nextToken_16 ?_
      refine s_iald (m102 hF) k102 l102 dX10_nextToken_19 ?_
      refine s_bipush (v := 32) dX10_nextToken_20 (by decide) ?_
      refine s_icmp_ne 38 dX10_nextToken_22 (by decide) ?_ ?_
      · skip
        refine s_aload_n dX10_nextToken_25 0 rfl rfl ?_
        refine s_dup dX10_nextToken_26 rfl ?_
        refine s_geti gf_X10_102 rfl (m100 hF) k100 (ft_of k100 rfl) dX10_nextToken_27 ?_
        refine s_iconst (v := 1) dX10_nextToken_30 (by decide) ?_
        refine s_iadd dX10_nextToken_31 ?_
        refine s_puti gf_X10_102 rfl (m100 hF) k100 (ft_of k100 rfl) dX10_nextToken_32 (fun s37 => ?_)
        refine s_goto 0 dX10_nextToken_35 (by decide) ?_
        exact ih3 s37
      · skip
        exact hjk4
    · skip
      exact hjk4
theorem dX10_fails_0 : decode cX10_fails 0 = .ok (.aload_n 0, 1) := by decide +kernel
theorem dX10_fails_1 : decode cX10_fails 1 = .ok (.aload_n 0, 1) := by decide +kernel
theorem dX10_fails_2 : decode cX10_fails 2 = .ok (.getfield 105, 3) := by decide +kernel
theorem dX10_fails_5 : decode cX10_fails 5 = .ok (.putfield 130, 3) := by decide +kernel
theorem dX10_fails_8 : decode cX10_fails 8 = .ok (.iconst 0, 1) := by decide +kernel
theorem dX10_fails_9 : decode cX10_fails 9 = .ok (.ireturn, 1) := by decide +kernel
def f_X10_fails (σ : St) : Option (Int32 × St) :=
  bd (setI σ 100 9 (σ.1 100 5)) fun s1 =>
    some ((0 : Int32), s1)
set_option maxHeartbeats 4000000 in
set_option maxRecDepth 100000 in
theorem c_X10_fails (l : Launch) (E : Ev) (hF : Full E) (σ : St) : Ctr l (en2 enI) (fun q => q.2) E md_X10_fails [rV E 100] σ (f_X10_fails σ) := by
  refine ctr_of rfl (Nat.le_of_ble_eq_true rfl) (fun Γ => ?_)
  show Sim _ Γ _ E md_X10_fails σ 0 [(0, rV E 100)] [] _
  unfold f_X10_fails
  refine s_aload_n dX10_fails_0 0 rfl rfl ?_
  refine s_aload_n dX10_fails_1 0 rfl rfl ?_
  refine s_geti gf_X10_105 rfl (m100 hF) k100 (ft_of k100 rfl) dX10_fails_2 ?_
  refine s_puti gf_X10_130 rfl (m100 hF) k100 (ft_of k100 rfl) dX10_fails_5 (fun s1 => ?_)
  refine s_iconst (v := 0) dX10_fails_8 (by decide) ?_
  exact s_zreturn rfl (by decide) rfl rfl dX10_fails_9
theorem dX10_isNumber_0 : decode cX10_isNumber 0 = .ok (.aload_n 0, 1) := by decide +kernel
theorem dX10_isNumber_1 : decode cX10_isNumber 1 = .ok (.invokevirtual 133, 3) := by decide +kernel
theorem dX10_isNumber_4 : decode cX10_isNumber 4 = .ok (.aload_n 0, 1) := by decide +kernel
theorem dX10_isNumber_5 : decode cX10_isNumber 5 = .ok (.getfield 116, 3) := by decide +kernel
theorem dX10_isNumber_8 : decode cX10_isNumber 8 = .ok (.ldc2_w 126, 3) := by decide +kernel
theorem dX10_isNumber_11 : decode cX10_isNumber 11 = .ok (.lcmp, 1) := by decide +kernel
theorem dX10_isNumber_12 : decode cX10_isNumber 12 = .ok (.ifCond .ne 15, 3) := by decide +kernel
theorem dX10_isNumber_15 : decode cX10_isNumber 15 = .ok (.aload_n 0, 1) := by decide +kernel
theorem dX10_isNumber_16 : decode cX10_isNumber 16 = .ok (.getfield 111, 3) := by decide +kernel
theorem dX10_isNumber_19 : decode cX10_isNumber 19 = .ok (.iload_n 2, 1) := by decide +kernel
theorem dX10_isNumber_20 : decode cX10_isNumber 20 = .ok (.iload_n 3, 1) := by decide +kernel
theorem dX10_isNumber_21 : decode cX10_isNumber 21 = .ok (.invokestatic 83, 3) := by decide +kernel
theorem dX10_isNumber_24 : decode cX10_isNumber 24 = .ok (.ifCond .ne 8, 3) := by decide +kernel
theorem dX10_isNumber_27 : decode cX10_isNumber 27 = .ok (.aload_n 0, 1) := by decide +kernel
theorem dX10_isNumber_28 : decode cX10_isNumber 28 = .ok (.invokevirtual 136, 3) := by decide +kernel
theorem dX10_isNumber_31 : decode cX10_isNumber 31 = .ok (.ireturn, 1) := by decide +kernel
theorem dX10_isNumber_32 : decode cX10_isNumber 32 = .ok (.aload_n 0, 1) := by decide +kernel
theorem dX10_isNumber_33 : decode cX10_isNumber 33 = .ok (.getfield 20, 3) := by decide +kernel
theorem dX10_isNumber_36 : decode cX10_isNumber 36 = .ok (.iload_n 1, 1) := by decide +kernel
theorem dX10_isNumber_37 : decode cX10_isNumber 37 = .ok (.aload_n 0, 1) := by decide +kernel
theorem dX10_isNumber_38 : decode cX10_isNumber 38 = .ok (.getfield 111, 3) := by decide +kernel
theorem dX10_isNumber_41 : decode cX10_isNumber 41 = .ok (.iastore, 1) := by decide +kernel
theorem dX10_isNumber_42 : decode cX10_isNumber 42 = .ok (.iconst 1, 1) := by decide +kernel
theorem dX10_isNumber_43 : decode cX10_isNumber 43 = .ok (.ireturn, 1) := by decide +kernel
def f_X10_isNumber (σ : St) (v1 : Int32) (v2 : Int32) (v3 : Int32) : Option (Int32 × St) :=
  cal (f_X10_nextToken σ) fun _ s1 =>
    (if (lg_cmp (s1.2 100 6) (-1 : Int64)) = 0 then
      calP (f_X10_in s1 (s1.1 100 8) v2 v3) fun r2 =>
        (if r2 = 0 then
          cal (f_X10_fails s1) fun r3 s4 =>
            ckZ r3 <|
              some (r3, s4)
           else
          ck v1 48 <|
            bd (setI s1 103 v1.toNatClampNeg (s1.1 100 8)) fun s6 =>
              some ((1 : Int32), s6))
       else
      cal (f_X10_fails s1) fun r7 s8 =>
        ckZ r7 <|
          some (r7, s8))
set_option maxHeartbeats 4000000 in
set_option maxRecDepth 100000 in
theorem c_X10_isNumber (l : Launch) (E : Ev) (hF : Full E) (σ : St) (v1 : Int32) (v2 : Int32) (v3 : Int32) : Ctr l (en2 enI) (fun q => q.2) E md_X10_isNumber [rV E 100, .int v1, .int v2, .int v3] σ (f_X10_isNumber σ v1 v2 v3) := by
  refine ctr_of rfl (Nat.le_of_ble_eq_true rfl) (fun Γ => ?_)
  show Sim _ Γ _ E md_X10_isNumber σ 0 [(0, rV E 100), (1, .int v1), (2, .int v2), (3, .int v3)] [] _
  unfold f_X10_isNumber
  refine s_aload_n dX10_isNumber_0 0 rfl rfl ?_
  refine s_callVwV (As := []) mf_X10_nextToken vf_X10_nextToken ml_X10_133 (c_X10_nextToken _ E hF σ) (m100 hF) k100 (by decide) rfl rfl rfl rfl (Nat.le_of_ble_eq_true rfl) rfl dX10_isNumber_1 (fun _ s1 => ?_)
  refine s_aload_n dX10_isNumber_4 0 rfl rfl ?_
  refine s_getl gf_X10_116 rfl (m100 hF) k100 (ft_of k100 rfl) dX10_isNumber_5 ?_
  refine s_ldc2 (v := -1) rfl w_1212 dX10_isNumber_8 ?_
  refine s_lcmp dX10_isNumber_11 ?_
  refine s_if_ne 27 dX10_isNumber_12 (by decide) ?_ ?_
  · skip
    refine s_aload_n dX10_isNumber_15 0 rfl rfl ?_
    refine s_geti gf_X10_111 rfl (m100 hF) k100 (ft_of k100 rfl) dX10_isNumber_16 ?_
    refine s_iload_n dX10_isNumber_19 2 rfl rfl ?_
    refine s_iload_n dX10_isNumber_20 3 rfl rfl ?_
    refine s_callSpI (As := [.int (s1.1 100 8), .int v2, .int v3]) mf_X10_in vf_X10_in ml_X10_83 (c_X10_in _ E hF s1 (s1.1 100 8) v2 v3) rfl rfl (Nat.le_of_ble_eq_true rfl) rfl dX10_isNumber_21 (fun r2 => ?_)
    refine s_if_ne 32 dX10_isNumber_24 (by decide) ?_ ?_
    · skip
      refine s_aload_n dX10_isNumber_27 0 rfl rfl ?_
      refine s_callVwI (As := []) mf_X10_fails vf_X10_fails ml_X10_136 (c_X10_fails _ E hF s1) (m100 hF) k100 (by decide) rfl rfl rfl rfl (Nat.le_of_ble_eq_true rfl) rfl dX10_isNumber_28 (fun r3 s4 => ?_)
      refine s_ckZ (fun hz5 => ?_)
      exact s_zreturn rfl hz5 rfl rfl dX10_isNumber_31
    · skip
      refine s_aload_n dX10_isNumber_32 0 rfl rfl ?_
      refine s_getr (b := 103) gf_X10_20 rfl (m100 hF) k100 (ft_of k100 rfl) (hF.2 _ _) rfl dX10_isNumber_33 ?_
      refine s_iload_n dX10_isNumber_36 1 rfl rfl ?_
      refine s_aload_n dX10_isNumber_37 0 rfl rfl ?_
      refine s_geti gf_X10_111 rfl (m100 hF) k100 (ft_of k100 rfl) dX10_isNumber_38 ?_
      refine s_iast (m103 hF) k103 l103 dX10_isNumber_41 (fun s6 => ?_)
      refine s_iconst (v := 1) dX10_isNumber_42 (by decide) ?_
      exact s_zreturn rfl (by decide) rfl rfl dX10_isNumber_43
  · skip
    refine s_aload_n dX10_isNumber_27 0 rfl rfl ?_
    refine s_callVwI (As := []) mf_X10_fails vf_X10_fails ml_X10_136 (c_X10_fails _ E hF s1) (m100 hF) k100 (by decide) rfl rfl rfl rfl (Nat.le_of_ble_eq_true rfl) rfl dX10_isNumber_28 (fun r7 s8 => ?_)
    refine s_ckZ (fun hz9 => ?_)
    exact s_zreturn rfl hz9 rfl rfl dX10_isNumber_31
theorem dX10_isLine_0 : decode cX10_isLine 0 = .ok (.aload_n 0, 1) := by decide +kernel
theorem dX10_isLine_1 : decode cX10_isLine 1 = .ok (.invokevirtual 133, 3) := by decide +kernel
theorem dX10_isLine_4 : decode cX10_isLine 4 = .ok (.aload_n 0, 1) := by decide +kernel
theorem dX10_isLine_5 : decode cX10_isLine 5 = .ok (.getfield 20, 3) := by decide +kernel
theorem dX10_isLine_8 : decode cX10_isLine 8 = .ok (.iload_n 1, 1) := by decide +kernel
theorem dX10_isLine_9 : decode cX10_isLine 9 = .ok (.aload_n 0, 1) := by decide +kernel
theorem dX10_isLine_10 : decode cX10_isLine 10 = .ok (.getfield 116, 3) := by decide +kernel
theorem dX10_isLine_13 : decode cX10_isLine 13 = .ok (.ldc2_w 140, 3) := by decide +kernel
theorem dX10_isLine_16 : decode cX10_isLine 16 = .ok (.lcmp, 1) := by decide +kernel
theorem dX10_isLine_17 : decode cX10_isLine 17 = .ok (.ifCond .ne 7, 3) := by decide +kernel
theorem dX10_isLine_20 : decode cX10_isLine 20 = .ok (.iconst 0, 1) := by decide +kernel
theorem dX10_isLine_21 : decode cX10_isLine 21 = .ok (.goto 34, 3) := by decide +kernel
theorem dX10_isLine_24 : decode cX10_isLine 24 = .ok (.aload_n 0, 1) := by decide +kernel
theorem dX10_isLine_25 : decode cX10_isLine 25 = .ok (.getfield 116, 3) := by decide +kernel
theorem dX10_isLine_28 : decode cX10_isLine 28 = .ok (.ldc2_w 142, 3) := by decide +kernel
theorem dX10_isLine_31 : decode cX10_isLine 31 = .ok (.lcmp, 1) := by decide +kernel
theorem dX10_isLine_32 : decode cX10_isLine 32 = .ok (.ifCond .ne 7, 3) := by decide +kernel
theorem dX10_isLine_35 : decode cX10_isLine 35 = .ok (.iconst 1, 1) := by decide +kernel
theorem dX10_isLine_36 : decode cX10_isLine 36 = .ok (.goto 19, 3) := by decide +kernel
theorem dX10_isLine_39 : decode cX10_isLine 39 = .ok (.aload_n 0, 1) := by decide +kernel
theorem dX10_isLine_40 : decode cX10_isLine 40 = .ok (.getfield 116, 3) := by decide +kernel
theorem dX10_isLine_43 : decode cX10_isLine 43 = .ok (.ldc2_w 144, 3) := by decide +kernel
theorem dX10_isLine_46 : decode cX10_isLine 46 = .ok (.lcmp, 1) := by decide +kernel
theorem dX10_isLine_47 : decode cX10_isLine 47 = .ok (.ifCond .ne 7, 3) := by decide +kernel
theorem dX10_isLine_50 : decode cX10_isLine 50 = .ok (.iconst 2, 1) := by decide +kernel
theorem dX10_isLine_51 : decode cX10_isLine 51 = .ok (.goto 4, 3) := by decide +kernel
theorem dX10_isLine_54 : decode cX10_isLine 54 = .ok (.iconst (-1), 1) := by decide +kernel
theorem dX10_isLine_55 : decode cX10_isLine 55 = .ok (.iastore, 1) := by decide +kernel
theorem dX10_isLine_56 : decode cX10_isLine 56 = .ok (.aload_n 0, 1) := by decide +kernel
theorem dX10_isLine_57 : decode cX10_isLine 57 = .ok (.getfield 20, 3) := by decide +kernel
theorem dX10_isLine_60 : decode cX10_isLine 60 = .ok (.iload_n 1, 1) := by decide +kernel
theorem dX10_isLine_61 : decode cX10_isLine 61 = .ok (.iaload, 1) := by decide +kernel
theorem dX10_isLine_62 : decode cX10_isLine 62 = .ok (.iconst (-1), 1) := by decide +kernel
theorem dX10_isLine_63 : decode cX10_isLine 63 = .ok (.if_icmp .ne 8, 3) := by decide +kernel
theorem dX10_isLine_66 : decode cX10_isLine 66 = .ok (.aload_n 0, 1) := by decide +kernel
theorem dX10_isLine_67 : decode cX10_isLine 67 = .ok (.invokevirtual 136, 3) := by decide +kernel
theorem dX10_isLine_70 : decode cX10_isLine 70 = .ok (.ireturn, 1) := by decide +kernel
theorem dX10_isLine_71 : decode cX10_isLine 71 = .ok (.aload_n 0, 1) := by decide +kernel
theorem dX10_isLine_72 : decode cX10_isLine 72 = .ok (.getfield 20, 3) := by decide +kernel
theorem dX10_isLine_75 : decode cX10_isLine 75 = .ok (.iload_n 1, 1) := by decide +kernel
theorem dX10_isLine_76 : decode cX10_isLine 76 = .ok (.iaload, 1) := by decide +kernel
theorem dX10_isLine_77 : decode cX10_isLine 77 = .ok (.iconst 2, 1) := by decide +kernel
theorem dX10_isLine_78 : decode cX10_isLine 78 = .ok (.if_icmp .ne 32, 3) := by decide +kernel
theorem dX10_isLine_81 : decode cX10_isLine 81 = .ok (.aload_n 0, 1) := by decide +kernel
theorem dX10_isLine_82 : decode cX10_isLine 82 = .ok (.iload_n 1, 1) := by decide +kernel
theorem dX10_isLine_83 : decode cX10_isLine 83 = .ok (.iconst 1, 1) := by decide +kernel
theorem dX10_isLine_84 : decode cX10_isLine 84 = .ok (.iadd, 1) := by decide +kernel
theorem dX10_isLine_85 : decode cX10_isLine 85 = .ok (.iconst 1, 1) := by decide +kernel
theorem dX10_isLine_86 : decode cX10_isLine 86 = .ok (.bipush 8, 2) := by decide +kernel
theorem dX10_isLine_88 : decode cX10_isLine 88 = .ok (.invokevirtual 146, 3) := by decide +kernel
theorem dX10_isLine_91 : decode cX10_isLine 91 = .ok (.ifCond .ne 5, 3) := by decide +kernel
theorem dX10_isLine_94 : decode cX10_isLine 94 = .ok (.iconst 0, 1) := by decide +kernel
theorem dX10_isLine_95 : decode cX10_isLine 95 = .ok (.ireturn, 1) := by decide +kernel
theorem dX10_isLine_96 : decode cX10_isLine 96 = .ok (.aload_n 0, 1) := by decide +kernel
theorem dX10_isLine_97 : decode cX10_isLine 97 = .ok (.aload_n 0, 1) := by decide +kernel
theorem dX10_isLine_98 : decode cX10_isLine 98 = .ok (.getfield 20, 3) := by decide +kernel
theorem dX10_isLine_101 : decode cX10_isLine 101 = .ok (.iload_n 1, 1) := by decide +kernel
theorem dX10_isLine_102 : decode cX10_isLine 102 = .ok (.iconst 1, 1) := by decide +kernel
theorem dX10_isLine_103 : decode cX10_isLine 103 = .ok (.iadd, 1) := by decide +kernel
theorem dX10_isLine_104 : decode cX10_isLine 104 = .ok (.iaload, 1) := by decide +kernel
theorem dX10_isLine_105 : decode cX10_isLine 105 = .ok (.putfield 149, 3) := by decide +kernel
theorem dX10_isLine_108 : decode cX10_isLine 108 = .ok (.iconst 1, 1) := by decide +kernel
theorem dX10_isLine_109 : decode cX10_isLine 109 = .ok (.ireturn, 1) := by decide +kernel
theorem dX10_isLine_110 : decode cX10_isLine 110 = .ok (.aload_n 0, 1) := by decide +kernel
theorem dX10_isLine_111 : decode cX10_isLine 111 = .ok (.iload_n 1, 1) := by decide +kernel
theorem dX10_isLine_112 : decode cX10_isLine 112 = .ok (.iconst 1, 1) := by decide +kernel
theorem dX10_isLine_113 : decode cX10_isLine 113 = .ok (.iadd, 1) := by decide +kernel
theorem dX10_isLine_114 : decode cX10_isLine 114 = .ok (.iconst 0, 1) := by decide +kernel
theorem dX10_isLine_115 : decode cX10_isLine 115 = .ok (.aload_n 0, 1) := by decide +kernel
theorem dX10_isLine_116 : decode cX10_isLine 116 = .ok (.getfield 149, 3) := by decide +kernel
theorem dX10_isLine_119 : decode cX10_isLine 119 = .ok (.iconst 1, 1) := by decide +kernel
theorem dX10_isLine_120 : decode cX10_isLine 120 = .ok (.isub, 1) := by decide +kernel
theorem dX10_isLine_121 : decode cX10_isLine 121 = .ok (.invokevirtual 146, 3) := by decide +kernel
theorem dX10_isLine_124 : decode cX10_isLine 124 = .ok (.ifCond .eq 20, 3) := by decide +kernel
theorem dX10_isLine_127 : decode cX10_isLine 127 = .ok (.aload_n 0, 1) := by decide +kernel
theorem dX10_isLine_128 : decode cX10_isLine 128 = .ok (.iload_n 1, 1) := by decide +kernel
theorem dX10_isLine_129 : decode cX10_isLine 129 = .ok (.iconst 2, 1) := by decide +kernel
theorem dX10_isLine_130 : decode cX10_isLine 130 = .ok (.iadd, 1) := by decide +kernel
theorem dX10_isLine_131 : decode cX10_isLine 131 = .ok (.iconst 0, 1) := by decide +kernel
theorem dX10_isLine_132 : decode cX10_isLine 132 = .ok (.aload_n 0, 1) := by decide +kernel
theorem dX10_isLine_133 : decode cX10_isLine 133 = .ok (.getfield 149, 3) := by decide +kernel
theorem dX10_isLine_136 : decode cX10_isLine 136 = .ok (.iconst 1, 1) := by decide +kernel
theorem dX10_isLine_137 : decode cX10_isLine 137 = .ok (.isub, 1) := by decide +kernel
theorem dX10_isLine_138 : decode cX10_isLine 138 = .ok (.invokevirtual 146, 3) := by decide +kernel
theorem dX10_isLine_141 : decode cX10_isLine 141 = .ok (.ifCond .ne 5, 3) := by decide +kernel
theorem dX10_isLine_144 : decode cX10_isLine 144 = .ok (.iconst 0, 1) := by decide +kernel
theorem dX10_isLine_145 : decode cX10_isLine 145 = .ok (.ireturn, 1) := by decide +kernel
theorem dX10_isLine_146 : decode cX10_isLine 146 = .ok (.aload_n 0, 1) := by decide +kernel
theorem dX10_isLine_147 : decode cX10_isLine 147 = .ok (.getfield 20, 3) := by decide +kernel
theorem dX10_isLine_150 : decode cX10_isLine 150 = .ok (.iload_n 1, 1) := by decide +kernel
theorem dX10_isLine_151 : decode cX10_isLine 151 = .ok (.iconst 1, 1) := by decide +kernel
theorem dX10_isLine_152 : decode cX10_isLine 152 = .ok (.iadd, 1) := by decide +kernel
theorem dX10_isLine_153 : decode cX10_isLine 153 = .ok (.iaload, 1) := by decide +kernel
theorem dX10_isLine_154 : decode cX10_isLine 154 = .ok (.aload_n 0, 1) := by decide +kernel
theorem dX10_isLine_155 : decode cX10_isLine 155 = .ok (.getfield 20, 3) := by decide +kernel
theorem dX10_isLine_158 : decode cX10_isLine 158 = .ok (.iload_n 1, 1) := by decide +kernel
theorem dX10_isLine_159 : decode cX10_isLine 159 = .ok (.iconst 2, 1) := by decide +kernel
theorem dX10_isLine_160 : decode cX10_isLine 160 = .ok (.iadd, 1) := by decide +kernel
theorem dX10_isLine_161 : decode cX10_isLine 161 = .ok (.iaload, 1) := by decide +kernel
theorem dX10_isLine_162 : decode cX10_isLine 162 = .ok (.if_icmp .ne 10, 3) := by decide +kernel
theorem dX10_isLine_165 : decode cX10_isLine 165 = .ok (.aload_n 0, 1) := by decide +kernel
theorem dX10_isLine_166 : decode cX10_isLine 166 = .ok (.invokevirtual 136, 3) := by decide +kernel
theorem dX10_isLine_169 : decode cX10_isLine 169 = .ok (.ifCond .eq 7, 3) := by decide +kernel
theorem dX10_isLine_172 : decode cX10_isLine 172 = .ok (.iconst 1, 1) := by decide +kernel
theorem dX10_isLine_173 : decode cX10_isLine 173 = .ok (.goto 4, 3) := by decide +kernel
theorem dX10_isLine_176 : decode cX10_isLine 176 = .ok (.iconst 0, 1) := by decide +kernel
theorem dX10_isLine_177 : decode cX10_isLine 177 = .ok (.ireturn, 1) := by decide +kernel
def f_X10_isLine (σ : St) (v1 : Int32) : Option (Int32 × St) :=
  cal (f_X10_nextToken σ) fun _ s1 =>
    bd (if (lg_cmp (s1.2 100 6) (365260 : Int64)) = 0 then (0 : Int32) else (if (lg_cmp (s1.2 100 6) (16819 : Int64)) = 0 then (1 : Int32) else (if (lg_cmp (s1.2 100 6) (10361 : Int64)) = 0 then (2 : Int32) else (-1 : Int32)))) fun x2 =>
      ck v1 48 <|
        bd (setI s1 103 v1.toNatClampNeg x2) fun s4 =>
          ck v1 48 <|
            (if (s4.1 103 v1.toNatClampNeg) = (-1 : Int32) then
              cal (f_X10_fails s4) fun r5 s6 =>
                ckZ r5 <|
                  some (r5, s6)
               else
              ck v1 48 <|
                (if (s4.1 103 v1.toNatClampNeg) = (2 : Int32) then
                  cal (f_X10_isNumber s4 (v1 + (1 : Int32)) (1 : Int32) (8 : Int32)) fun r8 s9 =>
                    (if r8 = 0 then
                      some ((0 : Int32), s9)
                       else
                      ck (v1 + (1 : Int32)) 48 <|
                        bd (setI s9 100 10 (s9.1 103 (v1 + (1 : Int32)).toNatClampNeg)) fun s10 =>
                          some ((1 : Int32), s10))
                   else
                  cal (f_X10_isNumber s4 (v1 + (1 : Int32)) (0 : Int32) ((s4.1 100 10) - (1 : Int32))) fun r11 s12 =>
                    (if r11 = 0 then
                      some ((0 : Int32), s12)
                       else
                      cal (f_X10_isNumber s12 (v1 + (2 : Int32)) (0 : Int32) ((s12.1 100 10) - (1 : Int32))) fun r13 s14 =>
                        (if r13 = 0 then
                          some ((0 : Int32), s14)
                           else
                          ck (v1 + (1 : Int32)) 48 <|
                            ck (v1 + (2 : Int32)) 48 <|
                              (if (s14.1 103 (v1 + (1 : Int32)).toNatClampNeg) = (s14.1 103 (v1 + (2 : Int32)).toNatClampNeg) then
                                cal (f_X10_fails s14) fun r15 s16 =>
                                  (if r15 = 0 then
                                    some ((0 : Int32), s16)
                                     else
                                    some ((1 : Int32), s16))
                                 else
                                some ((1 : Int32), s14))))))
set_option maxHeartbeats 4000000 in
set_option maxRecDepth 100000 in
theorem c_X10_isLine (l : Launch) (E : Ev) (hF : Full E) (σ : St) (v1 : Int32) : Ctr l (en2 enI) (fun q => q.2) E md_X10_isLine [rV E 100, .int v1] σ (f_X10_isLine σ v1) := by
  refine ctr_of rfl (Nat.le_of_ble_eq_true rfl) (fun Γ => ?_)
  show Sim _ Γ _ E md_X10_isLine σ 0 [(0, rV E 100), (1, .int v1)] [] _
  unfold f_X10_isLine
  refine s_aload_n dX10_isLine_0 0 rfl rfl ?_
  refine s_callVwV (As := []) mf_X10_nextToken vf_X10_nextToken ml_X10_133 (c_X10_nextToken _ E hF σ) (m100 hF) k100 (by decide) rfl rfl rfl rfl (Nat.le_of_ble_eq_true rfl) rfl dX10_isLine_1 (fun _ s1 => ?_)
  refine s_aload_n dX10_isLine_4 0 rfl rfl ?_
  refine s_getr (b := 103) gf_X10_20 rfl (m100 hF) k100 (ft_of k100 rfl) (hF.2 _ _) rfl dX10_isLine_5 ?_
  refine s_iload_n dX10_isLine_8 1 rfl rfl ?_
  refine s_aload_n dX10_isLine_9 0 rfl rfl ?_
  refine s_getl gf_X10_116 rfl (m100 hF) k100 (ft_of k100 rfl) dX10_isLine_10 ?_
  refine s_ldc2 (v := 365260) rfl w_1214 dX10_isLine_13 ?_
  refine s_lcmp dX10_isLine_16 ?_
  refine s_bd 55 (fun x2 => [(0, rV E 100), (1, .int v1)]) (fun x2 => [.int x2, .int v1, rV E 103]) (fun jk3 => (if (lg_cmp (s1.2 100 6) (365260 : Int64)) = 0 then jk3 (0 : Int32) else (if (lg_cmp (s1.2 100 6) (16819 : Int64)) = 0 then jk3 (1 : Int32) else (if (lg_cmp (s1.2 100 6) (10361 : Int64)) = 0 then jk3 (2 : Int32) else jk3 (-1 : Int32))))) (fun jk3 => (j_ite rfl (j_ite rfl (j_ite rfl rfl)))) ?_ ?_
  · intro x2
    refine s_iast (m103 hF) k103 l103 dX10_isLine_55 (fun s4 => ?_)
    refine s_aload_n dX10_isLine_56 0 rfl rfl ?_
    refine s_getr (b := 103) gf_X10_20 rfl (m100 hF) k100 (ft_of k100 rfl) (hF.2 _ _) rfl dX10_isLine_57 ?_
    refine s_iload_n dX10_isLine_60 1 rfl rfl ?_
    refine s_iald (m103 hF) k103 l103 dX10_isLine_61 ?_
    refine s_iconst (v := -1) dX10_isLine_62 (by decide) ?_
    refine s_icmp_ne 71 dX10_isLine_63 (by decide) ?_ ?_
    · skip
      refine s_aload_n dX10_isLine_66 0 rfl rfl ?_
      refine s_callVwI (As := []) mf_X10_fails vf_X10_fails ml_X10_136 (c_X10_fails _ E hF s4) (m100 hF) k100 (by decide) rfl rfl rfl rfl (Nat.le_of_ble_eq_true rfl) rfl dX10_isLine_67 (fun r5 s6 => ?_)
      refine s_ckZ (fun hz7 => ?_)
      exact s_zreturn rfl hz7 rfl rfl dX10_isLine_70
    · skip
      refine s_aload_n dX10_isLine_71 0 rfl rfl ?_
      refine s_getr (b := 103) gf_X10_20 rfl (m100 hF) k100 (ft_of k100 rfl) (hF.2 _ _) rfl dX10_isLine_72 ?_
      refine s_iload_n dX10_isLine_75 1 rfl rfl ?_
      refine s_iald (m103 hF) k103 l103 dX10_isLine_76 ?_
      refine s_iconst (v := 2) dX10_isLine_77 (by decide) ?_
      refine s_icmp_ne 110 dX10_isLine_78 (by decide) ?_ ?_
      · skip
        refine s_aload_n dX10_isLine_81 0 rfl rfl ?_
        refine s_iload_n dX10_isLine_82 1 rfl rfl ?_
        refine s_iconst (v := 1) dX10_isLine_83 (by decide) ?_
        refine s_iadd dX10_isLine_84 ?_
        refine s_iconst (v := 1) dX10_isLine_85 (by decide) ?_
        refine s_bipush (v := 8) dX10_isLine_86 (by decide) ?_
        refine s_callVwI (As := [.int (v1 + (1 : Int32)), .int (1 : Int32), .int (8 : Int32)]) mf_X10_isNumber vf_X10_isNumber ml_X10_146 (c_X10_isNumber _ E hF s4 (v1 + (1 : Int32)) (1 : Int32) (8 : Int32)) (m100 hF) k100 (by decide) rfl rfl rfl rfl (Nat.le_of_ble_eq_true rfl) rfl dX10_isLine_88 (fun r8 s9 => ?_)
        refine s_if_ne 96 dX10_isLine_91 (by decide) ?_ ?_
        · skip
          refine s_iconst (v := 0) dX10_isLine_94 (by decide) ?_
          exact s_zreturn rfl (by decide) rfl rfl dX10_isLine_95
        · skip
          refine s_aload_n dX10_isLine_96 0 rfl rfl ?_
          refine s_aload_n dX10_isLine_97 0 rfl rfl ?_
          refine s_getr (b := 103) gf_X10_20 rfl (m100 hF) k100 (ft_of k100 rfl) (hF.2 _ _) rfl dX10_isLine_98 ?_
          refine s_iload_n dX10_isLine_101 1 rfl rfl ?_
          refine s_iconst (v := 1) dX10_isLine_102 (by decide) ?_
          refine s_iadd dX10_isLine_103 ?_
          refine s_iald (m103 hF) k103 l103 dX10_isLine_104 ?_
          refine s_puti gf_X10_149 rfl (m100 hF) k100 (ft_of k100 rfl) dX10_isLine_105 (fun s10 => ?_)
          refine s_iconst (v := 1) dX10_isLine_108 (by decide) ?_
          exact s_zreturn rfl (by decide) rfl rfl dX10_isLine_109
      · skip
        refine s_aload_n dX10_isLine_110 0 rfl rfl ?_
        refine s_iload_n dX10_isLine_111 1 rfl rfl ?_
        refine s_iconst (v := 1) dX10_isLine_112 (by decide) ?_
        refine s_iadd dX10_isLine_113 ?_
        refine s_iconst (v := 0) dX10_isLine_114 (by decide) ?_
        refine s_aload_n dX10_isLine_115 0 rfl rfl ?_
        refine s_geti gf_X10_149 rfl (m100 hF) k100 (ft_of k100 rfl) dX10_isLine_116 ?_
        refine s_iconst (v := 1) dX10_isLine_119 (by decide) ?_
        refine s_isub dX10_isLine_120 ?_
        refine s_callVwI (As := [.int (v1 + (1 : Int32)), .int (0 : Int32), .int ((s4.1 100 10) - (1 : Int32))]) mf_X10_isNumber vf_X10_isNumber ml_X10_146 (c_X10_isNumber _ E hF s4 (v1 + (1 : Int32)) (0 : Int32) ((s4.1 100 10) - (1 : Int32))) (m100 hF) k100 (by decide) rfl rfl rfl rfl (Nat.le_of_ble_eq_true rfl) rfl dX10_isLine_121 (fun r11 s12 => ?_)
        refine s_if_eq 144 dX10_isLine_124 (by decide) ?_ ?_
        · skip
          refine s_iconst (v := 0) dX10_isLine_144 (by decide) ?_
          exact s_zreturn rfl (by decide) rfl rfl dX10_isLine_145
        · skip
          refine s_aload_n dX10_isLine_127 0 rfl rfl ?_
          refine s_iload_n dX10_isLine_128 1 rfl rfl ?_
          refine s_iconst (v := 2) dX10_isLine_129 (by decide) ?_
          refine s_iadd dX10_isLine_130 ?_
          refine s_iconst (v := 0) dX10_isLine_131 (by decide) ?_
          refine s_aload_n dX10_isLine_132 0 rfl rfl ?_
          refine s_geti gf_X10_149 rfl (m100 hF) k100 (ft_of k100 rfl) dX10_isLine_133 ?_
          refine s_iconst (v := 1) dX10_isLine_136 (by decide) ?_
          refine s_isub dX10_isLine_137 ?_
          refine s_callVwI (As := [.int (v1 + (2 : Int32)), .int (0 : Int32), .int ((s12.1 100 10) - (1 : Int32))]) mf_X10_isNumber vf_X10_isNumber ml_X10_146 (c_X10_isNumber _ E hF s12 (v1 + (2 : Int32)) (0 : Int32) ((s12.1 100 10) - (1 : Int32))) (m100 hF) k100 (by decide) rfl rfl rfl rfl (Nat.le_of_ble_eq_true rfl) rfl dX10_isLine_138 (fun r13 s14 => ?_)
          refine s_if_ne 146 dX10_isLine_141 (by decide) ?_ ?_
          · skip
            refine s_iconst (v := 0) dX10_isLine_144 (by decide) ?_
            exact s_zreturn rfl (by decide) rfl rfl dX10_isLine_145
          · skip
            refine s_aload_n dX10_isLine_146 0 rfl rfl ?_
            refine s_getr (b := 103) gf_X10_20 rfl (m100 hF) k100 (ft_of k100 rfl) (hF.2 _ _) rfl dX10_isLine_147 ?_
            refine s_iload_n dX10_isLine_150 1 rfl rfl ?_
            refine s_iconst (v := 1) dX10_isLine_151 (by decide) ?_
            refine s_iadd dX10_isLine_152 ?_
            refine s_iald (m103 hF) k103 l103 dX10_isLine_153 ?_
            refine s_aload_n dX10_isLine_154 0 rfl rfl ?_
            refine s_getr (b := 103) gf_X10_20 rfl (m100 hF) k100 (ft_of k100 rfl) (hF.2 _ _) rfl dX10_isLine_155 ?_
            refine s_iload_n dX10_isLine_158 1 rfl rfl ?_
            refine s_iconst (v := 2) dX10_isLine_159 (by decide) ?_
            refine s_iadd dX10_isLine_160 ?_
            refine s_iald (m103 hF) k103 l103 dX10_isLine_161 ?_
            refine s_icmp_ne 172 dX10_isLine_162 (by decide) ?_ ?_
            · skip
              refine s_aload_n dX10_isLine_165 0 rfl rfl ?_
              refine s_callVwI (As := []) mf_X10_fails vf_X10_fails ml_X10_136 (c_X10_fails _ E hF s14) (m100 hF) k100 (by decide) rfl rfl rfl rfl (Nat.le_of_ble_eq_true rfl) rfl dX10_isLine_166 (fun r15 s16 => ?_)
              refine s_if_eq 176 dX10_isLine_169 (by decide) ?_ ?_
              · skip
                refine s_iconst (v := 0) dX10_isLine_176 (by decide) ?_
                exact s_zreturn rfl (by decide) rfl rfl dX10_isLine_177
              · skip
                refine s_iconst (v := 1) dX10_isLine_172 (by decide) ?_
                refine s_goto 177 dX10_isLine_173 (by decide) ?_
                exact s_zreturn rfl (by decide) rfl rfl dX10_isLine_177
            · skip
              refine s_iconst (v := 1) dX10_isLine_172 (by decide) ?_
              refine s_goto 177 dX10_isLine_173 (by decide) ?_
              exact s_zreturn rfl (by decide) rfl rfl dX10_isLine_177
  · intro jk3 hjk3
    refine s_if_ne 24 dX10_isLine_17 (by decide) ?_ ?_
    · skip
      refine s_iconst (v := 0) dX10_isLine_20 (by decide) ?_
      refine s_goto 55 dX10_isLine_21 (by decide) ?_
      exact hjk3 (0 : Int32)
    · skip
      refine s_aload_n dX10_isLine_24 0 rfl rfl ?_
      refine s_getl gf_X10_116 rfl (m100 hF) k100 (ft_of k100 rfl) dX10_isLine_25 ?_
      refine s_ldc2 (v := 16819) rfl w_1215 dX10_isLine_28 ?_
      refine s_lcmp dX10_isLine_31 ?_
      refine s_if_ne 39 dX10_isLine_32 (by decide) ?_ ?_
      · skip
        refine s_iconst (v := 1) dX10_isLine_35 (by decide) ?_
        refine s_goto 55 dX10_isLine_36 (by decide) ?_
        exact hjk3 (1 : Int32)
      · skip
        refine s_aload_n dX10_isLine_39 0 rfl rfl ?_
        refine s_getl gf_X10_116 rfl (m100 hF) k100 (ft_of k100 rfl) dX10_isLine_40 ?_
        refine s_ldc2 (v := 10361) rfl w_1216 dX10_isLine_43 ?_
        refine s_lcmp dX10_isLine_46 ?_
        refine s_if_ne 54 dX10_isLine_47 (by decide) ?_ ?_
        · skip
          refine s_iconst (v := 2) dX10_isLine_50 (by decide) ?_
          refine s_goto 55 dX10_isLine_51 (by decide) ?_
          exact hjk3 (2 : Int32)
        · skip
          refine s_iconst (v := -1) dX10_isLine_54 (by decide) ?_
          exact hjk3 (-1 : Int32)
theorem dX10_isRead_0 : decode cX10_isRead 0 = .ok (.aload_n 0, 1) := by decide +kernel
theorem dX10_isRead_1 : decode cX10_isRead 1 = .ok (.iconst 0, 1) := by decide +kernel
theorem dX10_isRead_2 : decode cX10_isRead 2 = .ok (.putfield 102, 3) := by decide +kernel
theorem dX10_isRead_5 : decode cX10_isRead 5 = .ok (.aload_n 0, 1) := by decide +kernel
theorem dX10_isRead_6 : decode cX10_isRead 6 = .ok (.iconst 0, 1) := by decide +kernel
theorem dX10_isRead_7 : decode cX10_isRead 7 = .ok (.putfield 152, 3) := by decide +kernel
theorem dX10_isRead_10 : decode cX10_isRead 10 = .ok (.aload_n 0, 1) := by decide +kernel
theorem dX10_isRead_11 : decode cX10_isRead 11 = .ok (.aload_n 0, 1) := by decide +kernel
theorem dX10_isRead_12 : decode cX10_isRead 12 = .ok (.getfield 7, 3) := by decide +kernel
theorem dX10_isRead_15 : decode cX10_isRead 15 = .ok (.putfield 149, 3) := by decide +kernel
theorem dX10_isRead_18 : decode cX10_isRead 18 = .ok (.iconst 1, 1) := by decide +kernel
theorem dX10_isRead_19 : decode cX10_isRead 19 = .ok (.istore_n 1, 1) := by decide +kernel
theorem dX10_isRead_20 : decode cX10_isRead 20 = .ok (.iload_n 1, 1) := by decide +kernel
theorem dX10_isRead_21 : decode cX10_isRead 21 = .ok (.ifCond .eq 61, 3) := by decide +kernel
theorem dX10_isRead_24 : decode cX10_isRead 24 = .ok (.aload_n 0, 1) := by decide +kernel
theorem dX10_isRead_25 : decode cX10_isRead 25 = .ok (.iconst 3, 1) := by decide +kernel
theorem dX10_isRead_26 : decode cX10_isRead 26 = .ok (.aload_n 0, 1) := by decide +kernel
theorem dX10_isRead_27 : decode cX10_isRead 27 = .ok (.getfield 152, 3) := by decide +kernel
theorem dX10_isRead_30 : decode cX10_isRead 30 = .ok (.imul, 1) := by decide +kernel
theorem dX10_isRead_31 : decode cX10_isRead 31 = .ok (.invokevirtual 155, 3) := by decide +kernel
theorem dX10_isRead_34 : decode cX10_isRead 34 = .ok (.ifCond .ne 5, 3) := by decide +kernel
theorem dX10_isRead_37 : decode cX10_isRead 37 = .ok (.iconst 0, 1) := by decide +kernel
theorem dX10_isRead_38 : decode cX10_isRead 38 = .ok (.ireturn, 1) := by decide +kernel
theorem dX10_isRead_39 : decode cX10_isRead 39 = .ok (.aload_n 0, 1) := by decide +kernel
theorem dX10_isRead_40 : decode cX10_isRead 40 = .ok (.dup, 1) := by decide +kernel
theorem dX10_isRead_41 : decode cX10_isRead 41 = .ok (.getfield 152, 3) := by decide +kernel
theorem dX10_isRead_44 : decode cX10_isRead 44 = .ok (.iconst 1, 1) := by decide +kernel
theorem dX10_isRead_45 : decode cX10_isRead 45 = .ok (.iadd, 1) := by decide +kernel
theorem dX10_isRead_46 : decode cX10_isRead 46 = .ok (.putfield 152, 3) := by decide +kernel
theorem dX10_isRead_49 : decode cX10_isRead 49 = .ok (.aload_n 0, 1) := by decide +kernel
theorem dX10_isRead_50 : decode cX10_isRead 50 = .ok (.invokevirtual 133, 3) := by decide +kernel
theorem dX10_isRead_53 : decode cX10_isRead 53 = .ok (.aload_n 0, 1) := by decide +kernel
theorem dX10_isRead_54 : decode cX10_isRead 54 = .ok (.getfield 116, 3) := by decide +kernel
theorem dX10_isRead_57 : decode cX10_isRead 57 = .ok (.ldc2_w 128, 3) := by decide +kernel
theorem dX10_isRead_60 : decode cX10_isRead 60 = .ok (.lcmp, 1) := by decide +kernel
theorem dX10_isRead_61 : decode cX10_isRead 61 = .ok (.ifCond .ne 16, 3) := by decide +kernel
theorem dX10_isRead_64 : decode cX10_isRead 64 = .ok (.aload_n 0, 1) := by decide +kernel
theorem dX10_isRead_65 : decode cX10_isRead 65 = .ok (.getfield 152, 3) := by decide +kernel
theorem dX10_isRead_68 : decode cX10_isRead 68 = .ok (.bipush 16, 2) := by decide +kernel
theorem dX10_isRead_70 : decode cX10_isRead 70 = .ok (.if_icmp .ge 7, 3) := by decide +kernel
theorem dX10_isRead_73 : decode cX10_isRead 73 = .ok (.iconst 1, 1) := by decide +kernel
theorem dX10_isRead_74 : decode cX10_isRead 74 = .ok (.goto 4, 3) := by decide +kernel
theorem dX10_isRead_77 : decode cX10_isRead 77 = .ok (.iconst 0, 1) := by decide +kernel
theorem dX10_isRead_78 : decode cX10_isRead 78 = .ok (.istore_n 1, 1) := by decide +kernel
theorem dX10_isRead_79 : decode cX10_isRead 79 = .ok (.goto (-59), 3) := by decide +kernel
theorem dX10_isRead_82 : decode cX10_isRead 82 = .ok (.aload_n 0, 1) := by decide +kernel
theorem dX10_isRead_83 : decode cX10_isRead 83 = .ok (.getfield 116, 3) := by decide +kernel
theorem dX10_isRead_86 : decode cX10_isRead 86 = .ok (.ldc2_w 114, 3) := by decide +kernel
theorem dX10_isRead_89 : decode cX10_isRead 89 = .ok (.lcmp, 1) := by decide +kernel
theorem dX10_isRead_90 : decode cX10_isRead 90 = .ok (.ifCond .eq 10, 3) := by decide +kernel
theorem dX10_isRead_93 : decode cX10_isRead 93 = .ok (.aload_n 0, 1) := by decide +kernel
theorem dX10_isRead_94 : decode cX10_isRead 94 = .ok (.invokevirtual 136, 3) := by decide +kernel
theorem dX10_isRead_97 : decode cX10_isRead 97 = .ok (.ifCond .eq 7, 3) := by decide +kernel
theorem dX10_isRead_100 : decode cX10_isRead 100 = .ok (.iconst 1, 1) := by decide +kernel
theorem dX10_isRead_101 : decode cX10_isRead 101 = .ok (.goto 4, 3) := by decide +kernel
theorem dX10_isRead_104 : decode cX10_isRead 104 = .ok (.iconst 0, 1) := by decide +kernel
theorem dX10_isRead_105 : decode cX10_isRead 105 = .ok (.ireturn, 1) := by decide +kernel
def f_X10_isRead (σ : St) : Option (Int32 × St) :=
  bd (setI σ 100 4 (0 : Int32)) fun s1 =>
    bd (setI s1 100 11 (0 : Int32)) fun s2 =>
      bd (setI s2 100 10 (s2.1 100 0)) fun s3 =>
        lo2 FU (fun rec6 (s4 : St) (x5 : Int32) =>
          (if x5 = 0 then
            (if (lg_cmp (s4.2 100 6) (-2 : Int64)) = 0 then
              some ((1 : Int32), s4)
               else
              cal (f_X10_fails s4) fun r8 s9 =>
                (if r8 = 0 then
                  some ((0 : Int32), s9)
                   else
                  some ((1 : Int32), s9)))
             else
            cal (f_X10_isLine s4 ((3 : Int32) * (s4.1 100 11))) fun r10 s11 =>
              (if r10 = 0 then
                some ((0 : Int32), s11)
                 else
                bd (setI s11 100 11 ((s11.1 100 11) + (1 : Int32))) fun s12 =>
                  cal (f_X10_nextToken s12) fun _ s13 =>
                    (if (lg_cmp (s13.2 100 6) (-3 : Int64)) = 0 then
                      (if (s13.1 100 11) < (16 : Int32) then
                        rec6 s13 (1 : Int32)
                         else
                        rec6 s13 (0 : Int32))
                       else
                      rec6 s13 (0 : Int32))))) s3 (1 : Int32)
set_option maxHeartbeats 4000000 in
set_option maxRecDepth 100000 in
theorem c_X10_isRead (l : Launch) (E : Ev) (hF : Full E) (σ : St) : Ctr l (en2 enI) (fun q => q.2) E md_X10_isRead [rV E 100] σ (f_X10_isRead σ) := by
  refine ctr_of rfl (Nat.le_of_ble_eq_true rfl) (fun Γ => ?_)
  show Sim _ Γ _ E md_X10_isRead σ 0 [(0, rV E 100)] [] _
  unfold f_X10_isRead
  refine s_aload_n dX10_isRead_0 0 rfl rfl ?_
  refine s_iconst (v := 0) dX10_isRead_1 (by decide) ?_
  refine s_puti gf_X10_102 rfl (m100 hF) k100 (ft_of k100 rfl) dX10_isRead_2 (fun s1 => ?_)
  refine s_aload_n dX10_isRead_5 0 rfl rfl ?_
  refine s_iconst (v := 0) dX10_isRead_6 (by decide) ?_
  refine s_puti gf_X10_152 rfl (m100 hF) k100 (ft_of k100 rfl) dX10_isRead_7 (fun s2 => ?_)
  refine s_aload_n dX10_isRead_10 0 rfl rfl ?_
  refine s_aload_n dX10_isRead_11 0 rfl rfl ?_
  refine s_geti gf_X10_7 rfl (m100 hF) k100 (ft_of k100 rfl) dX10_isRead_12 ?_
  refine s_puti gf_X10_149 rfl (m100 hF) k100 (ft_of k100 rfl) dX10_isRead_15 (fun s3 => ?_)
  refine s_iconst (v := 1) dX10_isRead_18 (by decide) ?_
  refine s_istore_n [(1, .int (1 : Int32)), (0, rV E 100)] dX10_isRead_19 rfl (by decide) rfl ?_
  refine s_sub (lv' := [(0, rV E 100), (1, .int (1 : Int32))]) [1, 0] rfl ?_
  refine s_lo2 (σf := fun s4 x5 => s4) (lvf := fun s4 x5 => [(0, rV E 100), (1, .int x5)]) (fun rec6 ih7 s4 x5 => ?_)
  refine s_iload_n dX10_isRead_20 1 rfl rfl ?_
  refine s_if_eq 82 dX10_isRead_21 (by decide) ?_ ?_
  · skip
    refine s_aload_n dX10_isRead_82 0 rfl rfl ?_
    refine s_getl gf_X10_116 rfl (m100 hF) k100 (ft_of k100 rfl) dX10_isRead_83 ?_
    refine s_ldc2 (v := -2) rfl w_1208 dX10_isRead_86 ?_
    refine s_lcmp dX10_isRead_89 ?_
    refine s_if_eq 100 dX10_isRead_90 (by decide) ?_ ?_
    · skip
      refine s_iconst (v := 1) dX10_isRead_100 (by decide) ?_
      refine s_goto 105 dX10_isRead_101 (by decide) ?_
      exact s_zreturn rfl (by decide) rfl rfl dX10_isRead_105
    · skip
      refine s_aload_n dX10_isRead_93 0 rfl rfl ?_
      refine s_callVwI (As := []) mf_X10_fails vf_X10_fails ml_X10_136 (c_X10_fails _ E hF s4) (m100 hF) k100 (by decide) rfl rfl rfl rfl (Nat.le_of_ble_eq_true rfl) rfl dX10_isRead_94 (fun r8 s9 => ?_)
      refine s_if_eq 104 dX10_isRead_97 (by decide) ?_ ?_
      · skip
        refine s_iconst (v := 0) dX10_isRead_104 (by decide) ?_
        exact s_zreturn rfl (by decide) rfl rfl dX10_isRead_105
      · skip
        refine s_iconst (v := 1) dX10_isRead_100 (by decide) ?_
        refine s_goto 105 dX10_isRead_101 (by decide) ?_
        exact s_zreturn rfl (by decide) rfl rfl dX10_isRead_105
  · skip
    refine s_aload_n dX10_isRead_24 0 rfl rfl ?_
    refine s_iconst (v := 3) dX10_isRead_25 (by decide) ?_
    refine s_aload_n dX10_isRead_26 0 rfl rfl ?_
    refine s_geti gf_X10_152 rfl (m100 hF) k100 (ft_of k100 rfl) dX10_isRead_27 ?_
    refine s_imul dX10_isRead_30 ?_
    refine s_callVwI (As := [.int ((3 : Int32) * (s4.1 100 11))]) mf_X10_isLine vf_X10_isLine ml_X10_155 (c_X10_isLine _ E hF s4 ((3 : Int32) * (s4.1 100 11))) (m100 hF) k100 (by decide) rfl rfl rfl rfl (Nat.le_of_ble_eq_true rfl) rfl dX10_isRead_31 (fun r10 s11 => ?_)
    refine s_if_ne 39 dX10_isRead_34 (by decide) ?_ ?_
    · skip
      refine s_iconst (v := 0) dX10_isRead_37 (by decide) ?_
      exact s_zreturn rfl (by decide) rfl rfl dX10_isRead_38
    · skip
      refine s_aload_n dX10_isRead_39 0 rfl rfl ?_
      refine s_dup dX10_isRead_40 rfl ?_
      refine s_geti gf_X10_152 rfl (m100 hF) k100 (ft_of k100 rfl) dX10_isRead_41 ?_
      refine s_iconst (v := 1) dX10_isRead_44 (by decide) ?_
      refine s_iadd dX10_isRead_45 ?_
      refine s_puti gf_X10_152 rfl (m100 hF) k100 (ft_of k100 rfl) dX10_isRead_46 (fun s12 => ?_)
      refine s_aload_n dX10_isRead_49 0 rfl rfl ?_
      refine s_callVwV (As := []) mf_X10_nextToken vf_X10_nextToken ml_X10_133 (c_X10_nextToken _ E hF s12) (m100 hF) k100 (by decide) rfl rfl rfl rfl (Nat.le_of_ble_eq_true rfl) rfl dX10_isRead_50 (fun _ s13 => ?_)
      refine s_aload_n dX10_isRead_53 0 rfl rfl ?_
      refine s_getl gf_X10_116 rfl (m100 hF) k100 (ft_of k100 rfl) dX10_isRead_54 ?_
      refine s_ldc2 (v := -3) rfl w_1213 dX10_isRead_57 ?_
      refine s_lcmp dX10_isRead_60 ?_
      refine s_if_ne 77 dX10_isRead_61 (by decide) ?_ ?_
      · skip
        refine s_aload_n dX10_isRead_64 0 rfl rfl ?_
        refine s_geti gf_X10_152 rfl (m100 hF) k100 (ft_of k100 rfl) dX10_isRead_65 ?_
        refine s_bipush (v := 16) dX10_isRead_68 (by decide) ?_
        refine s_icmp_ge 77 dX10_isRead_70 (by decide) ?_ ?_
        · skip
          refine s_iconst (v := 1) dX10_isRead_73 (by decide) ?_
          refine s_goto 78 dX10_isRead_74 (by decide) ?_
          refine s_istore_n [(1, .int (1 : Int32)), (0, rV E 100)] dX10_isRead_78 rfl (by decide) rfl ?_
          refine s_goto 20 dX10_isRead_79 (by decide) ?_
          refine s_sub [1, 0] rfl ?_
          exact ih7 s13 (1 : Int32)
        · skip
          refine s_iconst (v := 0) dX10_isRead_77 (by decide) ?_
          refine s_istore_n [(1, .int (0 : Int32)), (0, rV E 100)] dX10_isRead_78 rfl (by decide) rfl ?_
          refine s_goto 20 dX10_isRead_79 (by decide) ?_
          refine s_sub [1, 0] rfl ?_
          exact ih7 s13 (0 : Int32)
      · skip
        refine s_iconst (v := 0) dX10_isRead_77 (by decide) ?_
        refine s_istore_n [(1, .int (0 : Int32)), (0, rV E 100)] dX10_isRead_78 rfl (by decide) rfl ?_
        refine s_goto 20 dX10_isRead_79 (by decide) ?_
        refine s_sub [1, 0] rfl ?_
        exact ih7 s13 (0 : Int32)
theorem dX10_fault_0 : decode cX10_fault 0 = .ok (.aload_n 0, 1) := by decide +kernel
theorem dX10_fault_1 : decode cX10_fault 1 = .ok (.invokevirtual 159, 3) := by decide +kernel
theorem dX10_fault_4 : decode cX10_fault 4 = .ok (.ifCond .eq 7, 3) := by decide +kernel
theorem dX10_fault_7 : decode cX10_fault 7 = .ok (.iconst (-1), 1) := by decide +kernel
theorem dX10_fault_8 : decode cX10_fault 8 = .ok (.goto 7, 3) := by decide +kernel
theorem dX10_fault_11 : decode cX10_fault 11 = .ok (.aload_n 0, 1) := by decide +kernel
theorem dX10_fault_12 : decode cX10_fault 12 = .ok (.getfield 130, 3) := by decide +kernel
theorem dX10_fault_15 : decode cX10_fault 15 = .ok (.ireturn, 1) := by decide +kernel
def f_X10_fault (σ : St) : Option (Int32 × St) :=
  cal (f_X10_isRead σ) fun r1 s2 =>
    (if r1 = 0 then
      some ((s2.1 100 9), s2)
       else
      some ((-1 : Int32), s2))
set_option maxHeartbeats 4000000 in
set_option maxRecDepth 100000 in
theorem c_X10_fault (l : Launch) (E : Ev) (hF : Full E) (σ : St) : Ctr l (en2 enI) (fun q => q.2) E md_X10_fault [rV E 100] σ (f_X10_fault σ) := by
  refine ctr_of rfl (Nat.le_of_ble_eq_true rfl) (fun Γ => ?_)
  show Sim _ Γ _ E md_X10_fault σ 0 [(0, rV E 100)] [] _
  unfold f_X10_fault
  refine s_aload_n dX10_fault_0 0 rfl rfl ?_
  refine s_callVwI (As := []) mf_X10_isRead vf_X10_isRead ml_X10_159 (c_X10_isRead _ E hF σ) (m100 hF) k100 (by decide) rfl rfl rfl rfl (Nat.le_of_ble_eq_true rfl) rfl dX10_fault_1 (fun r1 s2 => ?_)
  refine s_if_eq 11 dX10_fault_4 (by decide) ?_ ?_
  · skip
    refine s_aload_n dX10_fault_11 0 rfl rfl ?_
    refine s_geti gf_X10_130 rfl (m100 hF) k100 (ft_of k100 rfl) dX10_fault_12 ?_
    exact s_ireturn rfl rfl rfl dX10_fault_15
  · skip
    refine s_iconst (v := -1) dX10_fault_7 (by decide) ?_
    refine s_goto 15 dX10_fault_8 (by decide) ?_
    exact s_ireturn rfl rfl rfl dX10_fault_15
theorem dX10_laid_0 : decode cX10_laid 0 = .ok (.aload_n 0, 1) := by decide +kernel
theorem dX10_laid_1 : decode cX10_laid 1 = .ok (.invokevirtual 159, 3) := by decide +kernel
theorem dX10_laid_4 : decode cX10_laid 4 = .ok (.ifCond .ne 6, 3) := by decide +kernel
theorem dX10_laid_7 : decode cX10_laid 7 = .ok (.bipush (-4), 2) := by decide +kernel
theorem dX10_laid_9 : decode cX10_laid 9 = .ok (.ireturn, 1) := by decide +kernel
theorem dX10_laid_10 : decode cX10_laid 10 = .ok (.iconst 0, 1) := by decide +kernel
theorem dX10_laid_11 : decode cX10_laid 11 = .ok (.istore_n 1, 1) := by decide +kernel
theorem dX10_laid_12 : decode cX10_laid 12 = .ok (.iload_n 1, 1) := by decide +kernel
theorem dX10_laid_13 : decode cX10_laid 13 = .ok (.aload_n 0, 1) := by decide +kernel
theorem dX10_laid_14 : decode cX10_laid 14 = .ok (.getfield 152, 3) := by decide +kernel
theorem dX10_laid_17 : decode cX10_laid 17 = .ok (.if_icmp .ge 127, 3) := by decide +kernel
theorem dX10_laid_20 : decode cX10_laid 20 = .ok (.aload_n 0, 1) := by decide +kernel
theorem dX10_laid_21 : decode cX10_laid 21 = .ok (.getfield 20, 3) := by decide +kernel
theorem dX10_laid_24 : decode cX10_laid 24 = .ok (.iconst 3, 1) := by decide +kernel
theorem dX10_laid_25 : decode cX10_laid 25 = .ok (.iload_n 1, 1) := by decide +kernel
theorem dX10_laid_26 : decode cX10_laid 26 = .ok (.imul, 1) := by decide +kernel
theorem dX10_laid_27 : decode cX10_laid 27 = .ok (.iconst 1, 1) := by decide +kernel
theorem dX10_laid_28 : decode cX10_laid 28 = .ok (.iadd, 1) := by decide +kernel
theorem dX10_laid_29 : decode cX10_laid 29 = .ok (.iaload, 1) := by decide +kernel
theorem dX10_laid_30 : decode cX10_laid 30 = .ok (.istore_n 2, 1) := by decide +kernel
theorem dX10_laid_31 : decode cX10_laid 31 = .ok (.aload_n 0, 1) := by decide +kernel
theorem dX10_laid_32 : decode cX10_laid 32 = .ok (.getfield 20, 3) := by decide +kernel
theorem dX10_laid_35 : decode cX10_laid 35 = .ok (.iconst 3, 1) := by decide +kernel
theorem dX10_laid_36 : decode cX10_laid 36 = .ok (.iload_n 1, 1) := by decide +kernel
theorem dX10_laid_37 : decode cX10_laid 37 = .ok (.imul, 1) := by decide +kernel
theorem dX10_laid_38 : decode cX10_laid 38 = .ok (.iconst 2, 1) := by decide +kernel
theorem dX10_laid_39 : decode cX10_laid 39 = .ok (.iadd, 1) := by decide +kernel
theorem dX10_laid_40 : decode cX10_laid 40 = .ok (.iaload, 1) := by decide +kernel
theorem dX10_laid_41 : decode cX10_laid 41 = .ok (.istore_n 3, 1) := by decide +kernel
theorem dX10_laid_42 : decode cX10_laid 42 = .ok (.aload_n 0, 1) := by decide +kernel
theorem dX10_laid_43 : decode cX10_laid 43 = .ok (.getfield 20, 3) := by decide +kernel
theorem dX10_laid_46 : decode cX10_laid 46 = .ok (.iconst 3, 1) := by decide +kernel
theorem dX10_laid_47 : decode cX10_laid 47 = .ok (.iload_n 1, 1) := by decide +kernel
theorem dX10_laid_48 : decode cX10_laid 48 = .ok (.imul, 1) := by decide +kernel
theorem dX10_laid_49 : decode cX10_laid 49 = .ok (.iaload, 1) := by decide +kernel
theorem dX10_laid_50 : decode cX10_laid 50 = .ok (.iconst 2, 1) := by decide +kernel
theorem dX10_laid_51 : decode cX10_laid 51 = .ok (.if_icmp .ne 35, 3) := by decide +kernel
theorem dX10_laid_54 : decode cX10_laid 54 = .ok (.aload_n 0, 1) := by decide +kernel
theorem dX10_laid_55 : decode cX10_laid 55 = .ok (.iload_n 2, 1) := by decide +kernel
theorem dX10_laid_56 : decode cX10_laid 56 = .ok (.putfield 7, 3) := by decide +kernel
theorem dX10_laid_59 : decode cX10_laid 59 = .ok (.iconst 0, 1) := by decide +kernel
theorem dX10_laid_60 : decode cX10_laid 60 = .ok (.istore 4, 2) := by decide +kernel
theorem dX10_laid_62 : decode cX10_laid 62 = .ok (.iload 4, 2) := by decide +kernel
theorem dX10_laid_64 : decode cX10_laid 64 = .ok (.bipush 8, 2) := by decide +kernel
theorem dX10_laid_66 : decode cX10_laid 66 = .ok (.if_icmp .ge 17, 3) := by decide +kernel
theorem dX10_laid_69 : decode cX10_laid 69 = .ok (.aload_n 0, 1) := by decide +kernel
theorem dX10_laid_70 : decode cX10_laid 70 = .ok (.getfield 13, 3) := by decide +kernel
theorem dX10_laid_73 : decode cX10_laid 73 = .ok (.iload 4, 2) := by decide +kernel
theorem dX10_laid_75 : decode cX10_laid 75 = .ok (.iconst 0, 1) := by decide +kernel
theorem dX10_laid_76 : decode cX10_laid 76 = .ok (.iastore, 1) := by decide +kernel
theorem dX10_laid_77 : decode cX10_laid 77 = .ok (.iinc 4 1, 3) := by decide +kernel
theorem dX10_laid_80 : decode cX10_laid 80 = .ok (.goto (-18), 3) := by decide +kernel
theorem dX10_laid_83 : decode cX10_laid 83 = .ok (.goto 55, 3) := by decide +kernel
theorem dX10_laid_86 : decode cX10_laid 86 = .ok (.aload_n 0, 1) := by decide +kernel
theorem dX10_laid_87 : decode cX10_laid 87 = .ok (.getfield 13, 3) := by decide +kernel
theorem dX10_laid_90 : decode cX10_laid 90 = .ok (.iload_n 2, 1) := by decide +kernel
theorem dX10_laid_91 : decode cX10_laid 91 = .ok (.aload_n 0, 1) := by decide +kernel
theorem dX10_laid_92 : decode cX10_laid 92 = .ok (.getfield 13, 3) := by decide +kernel
theorem dX10_laid_95 : decode cX10_laid 95 = .ok (.iload_n 2, 1) := by decide +kernel
theorem dX10_laid_96 : decode cX10_laid 96 = .ok (.iaload, 1) := by decide +kernel
theorem dX10_laid_97 : decode cX10_laid 97 = .ok (.iconst 1, 1) := by decide +kernel
theorem dX10_laid_98 : decode cX10_laid 98 = .ok (.iload_n 3, 1) := by decide +kernel
theorem dX10_laid_99 : decode cX10_laid 99 = .ok (.ishl, 1) := by decide +kernel
theorem dX10_laid_100 : decode cX10_laid 100 = .ok (.ior, 1) := by decide +kernel
theorem dX10_laid_101 : decode cX10_laid 101 = .ok (.iastore, 1) := by decide +kernel
theorem dX10_laid_102 : decode cX10_laid 102 = .ok (.aload_n 0, 1) := by decide +kernel
theorem dX10_laid_103 : decode cX10_laid 103 = .ok (.getfield 13, 3) := by decide +kernel
theorem dX10_laid_106 : decode cX10_laid 106 = .ok (.iload_n 3, 1) := by decide +kernel
theorem dX10_laid_107 : decode cX10_laid 107 = .ok (.aload_n 0, 1) := by decide +kernel
theorem dX10_laid_108 : decode cX10_laid 108 = .ok (.getfield 20, 3) := by decide +kernel
theorem dX10_laid_111 : decode cX10_laid 111 = .ok (.iconst 3, 1) := by decide +kernel
theorem dX10_laid_112 : decode cX10_laid 112 = .ok (.iload_n 1, 1) := by decide +kernel
theorem dX10_laid_113 : decode cX10_laid 113 = .ok (.imul, 1) := by decide +kernel
theorem dX10_laid_114 : decode cX10_laid 114 = .ok (.iaload, 1) := by decide +kernel
theorem dX10_laid_115 : decode cX10_laid 115 = .ok (.ifCond .ne 16, 3) := by decide +kernel
theorem dX10_laid_118 : decode cX10_laid 118 = .ok (.aload_n 0, 1) := by decide +kernel
theorem dX10_laid_119 : decode cX10_laid 119 = .ok (.getfield 13, 3) := by decide +kernel
theorem dX10_laid_122 : decode cX10_laid 122 = .ok (.iload_n 3, 1) := by decide +kernel
theorem dX10_laid_123 : decode cX10_laid 123 = .ok (.iaload, 1) := by decide +kernel
theorem dX10_laid_124 : decode cX10_laid 124 = .ok (.iconst 1, 1) := by decide +kernel
theorem dX10_laid_125 : decode cX10_laid 125 = .ok (.iload_n 2, 1) := by decide +kernel
theorem dX10_laid_126 : decode cX10_laid 126 = .ok (.ishl, 1) := by decide +kernel
theorem dX10_laid_127 : decode cX10_laid 127 = .ok (.ior, 1) := by decide +kernel
theorem dX10_laid_128 : decode cX10_laid 128 = .ok (.goto 9, 3) := by decide +kernel
theorem dX10_laid_131 : decode cX10_laid 131 = .ok (.aload_n 0, 1) := by decide +kernel
theorem dX10_laid_132 : decode cX10_laid 132 = .ok (.getfield 13, 3) := by decide +kernel
theorem dX10_laid_135 : decode cX10_laid 135 = .ok (.iload_n 3, 1) := by decide +kernel
theorem dX10_laid_136 : decode cX10_laid 136 = .ok (.iaload, 1) := by decide +kernel
theorem dX10_laid_137 : decode cX10_laid 137 = .ok (.iastore, 1) := by decide +kernel
theorem dX10_laid_138 : decode cX10_laid 138 = .ok (.iinc 1 1, 3) := by decide +kernel
theorem dX10_laid_141 : decode cX10_laid 141 = .ok (.goto (-129), 3) := by decide +kernel
theorem dX10_laid_144 : decode cX10_laid 144 = .ok (.aload_n 0, 1) := by decide +kernel
theorem dX10_laid_145 : decode cX10_laid 145 = .ok (.iconst 0, 1) := by decide +kernel
theorem dX10_laid_146 : decode cX10_laid 146 = .ok (.putfield 97, 3) := by decide +kernel
theorem dX10_laid_149 : decode cX10_laid 149 = .ok (.aload_n 0, 1) := by decide +kernel
theorem dX10_laid_150 : decode cX10_laid 150 = .ok (.invokevirtual 162, 3) := by decide +kernel
theorem dX10_laid_153 : decode cX10_laid 153 = .ok (.aload_n 0, 1) := by decide +kernel
theorem dX10_laid_154 : decode cX10_laid 154 = .ok (.getfield 7, 3) := by decide +kernel
theorem dX10_laid_157 : decode cX10_laid 157 = .ok (.ireturn, 1) := by decide +kernel
def f_X10_laid (σ : St) : Option (Int32 × St) :=
  cal (f_X10_isRead σ) fun r1 s2 =>
    (if r1 = 0 then
      some ((-4 : Int32), s2)
       else
      lo2 FU (fun rec5 (s3 : St) (x4 : Int32) =>
        (if x4 < (s3.1 100 11) then
          ck (((3 : Int32) * x4) + (1 : Int32)) 48 <|
            bd (s3.1 103 (((3 : Int32) * x4) + (1 : Int32)).toNatClampNeg) fun x7 =>
              ck (((3 : Int32) * x4) + (2 : Int32)) 48 <|
                bd (s3.1 103 (((3 : Int32) * x4) + (2 : Int32)).toNatClampNeg) fun x8 =>
                  ck ((3 : Int32) * x4) 48 <|
                    (if (s3.1 103 ((3 : Int32) * x4).toNatClampNeg) = (2 : Int32) then
                      bd (setI s3 100 0 x7) fun s9 =>
                        lo2 FU (fun rec12 (s10 : St) (x11 : Int32) =>
                          (if x11 < (8 : Int32) then
                            ck x11 8 <|
                              bd (setI s10 101 x11.toNatClampNeg (0 : Int32)) fun s14 =>
                                rec12 s14 (x11 + 1)
                             else
                            rec5 s10 (x4 + 1))) s9 (0 : Int32)
                       else
                      ck x7 8 <|
                        ck x7 8 <|
                          bd (setI s3 101 x7.toNatClampNeg ((s3.1 101 x7.toNatClampNeg) ||| ((1 : Int32) <<< (x8 &&& 31)))) fun s15 =>
                            ck ((3 : Int32) * x4) 48 <|
                              (if (s15.1 103 ((3 : Int32) * x4).toNatClampNeg) = 0 then
                                ck x8 8 <|
                                  ck x8 8 <|
                                    bd (setI s15 101 x8.toNatClampNeg ((s15.1 101 x8.toNatClampNeg) ||| ((1 : Int32) <<< (x7 &&& 31)))) fun s16 =>
                                      rec5 s16 (x4 + 1)
                                 else
                                ck x8 8 <|
                                  ck x8 8 <|
                                    bd (setI s15 101 x8.toNatClampNeg (s15.1 101 x8.toNatClampNeg)) fun s17 =>
                                      rec5 s17 (x4 + 1)))
           else
          bd (setI s3 100 2 (0 : Int32)) fun s18 =>
            cal (f_X10_forget s18) fun _ s19 =>
              some ((s19.1 100 0), s19))) s2 (0 : Int32))
set_option maxHeartbeats 4000000 in
set_option maxRecDepth 100000 in
theorem c_X10_laid (l : Launch) (E : Ev) (hF : Full E) (σ : St) : Ctr l (en2 enI) (fun q => q.2) E md_X10_laid [rV E 100] σ (f_X10_laid σ) := by
  refine ctr_of rfl (Nat.le_of_ble_eq_true rfl) (fun Γ => ?_)
  show Sim _ Γ _ E md_X10_laid σ 0 [(0, rV E 100)] [] _
  unfold f_X10_laid
  refine s_aload_n dX10_laid_0 0 rfl rfl ?_
  refine s_callVwI (As := []) mf_X10_isRead vf_X10_isRead ml_X10_159 (c_X10_isRead _ E hF σ) (m100 hF) k100 (by decide) rfl rfl rfl rfl (Nat.le_of_ble_eq_true rfl) rfl dX10_laid_1 (fun r1 s2 => ?_)
  refine s_if_ne 10 dX10_laid_4 (by decide) ?_ ?_
  · skip
    refine s_bipush (v := -4) dX10_laid_7 (by decide) ?_
    exact s_ireturn rfl rfl rfl dX10_laid_9
  · skip
    refine s_iconst (v := 0) dX10_laid_10 (by decide) ?_
    refine s_istore_n [(1, .int (0 : Int32)), (0, rV E 100)] dX10_laid_11 rfl (by decide) rfl ?_
    refine s_sub (lv' := [(0, rV E 100), (1, .int (0 : Int32))]) [1, 0] rfl ?_
    refine s_lo2 (σf := fun s3 x4 => s3) (lvf := fun s3 x4 => [(0, rV E 100), (1, .int x4)]) (fun rec5 ih6 s3 x4 => ?_)
    refine s_iload_n dX10_laid_12 1 rfl rfl ?_
    refine s_aload_n dX10_laid_13 0 rfl rfl ?_
    refine s_geti gf_X10_152 rfl (m100 hF) k100 (ft_of k100 rfl) dX10_laid_14 ?_
    refine s_icmp_ge 144 dX10_laid_17 (by decide) ?_ ?_
    · skip
      refine s_aload_n dX10_laid_20 0 rfl rfl ?_
      refine s_getr (b := 103) gf_X10_20 rfl (m100 hF) k100 (ft_of k100 rfl) (hF.2 _ _) rfl dX10_laid_21 ?_
      refine s_iconst (v := 3) dX10_laid_24 (by decide) ?_
      refine s_iload_n dX10_laid_25 1 rfl rfl ?_
      refine s_imul dX10_laid_26 ?_
      refine s_iconst (v := 1) dX10_laid_27 (by decide) ?_
      refine s_iadd dX10_laid_28 ?_
      refine s_iald (m103 hF) k103 l103 dX10_laid_29 ?_
      refine s_istore_nB (fun x7 => [(2, .int x7), (0, rV E 100), (1, .int x4)]) dX10_laid_30 rfl (by decide) (fun _ => rfl) (fun x7 => ?_)
      refine s_aload_n dX10_laid_31 1 rfl rfl ?_
      refine s_getr (b := 103) gf_X10_20 rfl (m100 hF) k100 (ft_of k100 rfl) (hF.2 _ _) rfl dX10_laid_32 ?_
      refine s_iconst (v := 3) dX10_laid_35 (by decide) ?_
      refine s_iload_n dX10_laid_36 2 rfl rfl ?_
      refine s_imul dX10_laid_37 ?_
      refine s_iconst (v := 2) dX10_laid_38 (by decide) ?_
      refine s_iadd dX10_laid_39 ?_
      refine s_iald (m103 hF) k103 l103 dX10_laid_40 ?_
      refine s_istore_nB (fun x8 => [(3, .int x8), (2, .int x7), (0, rV E 100), (1, .int x4)]) dX10_laid_41 rfl (by decide) (fun _ => rfl) (fun x8 => ?_)
      refine s_aload_n dX10_laid_42 2 rfl rfl ?_
      refine s_getr (b := 103) gf_X10_20 rfl (m100 hF) k100 (ft_of k100 rfl) (hF.2 _ _) rfl dX10_laid_43 ?_
      refine s_iconst (v := 3) dX10_laid_46 (by decide) ?_
      refine s_iload_n dX10_laid_47 3 rfl rfl ?_
      refine s_imul dX10_laid_48 ?_
      refine s_iald (m103 hF) k103 l103 dX10_laid_49 ?_
      refine s_iconst (v := 2) dX10_laid_50 (by decide) ?_
      refine s_icmp_ne 86 dX10_laid_51 (by decide) ?_ ?_
      · skip
        refine s_aload_n dX10_laid_54 2 rfl rfl ?_
        refine s_iload_n dX10_laid_55 1 rfl rfl ?_
        refine s_puti gf_X10_7 rfl (m100 hF) k100 (ft_of k100 rfl) dX10_laid_56 (fun s9 => ?_)
        refine s_iconst (v := 0) dX10_laid_59 (by decide) ?_
        refine s_istore [(4, .int (0 : Int32)), (3, .int x8), (2, .int x7), (0, rV E 100), (1, .int x4)] dX10_laid_60 (by decide) rfl ?_
        refine s_sub (lv' := [(0, rV E 100), (1, .int x4), (4, .int (0 : Int32))]) [3, 4, 0] rfl ?_
        refine s_lo2 (σf := fun s10 x11 => s10) (lvf := fun s10 x11 => [(0, rV E 100), (1, .int x4), (4, .int x11)]) (fun rec12 ih13 s10 x11 => ?_)
        refine s_iload dX10_laid_62 2 rfl ?_
        refine s_bipush (v := 8) dX10_laid_64 (by decide) ?_
        refine s_icmp_ge 83 dX10_laid_66 (by decide) ?_ ?_
        · skip
          refine s_aload_n dX10_laid_69 0 rfl rfl ?_
          refine s_getr (b := 101) gf_X10_13 rfl (m100 hF) k100 (ft_of k100 rfl) (hF.2 _ _) rfl dX10_laid_70 ?_
          refine s_iload dX10_laid_73 2 rfl ?_
          refine s_iconst (v := 0) dX10_laid_75 (by decide) ?_
          refine s_iast (m101 hF) k101 l101 dX10_laid_76 (fun s14 => ?_)
          refine s_iinc [(4, .int (x11 + 1)), (0, rV E 100), (1, .int x4)] dX10_laid_77 2 rfl rfl (by decide) rfl ?_
          refine s_goto 62 dX10_laid_80 (by decide) ?_
          refine s_sub [1, 2, 0] rfl ?_
          exact ih13 s14 (x11 + 1)
        · skip
          refine s_goto 138 dX10_laid_83 (by decide) ?_
          refine s_iinc [(1, .int (x4 + 1)), (0, rV E 100), (4, .int x11)] dX10_laid_138 1 rfl rfl (by decide) rfl ?_
          refine s_goto 12 dX10_laid_141 (by decide) ?_
          refine s_sub [1, 0] rfl ?_
          exact ih6 s10 (x4 + 1)
      · skip
        refine s_aload_n dX10_laid_86 2 rfl rfl ?_
        refine s_getr (b := 101) gf_X10_13 rfl (m100 hF) k100 (ft_of k100 rfl) (hF.2 _ _) rfl dX10_laid_87 ?_
        refine s_iload_n dX10_laid_90 1 rfl rfl ?_
        refine s_aload_n dX10_laid_91 2 rfl rfl ?_
        refine s_getr (b := 101) gf_X10_13 rfl (m100 hF) k100 (ft_of k100 rfl) (hF.2 _ _) rfl dX10_laid_92 ?_
        refine s_iload_n dX10_laid_95 1 rfl rfl ?_
        refine s_iald (m101 hF) k101 l101 dX10_laid_96 ?_
        refine s_iconst (v := 1) dX10_laid_97 (by decide) ?_
        refine s_iload_n dX10_laid_98 0 rfl rfl ?_
        refine s_ishl dX10_laid_99 ?_
        refine s_ior dX10_laid_100 ?_
        refine s_iast (m101 hF) k101 l101 dX10_laid_101 (fun s15 => ?_)
        refine s_aload_n dX10_laid_102 2 rfl rfl ?_
        refine s_getr (b := 101) gf_X10_13 rfl (m100 hF) k100 (ft_of k100 rfl) (hF.2 _ _) rfl dX10_laid_103 ?_
        refine s_iload_n dX10_laid_106 0 rfl rfl ?_
        refine s_aload_n dX10_laid_107 2 rfl rfl ?_
        refine s_getr (b := 103) gf_X10_20 rfl (m100 hF) k100 (ft_of k100 rfl) (hF.2 _ _) rfl dX10_laid_108 ?_
        refine s_iconst (v := 3) dX10_laid_111 (by decide) ?_
        refine s_iload_n dX10_laid_112 3 rfl rfl ?_
        refine s_imul dX10_laid_113 ?_
        refine s_iald (m103 hF) k103 l103 dX10_laid_114 ?_
        refine s_if_ne 131 dX10_laid_115 (by decide) ?_ ?_
        · skip
          refine s_aload_n dX10_laid_118 2 rfl rfl ?_
          refine s_getr (b := 101) gf_X10_13 rfl (m100 hF) k100 (ft_of k100 rfl) (hF.2 _ _) rfl dX10_laid_119 ?_
          refine s_iload_n dX10_laid_122 0 rfl rfl ?_
          refine s_iald (m101 hF) k101 l101 dX10_laid_123 ?_
          refine s_iconst (v := 1) dX10_laid_124 (by decide) ?_
          refine s_iload_n dX10_laid_125 1 rfl rfl ?_
          refine s_ishl dX10_laid_126 ?_
          refine s_ior dX10_laid_127 ?_
          refine s_goto 137 dX10_laid_128 (by decide) ?_
          refine s_iast (m101 hF) k101 l101 dX10_laid_137 (fun s16 => ?_)
          refine s_iinc [(1, .int (x4 + 1)), (3, .int x8), (2, .int x7), (0, rV E 100)] dX10_laid_138 3 rfl rfl (by decide) rfl ?_
          refine s_goto 12 dX10_laid_141 (by decide) ?_
          refine s_sub [3, 0] rfl ?_
          exact ih6 s16 (x4 + 1)
        · skip
          refine s_aload_n dX10_laid_131 2 rfl rfl ?_
          refine s_getr (b := 101) gf_X10_13 rfl (m100 hF) k100 (ft_of k100 rfl) (hF.2 _ _) rfl dX10_laid_132 ?_
          refine s_iload_n dX10_laid_135 0 rfl rfl ?_
          refine s_iald (m101 hF) k101 l101 dX10_laid_136 ?_
          refine s_iast (m101 hF) k101 l101 dX10_laid_137 (fun s17 => ?_)
          refine s_iinc [(1, .int (x4 + 1)), (3, .int x8), (2, .int x7), (0, rV E 100)] dX10_laid_138 3 rfl rfl (by decide) rfl ?_
          refine s_goto 12 dX10_laid_141 (by decide) ?_
          refine s_sub [3, 0] rfl ?_
          exact ih6 s17 (x4 + 1)
    · skip
      refine s_aload_n dX10_laid_144 0 rfl rfl ?_
      refine s_iconst (v := 0) dX10_laid_145 (by decide) ?_
      refine s_puti gf_X10_97 rfl (m100 hF) k100 (ft_of k100 rfl) dX10_laid_146 (fun s18 => ?_)
      refine s_aload_n dX10_laid_149 0 rfl rfl ?_
      refine s_callVwV (As := []) mf_X10_forget vf_X10_forget ml_X10_162 (c_X10_forget _ E hF s18) (m100 hF) k100 (by decide) rfl rfl rfl rfl (Nat.le_of_ble_eq_true rfl) rfl dX10_laid_150 (fun _ s19 => ?_)
      refine s_aload_n dX10_laid_153 0 rfl rfl ?_
      refine s_geti gf_X10_7 rfl (m100 hF) k100 (ft_of k100 rfl) dX10_laid_154 ?_
      exact s_ireturn rfl rfl rfl dX10_laid_157
theorem dX10_road_0 : decode cX10_road 0 = .ok (.aload_n 0, 1) := by decide +kernel
theorem dX10_road_1 : decode cX10_road 1 = .ok (.iload_n 1, 1) := by decide +kernel
theorem dX10_road_2 : decode cX10_road 2 = .ok (.invokevirtual 165, 3) := by decide +kernel
theorem dX10_road_5 : decode cX10_road 5 = .ok (.ifCond .eq 16, 3) := by decide +kernel
theorem dX10_road_8 : decode cX10_road 8 = .ok (.aload_n 0, 1) := by decide +kernel
theorem dX10_road_9 : decode cX10_road 9 = .ok (.iload_n 2, 1) := by decide +kernel
theorem dX10_road_10 : decode cX10_road 10 = .ok (.invokevirtual 165, 3) := by decide +kernel
theorem dX10_road_13 : decode cX10_road 13 = .ok (.ifCond .eq 8, 3) := by decide +kernel
theorem dX10_road_16 : decode cX10_road 16 = .ok (.iload_n 1, 1) := by decide +kernel
theorem dX10_road_17 : decode cX10_road 17 = .ok (.iload_n 2, 1) := by decide +kernel
theorem dX10_road_18 : decode cX10_road 18 = .ok (.if_icmp .ne 6, 3) := by decide +kernel
theorem dX10_road_21 : decode cX10_road 21 = .ok (.bipush (-2), 2) := by decide +kernel
theorem dX10_road_23 : decode cX10_road 23 = .ok (.ireturn, 1) := by decide +kernel
theorem dX10_road_24 : decode cX10_road 24 = .ok (.aload_n 0, 1) := by decide +kernel
theorem dX10_road_25 : decode cX10_road 25 = .ok (.getfield 13, 3) := by decide +kernel
theorem dX10_road_28 : decode cX10_road 28 = .ok (.iload_n 1, 1) := by decide +kernel
theorem dX10_road_29 : decode cX10_road 29 = .ok (.iload 4, 2) := by decide +kernel
theorem dX10_road_31 : decode cX10_road 31 = .ok (.ifCond .eq 16, 3) := by decide +kernel
theorem dX10_road_34 : decode cX10_road 34 = .ok (.aload_n 0, 1) := by decide +kernel
theorem dX10_road_35 : decode cX10_road 35 = .ok (.getfield 13, 3) := by decide +kernel
theorem dX10_road_38 : decode cX10_road 38 = .ok (.iload_n 1, 1) := by decide +kernel
theorem dX10_road_39 : decode cX10_road 39 = .ok (.iaload, 1) := by decide +kernel
theorem dX10_road_40 : decode cX10_road 40 = .ok (.iconst 1, 1) := by decide +kernel
theorem dX10_road_41 : decode cX10_road 41 = .ok (.iload_n 2, 1) := by decide +kernel
theorem dX10_road_42 : decode cX10_road 42 = .ok (.ishl, 1) := by decide +kernel
theorem dX10_road_43 : decode cX10_road 43 = .ok (.ior, 1) := by decide +kernel
theorem dX10_road_44 : decode cX10_road 44 = .ok (.goto 15, 3) := by decide +kernel
theorem dX10_road_47 : decode cX10_road 47 = .ok (.aload_n 0, 1) := by decide +kernel
theorem dX10_road_48 : decode cX10_road 48 = .ok (.getfield 13, 3) := by decide +kernel
theorem dX10_road_51 : decode cX10_road 51 = .ok (.iload_n 1, 1) := by decide +kernel
theorem dX10_road_52 : decode cX10_road 52 = .ok (.iaload, 1) := by decide +kernel
theorem dX10_road_53 : decode cX10_road 53 = .ok (.iconst 1, 1) := by decide +kernel
theorem dX10_road_54 : decode cX10_road 54 = .ok (.iload_n 2, 1) := by decide +kernel
theorem dX10_road_55 : decode cX10_road 55 = .ok (.ishl, 1) := by decide +kernel
theorem dX10_road_56 : decode cX10_road 56 = .ok (.iconst (-1), 1) := by decide +kernel
theorem dX10_road_57 : decode cX10_road 57 = .ok (.ixor, 1) := by decide +kernel
theorem dX10_road_58 : decode cX10_road 58 = .ok (.iand, 1) := by decide +kernel
theorem dX10_road_59 : decode cX10_road 59 = .ok (.iastore, 1) := by decide +kernel
theorem dX10_road_60 : decode cX10_road 60 = .ok (.iload_n 3, 1) := by decide +kernel
theorem dX10_road_61 : decode cX10_road 61 = .ok (.ifCond .eq 39, 3) := by decide +kernel
theorem dX10_road_64 : decode cX10_road 64 = .ok (.aload_n 0, 1) := by decide +kernel
theorem dX10_road_65 : decode cX10_road 65 = .ok (.getfield 13, 3) := by decide +kernel
theorem dX10_road_68 : decode cX10_road 68 = .ok (.iload_n 2, 1) := by decide +kernel
theorem dX10_road_69 : decode cX10_road 69 = .ok (.iload 4, 2) := by decide +kernel
theorem dX10_road_71 : decode cX10_road 71 = .ok (.ifCond .eq 16, 3) := by decide +kernel
theorem dX10_road_74 : decode cX10_road 74 = .ok (.aload_n 0, 1) := by decide +kernel
theorem dX10_road_75 : decode cX10_road 75 = .ok (.getfield 13, 3) := by decide +kernel
theorem dX10_road_78 : decode cX10_road 78 = .ok (.iload_n 2, 1) := by decide +kernel
theorem dX10_road_79 : decode cX10_road 79 = .ok (.iaload, 1) := by decide +kernel
theorem dX10_road_80 : decode cX10_road 80 = .ok (.iconst 1, 1) := by decide +kernel
theorem dX10_road_81 : decode cX10_road 81 = .ok (.iload_n 1, 1) := by decide +kernel
theorem dX10_road_82 : decode cX10_road 82 = .ok (.ishl, 1) := by decide +kernel
theorem dX10_road_83 : decode cX10_road 83 = .ok (.ior, 1) := by decide +kernel
theorem dX10_road_84 : decode cX10_road 84 = .ok (.goto 15, 3) := by decide +kernel
theorem dX10_road_87 : decode cX10_road 87 = .ok (.aload_n 0, 1) := by decide +kernel
theorem dX10_road_88 : decode cX10_road 88 = .ok (.getfield 13, 3) := by decide +kernel
theorem dX10_road_91 : decode cX10_road 91 = .ok (.iload_n 2, 1) := by decide +kernel
theorem dX10_road_92 : decode cX10_road 92 = .ok (.iaload, 1) := by decide +kernel
theorem dX10_road_93 : decode cX10_road 93 = .ok (.iconst 1, 1) := by decide +kernel
theorem dX10_road_94 : decode cX10_road 94 = .ok (.iload_n 1, 1) := by decide +kernel
theorem dX10_road_95 : decode cX10_road 95 = .ok (.ishl, 1) := by decide +kernel
theorem dX10_road_96 : decode cX10_road 96 = .ok (.iconst (-1), 1) := by decide +kernel
theorem dX10_road_97 : decode cX10_road 97 = .ok (.ixor, 1) := by decide +kernel
theorem dX10_road_98 : decode cX10_road 98 = .ok (.iand, 1) := by decide +kernel
theorem dX10_road_99 : decode cX10_road 99 = .ok (.iastore, 1) := by decide +kernel
theorem dX10_road_100 : decode cX10_road 100 = .ok (.aload_n 0, 1) := by decide +kernel
theorem dX10_road_101 : decode cX10_road 101 = .ok (.invokevirtual 162, 3) := by decide +kernel
theorem dX10_road_104 : decode cX10_road 104 = .ok (.aload_n 0, 1) := by decide +kernel
theorem dX10_road_105 : decode cX10_road 105 = .ok (.getfield 13, 3) := by decide +kernel
theorem dX10_road_108 : decode cX10_road 108 = .ok (.iload_n 1, 1) := by decide +kernel
theorem dX10_road_109 : decode cX10_road 109 = .ok (.iaload, 1) := by decide +kernel
theorem dX10_road_110 : decode cX10_road 110 = .ok (.iload_n 2, 1) := by decide +kernel
theorem dX10_road_111 : decode cX10_road 111 = .ok (.ishr, 1) := by decide +kernel
theorem dX10_road_112 : decode cX10_road 112 = .ok (.iconst 1, 1) := by decide +kernel
theorem dX10_road_113 : decode cX10_road 113 = .ok (.iand, 1) := by decide +kernel
theorem dX10_road_114 : decode cX10_road 114 = .ok (.ireturn, 1) := by decide +kernel
def f_X10_road (σ : St) (v1 : Int32) (v2 : Int32) (v3 : Int32) (v4 : Int32) : Option (Int32 × St) :=
  calP (f_X10_isPlace σ v1) fun r1 =>
    (if r1 = 0 then
      some ((-2 : Int32), σ)
       else
      calP (f_X10_isPlace σ v2) fun r2 =>
        (if r2 = 0 then
          some ((-2 : Int32), σ)
           else
          (if v1 = v2 then
            some ((-2 : Int32), σ)
             else
            jn1 (fun jk4 =>
              (if v4 = 0 then
                ck v1 8 <|
                  jk4 ((σ.1 101 v1.toNatClampNeg) &&& (((1 : Int32) <<< (v2 &&& 31)) ^^^ (-1 : Int32)))
                 else
                ck v1 8 <|
                  jk4 ((σ.1 101 v1.toNatClampNeg) ||| ((1 : Int32) <<< (v2 &&& 31)))))
              (fun (x3 : Int32) => 
              ck v1 8 <|
                  bd (setI σ 101 v1.toNatClampNeg x3) fun s5 =>
                    jn1 (fun jk7 =>
                      (if v3 = 0 then
                        jk7 s5
                         else
                        (if v4 = 0 then
                          ck v2 8 <|
                            ck v2 8 <|
                              bd (setI s5 101 v2.toNatClampNeg ((s5.1 101 v2.toNatClampNeg) &&& (((1 : Int32) <<< (v1 &&& 31)) ^^^ (-1 : Int32)))) fun s9 =>
                                jk7 s9
                           else
                          ck v2 8 <|
                            ck v2 8 <|
                              bd (setI s5 101 v2.toNatClampNeg ((s5.1 101 v2.toNatClampNeg) ||| ((1 : Int32) <<< (v1 &&& 31)))) fun s10 =>
                                jk7 s10)))
                      (fun (s6 : St) => 
                      cal (f_X10_forget s6) fun _ s8 =>
                          ck v1 8 <|
                            some ((((s8.1 101 v1.toNatClampNeg) >>> (v2 &&& 31)) &&& (1 : Int32)), s8))))))
set_option maxHeartbeats 4000000 in
set_option maxRecDepth 100000 in
theorem c_X10_road (l : Launch) (E : Ev) (hF : Full E) (σ : St) (v1 : Int32) (v2 : Int32) (v3 : Int32) (v4 : Int32) : Ctr l (en2 enI) (fun q => q.2) E md_X10_road [rV E 100, .int v1, .int v2, .int v3, .int v4] σ (f_X10_road σ v1 v2 v3 v4) := by
  refine ctr_of rfl (Nat.le_of_ble_eq_true rfl) (fun Γ => ?_)
  show Sim _ Γ _ E md_X10_road σ 0 [(0, rV E 100), (1, .int v1), (2, .int v2), (3, .int v3), (4, .int v4)] [] _
  unfold f_X10_road
  refine s_aload_n dX10_road_0 0 rfl rfl ?_
  refine s_iload_n dX10_road_1 1 rfl rfl ?_
  refine s_callVpI (As := [.int v1]) mf_X10_isPlace vf_X10_isPlace ml_X10_165 (c_X10_isPlace _ E hF σ v1) (m100 hF) k100 (by decide) rfl rfl rfl rfl (Nat.le_of_ble_eq_true rfl) rfl dX10_road_2 (fun r1 => ?_)
  refine s_if_eq 21 dX10_road_5 (by decide) ?_ ?_
  · skip
    refine s_bipush (v := -2) dX10_road_21 (by decide) ?_
    exact s_ireturn rfl rfl rfl dX10_road_23
  · skip
    refine s_aload_n dX10_road_8 0 rfl rfl ?_
    refine s_iload_n dX10_road_9 2 rfl rfl ?_
    refine s_callVpI (As := [.int v2]) mf_X10_isPlace vf_X10_isPlace ml_X10_165 (c_X10_isPlace _ E hF σ v2) (m100 hF) k100 (by decide) rfl rfl rfl rfl (Nat.le_of_ble_eq_true rfl) rfl dX10_road_10 (fun r2 => ?_)
    refine s_if_eq 21 dX10_road_13 (by decide) ?_ ?_
    · skip
      refine s_bipush (v := -2) dX10_road_21 (by decide) ?_
      exact s_ireturn rfl rfl rfl dX10_road_23
    · skip
      refine s_iload_n dX10_road_16 1 rfl rfl ?_
      refine s_iload_n dX10_road_17 2 rfl rfl ?_
      refine s_icmp_ne 24 dX10_road_18 (by decide) ?_ ?_
      · skip
        refine s_bipush (v := -2) dX10_road_21 (by decide) ?_
        exact s_ireturn rfl rfl rfl dX10_road_23
      · skip
        refine s_aload_n dX10_road_24 0 rfl rfl ?_
        refine s_getr (b := 101) gf_X10_13 rfl (m100 hF) k100 (ft_of k100 rfl) (hF.2 _ _) rfl dX10_road_25 ?_
        refine s_iload_n dX10_road_28 1 rfl rfl ?_
        refine s_iload dX10_road_29 4 rfl ?_
        refine s_jn1 59 (fun x3 => σ) (fun x3 => [(0, rV E 100), (1, .int v1), (2, .int v2), (3, .int v3), (4, .int v4)]) (fun x3 => [.int x3, .int v1, rV E 101]) ?_ ?_
        · intro x3
          refine s_iast (m101 hF) k101 l101 dX10_road_59 (fun s5 => ?_)
          refine s_iload_n dX10_road_60 3 rfl rfl ?_
          refine s_jn1 100 (fun s6 => s6) (fun s6 => [(0, rV E 100), (1, .int v1), (2, .int v2)]) (fun s6 => []) ?_ ?_
          · intro s6
            refine s_aload_n dX10_road_100 0 rfl rfl ?_
            refine s_callVwV (As := []) mf_X10_forget vf_X10_forget ml_X10_162 (c_X10_forget _ E hF s6) (m100 hF) k100 (by decide) rfl rfl rfl rfl (Nat.le_of_ble_eq_true rfl) rfl dX10_road_101 (fun _ s8 => ?_)
            refine s_aload_n dX10_road_104 0 rfl rfl ?_
            refine s_getr (b := 101) gf_X10_13 rfl (m100 hF) k100 (ft_of k100 rfl) (hF.2 _ _) rfl dX10_road_105 ?_
            refine s_iload_n dX10_road_108 1 rfl rfl ?_
            refine s_iald (m101 hF) k101 l101 dX10_road_109 ?_
            refine s_iload_n dX10_road_110 2 rfl rfl ?_
            refine s_ishr dX10_road_111 ?_
            refine s_iconst (v := 1) dX10_road_112 (by decide) ?_
            refine s_iand dX10_road_113 ?_
            exact s_ireturn rfl rfl rfl dX10_road_114
          · intro jk7 hjk7
            refine s_if_eq 100 dX10_road_61 (by decide) ?_ ?_
            · skip
              refine s_sub [0, 1, 2] rfl ?_
              exact hjk7 s5
            · skip
              refine s_aload_n dX10_road_64 0 rfl rfl ?_
              refine s_getr (b := 101) gf_X10_13 rfl (m100 hF) k100 (ft_of k100 rfl) (hF.2 _ _) rfl dX10_road_65 ?_
              refine s_iload_n dX10_road_68 2 rfl rfl ?_
              refine s_iload dX10_road_69 4 rfl ?_
              refine s_if_eq 87 dX10_road_71 (by decide) ?_ ?_
              · skip
                refine s_aload_n dX10_road_87 0 rfl rfl ?_
                refine s_getr (b := 101) gf_X10_13 rfl (m100 hF) k100 (ft_of k100 rfl) (hF.2 _ _) rfl dX10_road_88 ?_
                refine s_iload_n dX10_road_91 2 rfl rfl ?_
                refine s_iald (m101 hF) k101 l101 dX10_road_92 ?_
                refine s_iconst (v := 1) dX10_road_93 (by decide) ?_
                refine s_iload_n dX10_road_94 1 rfl rfl ?_
                refine s_ishl dX10_road_95 ?_
                refine s_iconst (v := -1) dX10_road_96 (by decide) ?_
                refine s_ixor dX10_road_97 ?_
                refine s_iand dX10_road_98 ?_
                refine s_iast (m101 hF) k101 l101 dX10_road_99 (fun s9 => ?_)
                refine s_sub [0, 1, 2] rfl ?_
                exact hjk7 s9
              · skip
                refine s_aload_n dX10_road_74 0 rfl rfl ?_
                refine s_getr (b := 101) gf_X10_13 rfl (m100 hF) k100 (ft_of k100 rfl) (hF.2 _ _) rfl dX10_road_75 ?_
                refine s_iload_n dX10_road_78 2 rfl rfl ?_
                refine s_iald (m101 hF) k101 l101 dX10_road_79 ?_
                refine s_iconst (v := 1) dX10_road_80 (by decide) ?_
                refine s_iload_n dX10_road_81 1 rfl rfl ?_
                refine s_ishl dX10_road_82 ?_
                refine s_ior dX10_road_83 ?_
                refine s_goto 99 dX10_road_84 (by decide) ?_
                refine s_iast (m101 hF) k101 l101 dX10_road_99 (fun s10 => ?_)
                refine s_sub [0, 1, 2] rfl ?_
                exact hjk7 s10
        · intro jk4 hjk4
          refine s_if_eq 47 dX10_road_31 (by decide) ?_ ?_
          · skip
            refine s_aload_n dX10_road_47 0 rfl rfl ?_
            refine s_getr (b := 101) gf_X10_13 rfl (m100 hF) k100 (ft_of k100 rfl) (hF.2 _ _) rfl dX10_road_48 ?_
            refine s_iload_n dX10_road_51 1 rfl rfl ?_
            refine s_iald (m101 hF) k101 l101 dX10_road_52 ?_
            refine s_iconst (v := 1) dX10_road_53 (by decide) ?_
            refine s_iload_n dX10_road_54 2 rfl rfl ?_
            refine s_ishl dX10_road_55 ?_
            refine s_iconst (v := -1) dX10_road_56 (by decide) ?_
            refine s_ixor dX10_road_57 ?_
            refine s_iand dX10_road_58 ?_
            exact hjk4 ((σ.1 101 v1.toNatClampNeg) &&& (((1 : Int32) <<< (v2 &&& 31)) ^^^ (-1 : Int32)))
          · skip
            refine s_aload_n dX10_road_34 0 rfl rfl ?_
            refine s_getr (b := 101) gf_X10_13 rfl (m100 hF) k100 (ft_of k100 rfl) (hF.2 _ _) rfl dX10_road_35 ?_
            refine s_iload_n dX10_road_38 1 rfl rfl ?_
            refine s_iald (m101 hF) k101 l101 dX10_road_39 ?_
            refine s_iconst (v := 1) dX10_road_40 (by decide) ?_
            refine s_iload_n dX10_road_41 2 rfl rfl ?_
            refine s_ishl dX10_road_42 ?_
            refine s_ior dX10_road_43 ?_
            refine s_goto 59 dX10_road_44 (by decide) ?_
            exact hjk4 ((σ.1 101 v1.toNatClampNeg) ||| ((1 : Int32) <<< (v2 &&& 31)))
theorem dX10_steps_0 : decode cX10_steps 0 = .ok (.aload_n 0, 1) := by decide +kernel
theorem dX10_steps_1 : decode cX10_steps 1 = .ok (.iload_n 1, 1) := by decide +kernel
theorem dX10_steps_2 : decode cX10_steps 2 = .ok (.invokevirtual 165, 3) := by decide +kernel
theorem dX10_steps_5 : decode cX10_steps 5 = .ok (.ifCond .eq 11, 3) := by decide +kernel
theorem dX10_steps_8 : decode cX10_steps 8 = .ok (.aload_n 0, 1) := by decide +kernel
theorem dX10_steps_9 : decode cX10_steps 9 = .ok (.iload_n 1, 1) := by decide +kernel
theorem dX10_steps_10 : decode cX10_steps 10 = .ok (.invokevirtual 168, 3) := by decide +kernel
theorem dX10_steps_13 : decode cX10_steps 13 = .ok (.goto 5, 3) := by decide +kernel
theorem dX10_steps_16 : decode cX10_steps 16 = .ok (.bipush (-2), 2) := by decide +kernel
theorem dX10_steps_18 : decode cX10_steps 18 = .ok (.ireturn, 1) := by decide +kernel
def f_X10_steps (σ : St) (v1 : Int32) : Option Int32 :=
  calP (f_X10_isPlace σ v1) fun r1 =>
    (if r1 = 0 then
      some (-2 : Int32)
       else
      calP (f_X10_stepsOf σ v1) fun r2 =>
        some r2)
set_option maxHeartbeats 4000000 in
set_option maxRecDepth 100000 in
theorem c_X10_steps (l : Launch) (E : Ev) (hF : Full E) (σ : St) (v1 : Int32) : Ctr l enI (fun _ => σ) E md_X10_steps [rV E 100, .int v1] σ (f_X10_steps σ v1) := by
  refine ctr_of rfl (Nat.le_of_ble_eq_true rfl) (fun Γ => ?_)
  show Sim _ Γ _ E md_X10_steps σ 0 [(0, rV E 100), (1, .int v1)] [] _
  unfold f_X10_steps
  refine s_aload_n dX10_steps_0 0 rfl rfl ?_
  refine s_iload_n dX10_steps_1 1 rfl rfl ?_
  refine s_callVpI (As := [.int v1]) mf_X10_isPlace vf_X10_isPlace ml_X10_165 (c_X10_isPlace _ E hF σ v1) (m100 hF) k100 (by decide) rfl rfl rfl rfl (Nat.le_of_ble_eq_true rfl) rfl dX10_steps_2 (fun r1 => ?_)
  refine s_if_eq 16 dX10_steps_5 (by decide) ?_ ?_
  · skip
    refine s_bipush (v := -2) dX10_steps_16 (by decide) ?_
    exact s_ireturn rfl rfl rfl dX10_steps_18
  · skip
    refine s_aload_n dX10_steps_8 0 rfl rfl ?_
    refine s_iload_n dX10_steps_9 1 rfl rfl ?_
    refine s_callVpI (As := [.int v1]) mf_X10_stepsOf vf_X10_stepsOf ml_X10_168 (c_X10_stepsOf _ E hF σ v1) (m100 hF) k100 (by decide) rfl rfl rfl rfl (Nat.le_of_ble_eq_true rfl) rfl dX10_steps_10 (fun r2 => ?_)
    refine s_goto 18 dX10_steps_13 (by decide) ?_
    exact s_ireturn rfl rfl rfl dX10_steps_18
