theorem dX9_write_0 : decode cX9_write 0 = .ok (.iload_n 3, 1) := by decide +kernel
theorem dX9_write_1 : decode cX9_write 1 = .ok (.iconst 1, 1) := by decide +kernel
theorem dX9_write_2 : decode cX9_write 2 = .ok (.if_icmp .lt 9, 3) := by decide +kernel
theorem dX9_write_5 : decode cX9_write 5 = .ok (.iload_n 3, 1) := by decide +kernel
theorem dX9_write_6 : decode cX9_write 6 = .ok (.bipush 8, 2) := by decide +kernel
theorem dX9_write_8 : decode cX9_write 8 = .ok (.if_icmp .le 6, 3) := by decide +kernel
theorem dX9_write_11 : decode cX9_write 11 = .ok (.bipush (-3), 2) := by decide +kernel
theorem dX9_write_13 : decode cX9_write 13 = .ok (.ireturn, 1) := by decide +kernel
theorem dX9_write_14 : decode cX9_write 14 = .ok (.aload_n 0, 1) := by decide +kernel
theorem dX9_write_15 : decode cX9_write 15 = .ok (.getfield 21, 3) := by decide +kernel
theorem dX9_write_18 : decode cX9_write 18 = .ok (.lload_n 1, 1) := by decide +kernel
theorem dX9_write_19 : decode cX9_write 19 = .ok (.iload_n 3, 1) := by decide +kernel
theorem dX9_write_20 : decode cX9_write 20 = .ok (.invokevirtual 87, 3) := by decide +kernel
theorem dX9_write_23 : decode cX9_write 23 = .ok (.ifCond .eq 13, 3) := by decide +kernel
theorem dX9_write_26 : decode cX9_write 26 = .ok (.aload_n 0, 1) := by decide +kernel
theorem dX9_write_27 : decode cX9_write 27 = .ok (.getfield 21, 3) := by decide +kernel
theorem dX9_write_30 : decode cX9_write 30 = .ok (.invokevirtual 91, 3) := by decide +kernel
theorem dX9_write_33 : decode cX9_write 33 = .ok (.goto 5, 3) := by decide +kernel
theorem dX9_write_36 : decode cX9_write 36 = .ok (.bipush (-5), 2) := by decide +kernel
theorem dX9_write_38 : decode cX9_write 38 = .ok (.ireturn, 1) := by decide +kernel
def f_X9_write (σ : St) (v1 : Int64) (v3 : Int32) : Option (Int32 × St) :=
  (if v3 < (1 : Int32) then
    some ((-3 : Int32), σ)
     else
    (if (8 : Int32) < v3 then
      some ((-3 : Int32), σ)
       else
      cal (f_X7_append σ v1 v3) fun r1 s2 =>
        (if r1 = 0 then
          some ((-5 : Int32), s2)
           else
          calP (f_X7_length s2) fun r3 =>
            some (r3, s2))))
set_option maxHeartbeats 4000000 in
set_option maxRecDepth 100000 in
theorem c_X9_write (l : Launch) (E : Ev) (hF : Full E) (σ : St) (v1 : Int64) (v3 : Int32) : Ctr l (en2 enI) (fun q => q.2) E md_X9_write [rV E 0, .long v1, .int v3] σ (f_X9_write σ v1 v3) := by
  refine ctr_of rfl (Nat.le_of_ble_eq_true rfl) (fun Γ => ?_)
  show Sim _ Γ _ E md_X9_write σ 0 [(0, rV E 0), (1, .long v1), (3, .int v3)] [] _
  unfold f_X9_write
  refine s_iload_n dX9_write_0 2 rfl rfl ?_
  refine s_iconst (v := 1) dX9_write_1 (by decide) ?_
  refine s_icmp_lt 11 dX9_write_2 (by decide) ?_ ?_
  · skip
    refine s_bipush (v := -3) dX9_write_11 (by decide) ?_
    exact s_ireturn rfl rfl rfl dX9_write_13
  · skip
    refine s_iload_n dX9_write_5 2 rfl rfl ?_
    refine s_bipush (v := 8) dX9_write_6 (by decide) ?_
    refine s_icmp_le 14 dX9_write_8 (by decide) ?_ ?_
    · skip
      refine s_bipush (v := -3) dX9_write_11 (by decide) ?_
      exact s_ireturn rfl rfl rfl dX9_write_13
    · skip
      refine s_aload_n dX9_write_14 0 rfl rfl ?_
      refine s_getr (b := 6) gf_X9_21 rfl (m0 hF) k0 (ft_of k0 rfl) (hF.2 _ _) rfl dX9_write_15 ?_
      refine s_lload_n dX9_write_18 1 rfl rfl ?_
      refine s_iload_n dX9_write_19 2 rfl rfl ?_
      refine s_callVwI (As := [.long v1, .int v3]) mf_X7_append vf_X7_append ml_X9_87 (c_X7_append _ E hF σ v1 v3) (m6 hF) k6 (by decide) rfl rfl rfl rfl (Nat.le_of_ble_eq_true rfl) rfl dX9_write_20 (fun r1 s2 => ?_)
      refine s_if_eq 36 dX9_write_23 (by decide) ?_ ?_
      · skip
        refine s_bipush (v := -5) dX9_write_36 (by decide) ?_
        exact s_ireturn rfl rfl rfl dX9_write_38
      · skip
        refine s_aload_n dX9_write_26 0 rfl rfl ?_
        refine s_getr (b := 6) gf_X9_21 rfl (m0 hF) k0 (ft_of k0 rfl) (hF.2 _ _) rfl dX9_write_27 ?_
        refine s_callVpI (As := []) mf_X7_length vf_X7_length ml_X9_91 (c_X7_length _ E hF s2) (m6 hF) k6 (by decide) rfl rfl rfl rfl (Nat.le_of_ble_eq_true rfl) rfl dX9_write_30 (fun r3 => ?_)
        refine s_goto 38 dX9_write_33 (by decide) ?_
        exact s_ireturn rfl rfl rfl dX9_write_38
theorem dX9_erase_0 : decode cX9_erase 0 = .ok (.aload_n 0, 1) := by decide +kernel
theorem dX9_erase_1 : decode cX9_erase 1 = .ok (.getfield 21, 3) := by decide +kernel
theorem dX9_erase_4 : decode cX9_erase 4 = .ok (.invokevirtual 91, 3) := by decide +kernel
theorem dX9_erase_7 : decode cX9_erase 7 = .ok (.istore_n 1, 1) := by decide +kernel
theorem dX9_erase_8 : decode cX9_erase 8 = .ok (.aload_n 0, 1) := by decide +kernel
theorem dX9_erase_9 : decode cX9_erase 9 = .ok (.getfield 21, 3) := by decide +kernel
theorem dX9_erase_12 : decode cX9_erase 12 = .ok (.invokevirtual 95, 3) := by decide +kernel
theorem dX9_erase_15 : decode cX9_erase 15 = .ok (.iload_n 1, 1) := by decide +kernel
theorem dX9_erase_16 : decode cX9_erase 16 = .ok (.ireturn, 1) := by decide +kernel
def f_X9_erase (σ : St) : Option (Int32 × St) :=
  calP (f_X7_length σ) fun r1 =>
    cal (f_X7_drop σ) fun _ s2 =>
      some (r1, s2)
set_option maxHeartbeats 4000000 in
set_option maxRecDepth 100000 in
theorem c_X9_erase (l : Launch) (E : Ev) (hF : Full E) (σ : St) : Ctr l (en2 enI) (fun q => q.2) E md_X9_erase [rV E 0] σ (f_X9_erase σ) := by
  refine ctr_of rfl (Nat.le_of_ble_eq_true rfl) (fun Γ => ?_)
  show Sim _ Γ _ E md_X9_erase σ 0 [(0, rV E 0)] [] _
  unfold f_X9_erase
  refine s_aload_n dX9_erase_0 0 rfl rfl ?_
  refine s_getr (b := 6) gf_X9_21 rfl (m0 hF) k0 (ft_of k0 rfl) (hF.2 _ _) rfl dX9_erase_1 ?_
  refine s_callVpI (As := []) mf_X7_length vf_X7_length ml_X9_91 (c_X7_length _ E hF σ) (m6 hF) k6 (by decide) rfl rfl rfl rfl (Nat.le_of_ble_eq_true rfl) rfl dX9_erase_4 (fun r1 => ?_)
  refine s_istore_n [(1, .int r1), (0, rV E 0)] dX9_erase_7 rfl (by decide) rfl ?_
  refine s_aload_n dX9_erase_8 1 rfl rfl ?_
  refine s_getr (b := 6) gf_X9_21 rfl (m0 hF) k0 (ft_of k0 rfl) (hF.2 _ _) rfl dX9_erase_9 ?_
  refine s_callVwV (As := []) mf_X7_drop vf_X7_drop ml_X9_95 (c_X7_drop _ E hF σ) (m6 hF) k6 (by decide) rfl rfl rfl rfl (Nat.le_of_ble_eq_true rfl) rfl dX9_erase_12 (fun _ s2 => ?_)
  refine s_iload_n dX9_erase_15 0 rfl rfl ?_
  exact s_ireturn rfl rfl rfl dX9_erase_16
theorem dX9_fault_0 : decode cX9_fault 0 = .ok (.aload_n 0, 1) := by decide +kernel
theorem dX9_fault_1 : decode cX9_fault 1 = .ok (.getfield 21, 3) := by decide +kernel
theorem dX9_fault_4 : decode cX9_fault 4 = .ok (.aload_n 0, 1) := by decide +kernel
theorem dX9_fault_5 : decode cX9_fault 5 = .ok (.getfield 14, 3) := by decide +kernel
theorem dX9_fault_8 : decode cX9_fault 8 = .ok (.invokevirtual 98, 3) := by decide +kernel
theorem dX9_fault_11 : decode cX9_fault 11 = .ok (.invokevirtual 101, 3) := by decide +kernel
theorem dX9_fault_14 : decode cX9_fault 14 = .ok (.ireturn, 1) := by decide +kernel
def f_X9_fault (σ : St) : Option (Int32 × St) :=
  calP (f_X3_places σ) fun r1 =>
    cal (f_X7_read σ r1) fun r2 s3 =>
      some (r2, s3)
set_option maxHeartbeats 4000000 in
set_option maxRecDepth 100000 in
theorem c_X9_fault (l : Launch) (E : Ev) (hF : Full E) (σ : St) : Ctr l (en2 enI) (fun q => q.2) E md_X9_fault [rV E 0] σ (f_X9_fault σ) := by
  refine ctr_of rfl (Nat.le_of_ble_eq_true rfl) (fun Γ => ?_)
  show Sim _ Γ _ E md_X9_fault σ 0 [(0, rV E 0)] [] _
  unfold f_X9_fault
  refine s_aload_n dX9_fault_0 0 rfl rfl ?_
  refine s_getr (b := 6) gf_X9_21 rfl (m0 hF) k0 (ft_of k0 rfl) (hF.2 _ _) rfl dX9_fault_1 ?_
  refine s_aload_n dX9_fault_4 0 rfl rfl ?_
  refine s_getr (b := 1) gf_X9_14 rfl (m0 hF) k0 (ft_of k0 rfl) (hF.2 _ _) rfl dX9_fault_5 ?_
  refine s_callVpI (As := []) mf_X3_places vf_X3_places ml_X9_98 (c_X3_places _ E hF σ) (m1 hF) k1 (by decide) rfl rfl rfl rfl (Nat.le_of_ble_eq_true rfl) rfl dX9_fault_8 (fun r1 => ?_)
  refine s_callVwI (As := [.int r1]) mf_X7_read vf_X7_read ml_X9_101 (c_X7_read _ E hF σ r1) (m6 hF) k6 (by decide) rfl rfl rfl rfl (Nat.le_of_ble_eq_true rfl) rfl dX9_fault_11 (fun r2 s3 => ?_)
  exact s_ireturn rfl rfl rfl dX9_fault_14
theorem dX9_laid_0 : decode cX9_laid 0 = .ok (.aload_n 0, 1) := by decide +kernel
theorem dX9_laid_1 : decode cX9_laid 1 = .ok (.getfield 21, 3) := by decide +kernel
theorem dX9_laid_4 : decode cX9_laid 4 = .ok (.aload_n 0, 1) := by decide +kernel
theorem dX9_laid_5 : decode cX9_laid 5 = .ok (.getfield 14, 3) := by decide +kernel
theorem dX9_laid_8 : decode cX9_laid 8 = .ok (.invokevirtual 98, 3) := by decide +kernel
theorem dX9_laid_11 : decode cX9_laid 11 = .ok (.invokevirtual 101, 3) := by decide +kernel
theorem dX9_laid_14 : decode cX9_laid 14 = .ok (.iconst (-1), 1) := by decide +kernel
theorem dX9_laid_15 : decode cX9_laid 15 = .ok (.if_icmp .eq 6, 3) := by decide +kernel
theorem dX9_laid_18 : decode cX9_laid 18 = .ok (.bipush (-4), 2) := by decide +kernel
theorem dX9_laid_20 : decode cX9_laid 20 = .ok (.ireturn, 1) := by decide +kernel
theorem dX9_laid_21 : decode cX9_laid 21 = .ok (.aload_n 0, 1) := by decide +kernel
theorem dX9_laid_22 : decode cX9_laid 22 = .ok (.getfield 21, 3) := by decide +kernel
theorem dX9_laid_25 : decode cX9_laid 25 = .ok (.aload_n 0, 1) := by decide +kernel
theorem dX9_laid_26 : decode cX9_laid 26 = .ok (.getfield 14, 3) := by decide +kernel
theorem dX9_laid_29 : decode cX9_laid 29 = .ok (.invokevirtual 105, 3) := by decide +kernel
theorem dX9_laid_32 : decode cX9_laid 32 = .ok (.aload_n 0, 1) := by decide +kernel
theorem dX9_laid_33 : decode cX9_laid 33 = .ok (.getfield 21, 3) := by decide +kernel
theorem dX9_laid_36 : decode cX9_laid 36 = .ok (.invokevirtual 95, 3) := by decide +kernel
theorem dX9_laid_39 : decode cX9_laid 39 = .ok (.aload_n 0, 1) := by decide +kernel
theorem dX9_laid_40 : decode cX9_laid 40 = .ok (.getfield 46, 3) := by decide +kernel
theorem dX9_laid_43 : decode cX9_laid 43 = .ok (.invokevirtual 108, 3) := by decide +kernel
theorem dX9_laid_46 : decode cX9_laid 46 = .ok (.aload_n 0, 1) := by decide +kernel
theorem dX9_laid_47 : decode cX9_laid 47 = .ok (.getfield 14, 3) := by decide +kernel
theorem dX9_laid_50 : decode cX9_laid 50 = .ok (.invokevirtual 98, 3) := by decide +kernel
theorem dX9_laid_53 : decode cX9_laid 53 = .ok (.ireturn, 1) := by decide +kernel
def f_X9_laid (σ : St) : Option (Int32 × St) :=
  calP (f_X3_places σ) fun r1 =>
    cal (f_X7_read σ r1) fun r2 s3 =>
      (if r2 = (-1 : Int32) then
        cal (f_X7_layOn s3) fun _ s4 =>
          cal (f_X7_drop s4) fun _ s5 =>
            cal (f_X5_end s5) fun _ s6 =>
              calP (f_X3_places s6) fun r7 =>
                some (r7, s6)
         else
        some ((-4 : Int32), s3))
set_option maxHeartbeats 4000000 in
set_option maxRecDepth 100000 in
theorem c_X9_laid (l : Launch) (E : Ev) (hF : Full E) (σ : St) : Ctr l (en2 enI) (fun q => q.2) E md_X9_laid [rV E 0] σ (f_X9_laid σ) := by
  refine ctr_of rfl (Nat.le_of_ble_eq_true rfl) (fun Γ => ?_)
  show Sim _ Γ _ E md_X9_laid σ 0 [(0, rV E 0)] [] _
  unfold f_X9_laid
  refine s_aload_n dX9_laid_0 0 rfl rfl ?_
  refine s_getr (b := 6) gf_X9_21 rfl (m0 hF) k0 (ft_of k0 rfl) (hF.2 _ _) rfl dX9_laid_1 ?_
  refine s_aload_n dX9_laid_4 0 rfl rfl ?_
  refine s_getr (b := 1) gf_X9_14 rfl (m0 hF) k0 (ft_of k0 rfl) (hF.2 _ _) rfl dX9_laid_5 ?_
  refine s_callVpI (As := []) mf_X3_places vf_X3_places ml_X9_98 (c_X3_places _ E hF σ) (m1 hF) k1 (by decide) rfl rfl rfl rfl (Nat.le_of_ble_eq_true rfl) rfl dX9_laid_8 (fun r1 => ?_)
  refine s_callVwI (As := [.int r1]) mf_X7_read vf_X7_read ml_X9_101 (c_X7_read _ E hF σ r1) (m6 hF) k6 (by decide) rfl rfl rfl rfl (Nat.le_of_ble_eq_true rfl) rfl dX9_laid_11 (fun r2 s3 => ?_)
  refine s_iconst (v := -1) dX9_laid_14 (by decide) ?_
  refine s_icmp_eq 21 dX9_laid_15 (by decide) ?_ ?_
  · skip
    refine s_aload_n dX9_laid_21 0 rfl rfl ?_
    refine s_getr (b := 6) gf_X9_21 rfl (m0 hF) k0 (ft_of k0 rfl) (hF.2 _ _) rfl dX9_laid_22 ?_
    refine s_aload_n dX9_laid_25 0 rfl rfl ?_
    refine s_getr (b := 1) gf_X9_14 rfl (m0 hF) k0 (ft_of k0 rfl) (hF.2 _ _) rfl dX9_laid_26 ?_
    refine s_callVwV (As := [rV E 1]) mf_X7_layOn vf_X7_layOn ml_X9_105 (c_X7_layOn _ E hF s3) (m6 hF) k6 (by decide) rfl rfl rfl rfl (Nat.le_of_ble_eq_true rfl) rfl dX9_laid_29 (fun _ s4 => ?_)
    refine s_aload_n dX9_laid_32 0 rfl rfl ?_
    refine s_getr (b := 6) gf_X9_21 rfl (m0 hF) k0 (ft_of k0 rfl) (hF.2 _ _) rfl dX9_laid_33 ?_
    refine s_callVwV (As := []) mf_X7_drop vf_X7_drop ml_X9_95 (c_X7_drop _ E hF s4) (m6 hF) k6 (by decide) rfl rfl rfl rfl (Nat.le_of_ble_eq_true rfl) rfl dX9_laid_36 (fun _ s5 => ?_)
    refine s_aload_n dX9_laid_39 0 rfl rfl ?_
    refine s_getr (b := 13) gf_X9_46 rfl (m0 hF) k0 (ft_of k0 rfl) (hF.2 _ _) rfl dX9_laid_40 ?_
    refine s_callVwV (As := []) mf_X5_end vf_X5_end ml_X9_108 (c_X5_end _ E hF s5) (m13 hF) k13 (by decide) rfl rfl rfl rfl (Nat.le_of_ble_eq_true rfl) rfl dX9_laid_43 (fun _ s6 => ?_)
    refine s_aload_n dX9_laid_46 0 rfl rfl ?_
    refine s_getr (b := 1) gf_X9_14 rfl (m0 hF) k0 (ft_of k0 rfl) (hF.2 _ _) rfl dX9_laid_47 ?_
    refine s_callVpI (As := []) mf_X3_places vf_X3_places ml_X9_98 (c_X3_places _ E hF s6) (m1 hF) k1 (by decide) rfl rfl rfl rfl (Nat.le_of_ble_eq_true rfl) rfl dX9_laid_50 (fun r7 => ?_)
    exact s_ireturn rfl rfl rfl dX9_laid_53
  · skip
    refine s_bipush (v := -4) dX9_laid_18 (by decide) ?_
    exact s_ireturn rfl rfl rfl dX9_laid_20
theorem dX9_road_0 : decode cX9_road 0 = .ok (.aload_n 0, 1) := by decide +kernel
theorem dX9_road_1 : decode cX9_road 1 = .ok (.getfield 14, 3) := by decide +kernel
theorem dX9_road_4 : decode cX9_road 4 = .ok (.iload_n 1, 1) := by decide +kernel
theorem dX9_road_5 : decode cX9_road 5 = .ok (.invokevirtual 111, 3) := by decide +kernel
theorem dX9_road_8 : decode cX9_road 8 = .ok (.ifCond .eq 19, 3) := by decide +kernel
theorem dX9_road_11 : decode cX9_road 11 = .ok (.aload_n 0, 1) := by decide +kernel
theorem dX9_road_12 : decode cX9_road 12 = .ok (.getfield 14, 3) := by decide +kernel
theorem dX9_road_15 : decode cX9_road 15 = .ok (.iload_n 2, 1) := by decide +kernel
theorem dX9_road_16 : decode cX9_road 16 = .ok (.invokevirtual 111, 3) := by decide +kernel
theorem dX9_road_19 : decode cX9_road 19 = .ok (.ifCond .eq 8, 3) := by decide +kernel
theorem dX9_road_22 : decode cX9_road 22 = .ok (.iload_n 1, 1) := by decide +kernel
theorem dX9_road_23 : decode cX9_road 23 = .ok (.iload_n 2, 1) := by decide +kernel
theorem dX9_road_24 : decode cX9_road 24 = .ok (.if_icmp .ne 6, 3) := by decide +kernel
theorem dX9_road_27 : decode cX9_road 27 = .ok (.bipush (-2), 2) := by decide +kernel
theorem dX9_road_29 : decode cX9_road 29 = .ok (.ireturn, 1) := by decide +kernel
theorem dX9_road_30 : decode cX9_road 30 = .ok (.aload_n 0, 1) := by decide +kernel
theorem dX9_road_31 : decode cX9_road 31 = .ok (.getfield 14, 3) := by decide +kernel
theorem dX9_road_34 : decode cX9_road 34 = .ok (.iload_n 1, 1) := by decide +kernel
theorem dX9_road_35 : decode cX9_road 35 = .ok (.iload_n 2, 1) := by decide +kernel
theorem dX9_road_36 : decode cX9_road 36 = .ok (.iload 4, 2) := by decide +kernel
theorem dX9_road_38 : decode cX9_road 38 = .ok (.invokevirtual 115, 3) := by decide +kernel
theorem dX9_road_41 : decode cX9_road 41 = .ok (.iload_n 3, 1) := by decide +kernel
theorem dX9_road_42 : decode cX9_road 42 = .ok (.ifCond .eq 14, 3) := by decide +kernel
theorem dX9_road_45 : decode cX9_road 45 = .ok (.aload_n 0, 1) := by decide +kernel
theorem dX9_road_46 : decode cX9_road 46 = .ok (.getfield 14, 3) := by decide +kernel
theorem dX9_road_49 : decode cX9_road 49 = .ok (.iload_n 2, 1) := by decide +kernel
theorem dX9_road_50 : decode cX9_road 50 = .ok (.iload_n 1, 1) := by decide +kernel
theorem dX9_road_51 : decode cX9_road 51 = .ok (.iload 4, 2) := by decide +kernel
theorem dX9_road_53 : decode cX9_road 53 = .ok (.invokevirtual 115, 3) := by decide +kernel
theorem dX9_road_56 : decode cX9_road 56 = .ok (.aload_n 0, 1) := by decide +kernel
theorem dX9_road_57 : decode cX9_road 57 = .ok (.getfield 14, 3) := by decide +kernel
theorem dX9_road_60 : decode cX9_road 60 = .ok (.invokevirtual 119, 3) := by decide +kernel
theorem dX9_road_63 : decode cX9_road 63 = .ok (.aload_n 0, 1) := by decide +kernel
theorem dX9_road_64 : decode cX9_road 64 = .ok (.getfield 46, 3) := by decide +kernel
theorem dX9_road_67 : decode cX9_road 67 = .ok (.invokevirtual 108, 3) := by decide +kernel
theorem dX9_road_70 : decode cX9_road 70 = .ok (.aload_n 0, 1) := by decide +kernel
theorem dX9_road_71 : decode cX9_road 71 = .ok (.getfield 14, 3) := by decide +kernel
theorem dX9_road_74 : decode cX9_road 74 = .ok (.iload_n 1, 1) := by decide +kernel
theorem dX9_road_75 : decode cX9_road 75 = .ok (.invokevirtual 122, 3) := by decide +kernel
theorem dX9_road_78 : decode cX9_road 78 = .ok (.iload_n 2, 1) := by decide +kernel
theorem dX9_road_79 : decode cX9_road 79 = .ok (.invokestatic 125, 3) := by decide +kernel
theorem dX9_road_82 : decode cX9_road 82 = .ok (.ifCond .eq 7, 3) := by decide +kernel
theorem dX9_road_85 : decode cX9_road 85 = .ok (.iconst 1, 1) := by decide +kernel
theorem dX9_road_86 : decode cX9_road 86 = .ok (.goto 4, 3) := by decide +kernel
theorem dX9_road_89 : decode cX9_road 89 = .ok (.iconst 0, 1) := by decide +kernel
theorem dX9_road_90 : decode cX9_road 90 = .ok (.ireturn, 1) := by decide +kernel
def f_X9_road (σ : St) (v1 : Int32) (v2 : Int32) (v3 : Int32) (v4 : Int32) : Option (Int32 × St) :=
  calP (f_X3_known σ v1) fun r1 =>
    (if r1 = 0 then
      some ((-2 : Int32), σ)
       else
      calP (f_X3_known σ v2) fun r2 =>
        (if r2 = 0 then
          some ((-2 : Int32), σ)
           else
          (if v1 = v2 then
            some ((-2 : Int32), σ)
             else
            cal (f_X3_set σ v1 v2 v4) fun _ s3 =>
              jn1 (fun jk5 =>
                (if v3 = 0 then
                  jk5 s3
                   else
                  cal (f_X3_set s3 v2 v1 v4) fun _ s10 =>
                    jk5 s10))
                (fun (s4 : St) => 
                cal (f_X3_settle s4) fun _ s6 =>
                    cal (f_X5_end s6) fun _ s7 =>
                      calP (f_X3_outOf s7 v1) fun r8 =>
                        calP (f_X9_has s7 r8 v2) fun r9 =>
                          (if r9 = 0 then
                            some ((0 : Int32), s7)
                             else
                            some ((1 : Int32), s7))))))
set_option maxHeartbeats 4000000 in
set_option maxRecDepth 100000 in
theorem c_X9_road (l : Launch) (E : Ev) (hF : Full E) (σ : St) (v1 : Int32) (v2 : Int32) (v3 : Int32) (v4 : Int32) : Ctr l (en2 enI) (fun q => q.2) E md_X9_road [rV E 0, .int v1, .int v2, .int v3, .int v4] σ (f_X9_road σ v1 v2 v3 v4) := by
  refine ctr_of rfl (Nat.le_of_ble_eq_true rfl) (fun Γ => ?_)
  show Sim _ Γ _ E md_X9_road σ 0 [(0, rV E 0), (1, .int v1), (2, .int v2), (3, .int v3), (4, .int v4)] [] _
  unfold f_X9_road
  refine s_aload_n dX9_road_0 0 rfl rfl ?_
  refine s_getr (b := 1) gf_X9_14 rfl (m0 hF) k0 (ft_of k0 rfl) (hF.2 _ _) rfl dX9_road_1 ?_
  refine s_iload_n dX9_road_4 1 rfl rfl ?_
  refine s_callVpI (As := [.int v1]) mf_X3_known vf_X3_known ml_X9_111 (c_X3_known _ E hF σ v1) (m1 hF) k1 (by decide) rfl rfl rfl rfl (Nat.le_of_ble_eq_true rfl) rfl dX9_road_5 (fun r1 => ?_)
  refine s_if_eq 27 dX9_road_8 (by decide) ?_ ?_
  · skip
    refine s_bipush (v := -2) dX9_road_27 (by decide) ?_
    exact s_ireturn rfl rfl rfl dX9_road_29
  · skip
    refine s_aload_n dX9_road_11 0 rfl rfl ?_
    refine s_getr (b := 1) gf_X9_14 rfl (m0 hF) k0 (ft_of k0 rfl) (hF.2 _ _) rfl dX9_road_12 ?_
    refine s_iload_n dX9_road_15 2 rfl rfl ?_
    refine s_callVpI (As := [.int v2]) mf_X3_known vf_X3_known ml_X9_111 (c_X3_known _ E hF σ v2) (m1 hF) k1 (by decide) rfl rfl rfl rfl (Nat.le_of_ble_eq_true rfl) rfl dX9_road_16 (fun r2 => ?_)
    refine s_if_eq 27 dX9_road_19 (by decide) ?_ ?_
    · skip
      refine s_bipush (v := -2) dX9_road_27 (by decide) ?_
      exact s_ireturn rfl rfl rfl dX9_road_29
    · skip
      refine s_iload_n dX9_road_22 1 rfl rfl ?_
      refine s_iload_n dX9_road_23 2 rfl rfl ?_
      refine s_icmp_ne 30 dX9_road_24 (by decide) ?_ ?_
      · skip
        refine s_bipush (v := -2) dX9_road_27 (by decide) ?_
        exact s_ireturn rfl rfl rfl dX9_road_29
      · skip
        refine s_aload_n dX9_road_30 0 rfl rfl ?_
        refine s_getr (b := 1) gf_X9_14 rfl (m0 hF) k0 (ft_of k0 rfl) (hF.2 _ _) rfl dX9_road_31 ?_
        refine s_iload_n dX9_road_34 1 rfl rfl ?_
        refine s_iload_n dX9_road_35 2 rfl rfl ?_
        refine s_iload dX9_road_36 4 rfl ?_
        refine s_callVwV (As := [.int v1, .int v2, .int v4]) mf_X3_set vf_X3_set ml_X9_115 (c_X3_set _ E hF σ v1 v2 v4) (m1 hF) k1 (by decide) rfl rfl rfl rfl (Nat.le_of_ble_eq_true rfl) rfl dX9_road_38 (fun _ s3 => ?_)
        refine s_iload_n dX9_road_41 3 rfl rfl ?_
        refine s_jn1 56 (fun s4 => s4) (fun s4 => [(0, rV E 0), (1, .int v1), (2, .int v2)]) (fun s4 => []) ?_ ?_
        · intro s4
          refine s_aload_n dX9_road_56 0 rfl rfl ?_
          refine s_getr (b := 1) gf_X9_14 rfl (m0 hF) k0 (ft_of k0 rfl) (hF.2 _ _) rfl dX9_road_57 ?_
          refine s_callVwV (As := []) mf_X3_settle vf_X3_settle ml_X9_119 (c_X3_settle _ E hF s4) (m1 hF) k1 (by decide) rfl rfl rfl rfl (Nat.le_of_ble_eq_true rfl) rfl dX9_road_60 (fun _ s6 => ?_)
          refine s_aload_n dX9_road_63 0 rfl rfl ?_
          refine s_getr (b := 13) gf_X9_46 rfl (m0 hF) k0 (ft_of k0 rfl) (hF.2 _ _) rfl dX9_road_64 ?_
          refine s_callVwV (As := []) mf_X5_end vf_X5_end ml_X9_108 (c_X5_end _ E hF s6) (m13 hF) k13 (by decide) rfl rfl rfl rfl (Nat.le_of_ble_eq_true rfl) rfl dX9_road_67 (fun _ s7 => ?_)
          refine s_aload_n dX9_road_70 0 rfl rfl ?_
          refine s_getr (b := 1) gf_X9_14 rfl (m0 hF) k0 (ft_of k0 rfl) (hF.2 _ _) rfl dX9_road_71 ?_
          refine s_iload_n dX9_road_74 1 rfl rfl ?_
          refine s_callVpI (As := [.int v1]) mf_X3_outOf vf_X3_outOf ml_X9_122 (c_X3_outOf _ E hF s7 v1) (m1 hF) k1 (by decide) rfl rfl rfl rfl (Nat.le_of_ble_eq_true rfl) rfl dX9_road_75 (fun r8 => ?_)
          refine s_iload_n dX9_road_78 2 rfl rfl ?_
          refine s_callSpI (As := [.int r8, .int v2]) mf_X9_has vf_X9_has ml_X9_125 (c_X9_has _ E hF s7 r8 v2) rfl rfl (Nat.le_of_ble_eq_true rfl) rfl dX9_road_79 (fun r9 => ?_)
          refine s_if_eq 89 dX9_road_82 (by decide) ?_ ?_
          · skip
            refine s_iconst (v := 0) dX9_road_89 (by decide) ?_
            exact s_ireturn rfl rfl rfl dX9_road_90
          · skip
            refine s_iconst (v := 1) dX9_road_85 (by decide) ?_
            refine s_goto 90 dX9_road_86 (by decide) ?_
            exact s_ireturn rfl rfl rfl dX9_road_90
        · intro jk5 hjk5
          refine s_if_eq 56 dX9_road_42 (by decide) ?_ ?_
          · skip
            refine s_sub [0, 1, 2] rfl ?_
            exact hjk5 s3
          · skip
            refine s_aload_n dX9_road_45 0 rfl rfl ?_
            refine s_getr (b := 1) gf_X9_14 rfl (m0 hF) k0 (ft_of k0 rfl) (hF.2 _ _) rfl dX9_road_46 ?_
            refine s_iload_n dX9_road_49 2 rfl rfl ?_
            refine s_iload_n dX9_road_50 1 rfl rfl ?_
            refine s_iload dX9_road_51 4 rfl ?_
            refine s_callVwV (As := [.int v2, .int v1, .int v4]) mf_X3_set vf_X3_set ml_X9_115 (c_X3_set _ E hF s3 v2 v1 v4) (m1 hF) k1 (by decide) rfl rfl rfl rfl (Nat.le_of_ble_eq_true rfl) rfl dX9_road_53 (fun _ s10 => ?_)
            refine s_sub [0, 1, 2] rfl ?_
            exact hjk5 s10
theorem dX9_steps_0 : decode cX9_steps 0 = .ok (.aload_n 0, 1) := by decide +kernel
theorem dX9_steps_1 : decode cX9_steps 1 = .ok (.getfield 14, 3) := by decide +kernel
theorem dX9_steps_4 : decode cX9_steps 4 = .ok (.iload_n 1, 1) := by decide +kernel
theorem dX9_steps_5 : decode cX9_steps 5 = .ok (.invokevirtual 111, 3) := by decide +kernel
theorem dX9_steps_8 : decode cX9_steps 8 = .ok (.ifCond .eq 14, 3) := by decide +kernel
theorem dX9_steps_11 : decode cX9_steps 11 = .ok (.aload_n 0, 1) := by decide +kernel
theorem dX9_steps_12 : decode cX9_steps 12 = .ok (.getfield 14, 3) := by decide +kernel
theorem dX9_steps_15 : decode cX9_steps 15 = .ok (.iload_n 1, 1) := by decide +kernel
theorem dX9_steps_16 : decode cX9_steps 16 = .ok (.invokevirtual 122, 3) := by decide +kernel
theorem dX9_steps_19 : decode cX9_steps 19 = .ok (.goto 5, 3) := by decide +kernel
theorem dX9_steps_22 : decode cX9_steps 22 = .ok (.bipush (-2), 2) := by decide +kernel
theorem dX9_steps_24 : decode cX9_steps 24 = .ok (.ireturn, 1) := by decide +kernel
def f_X9_steps (σ : St) (v1 : Int32) : Option Int32 :=
  calP (f_X3_known σ v1) fun r1 =>
    (if r1 = 0 then
      some (-2 : Int32)
       else
      calP (f_X3_outOf σ v1) fun r2 =>
        some r2)
set_option maxHeartbeats 4000000 in
set_option maxRecDepth 100000 in
theorem c_X9_steps (l : Launch) (E : Ev) (hF : Full E) (σ : St) (v1 : Int32) : Ctr l enI (fun _ => σ) E md_X9_steps [rV E 0, .int v1] σ (f_X9_steps σ v1) := by
  refine ctr_of rfl (Nat.le_of_ble_eq_true rfl) (fun Γ => ?_)
  show Sim _ Γ _ E md_X9_steps σ 0 [(0, rV E 0), (1, .int v1)] [] _
  unfold f_X9_steps
  refine s_aload_n dX9_steps_0 0 rfl rfl ?_
  refine s_getr (b := 1) gf_X9_14 rfl (m0 hF) k0 (ft_of k0 rfl) (hF.2 _ _) rfl dX9_steps_1 ?_
  refine s_iload_n dX9_steps_4 1 rfl rfl ?_
  refine s_callVpI (As := [.int v1]) mf_X3_known vf_X3_known ml_X9_111 (c_X3_known _ E hF σ v1) (m1 hF) k1 (by decide) rfl rfl rfl rfl (Nat.le_of_ble_eq_true rfl) rfl dX9_steps_5 (fun r1 => ?_)
  refine s_if_eq 22 dX9_steps_8 (by decide) ?_ ?_
  · skip
    refine s_bipush (v := -2) dX9_steps_22 (by decide) ?_
    exact s_ireturn rfl rfl rfl dX9_steps_24
  · skip
    refine s_aload_n dX9_steps_11 0 rfl rfl ?_
    refine s_getr (b := 1) gf_X9_14 rfl (m0 hF) k0 (ft_of k0 rfl) (hF.2 _ _) rfl dX9_steps_12 ?_
    refine s_iload_n dX9_steps_15 1 rfl rfl ?_
    refine s_callVpI (As := [.int v1]) mf_X3_outOf vf_X3_outOf ml_X9_122 (c_X3_outOf _ E hF σ v1) (m1 hF) k1 (by decide) rfl rfl rfl rfl (Nat.le_of_ble_eq_true rfl) rfl dX9_steps_16 (fun r2 => ?_)
    refine s_goto 24 dX9_steps_19 (by decide) ?_
    exact s_ireturn rfl rfl rfl dX9_steps_24
theorem dX9_far_0 : decode cX9_far 0 = .ok (.aload_n 0, 1) := by decide +kernel
theorem dX9_far_1 : decode cX9_far 1 = .ok (.getfield 14, 3) := by decide +kernel
theorem dX9_far_4 : decode cX9_far 4 = .ok (.iload_n 1, 1) := by decide +kernel
theorem dX9_far_5 : decode cX9_far 5 = .ok (.invokevirtual 111, 3) := by decide +kernel
theorem dX9_far_8 : decode cX9_far 8 = .ok (.ifCond .eq 26, 3) := by decide +kernel
theorem dX9_far_11 : decode cX9_far 11 = .ok (.aload_n 0, 1) := by decide +kernel
theorem dX9_far_12 : decode cX9_far 12 = .ok (.getfield 14, 3) := by decide +kernel
theorem dX9_far_15 : decode cX9_far 15 = .ok (.iload_n 2, 1) := by decide +kernel
theorem dX9_far_16 : decode cX9_far 16 = .ok (.invokevirtual 111, 3) := by decide +kernel
theorem dX9_far_19 : decode cX9_far 19 = .ok (.ifCond .eq 15, 3) := by decide +kernel
theorem dX9_far_22 : decode cX9_far 22 = .ok (.aload_n 0, 1) := by decide +kernel
theorem dX9_far_23 : decode cX9_far 23 = .ok (.getfield 14, 3) := by decide +kernel
theorem dX9_far_26 : decode cX9_far 26 = .ok (.iload_n 1, 1) := by decide +kernel
theorem dX9_far_27 : decode cX9_far 27 = .ok (.iload_n 2, 1) := by decide +kernel
theorem dX9_far_28 : decode cX9_far 28 = .ok (.invokevirtual 129, 3) := by decide +kernel
theorem dX9_far_31 : decode cX9_far 31 = .ok (.goto 5, 3) := by decide +kernel
theorem dX9_far_34 : decode cX9_far 34 = .ok (.bipush (-2), 2) := by decide +kernel
theorem dX9_far_36 : decode cX9_far 36 = .ok (.ireturn, 1) := by decide +kernel
def f_X9_far (σ : St) (v1 : Int32) (v2 : Int32) : Option Int32 :=
  calP (f_X3_known σ v1) fun r1 =>
    (if r1 = 0 then
      some (-2 : Int32)
       else
      calP (f_X3_known σ v2) fun r2 =>
        (if r2 = 0 then
          some (-2 : Int32)
           else
          calP (f_X3_distance σ v1 v2) fun r3 =>
            some r3))
set_option maxHeartbeats 4000000 in
set_option maxRecDepth 100000 in
theorem c_X9_far (l : Launch) (E : Ev) (hF : Full E) (σ : St) (v1 : Int32) (v2 : Int32) : Ctr l enI (fun _ => σ) E md_X9_far [rV E 0, .int v1, .int v2] σ (f_X9_far σ v1 v2) := by
  refine ctr_of rfl (Nat.le_of_ble_eq_true rfl) (fun Γ => ?_)
  show Sim _ Γ _ E md_X9_far σ 0 [(0, rV E 0), (1, .int v1), (2, .int v2)] [] _
  unfold f_X9_far
  refine s_aload_n dX9_far_0 0 rfl rfl ?_
  refine s_getr (b := 1) gf_X9_14 rfl (m0 hF) k0 (ft_of k0 rfl) (hF.2 _ _) rfl dX9_far_1 ?_
  refine s_iload_n dX9_far_4 1 rfl rfl ?_
  refine s_callVpI (As := [.int v1]) mf_X3_known vf_X3_known ml_X9_111 (c_X3_known _ E hF σ v1) (m1 hF) k1 (by decide) rfl rfl rfl rfl (Nat.le_of_ble_eq_true rfl) rfl dX9_far_5 (fun r1 => ?_)
  refine s_if_eq 34 dX9_far_8 (by decide) ?_ ?_
  · skip
    refine s_bipush (v := -2) dX9_far_34 (by decide) ?_
    exact s_ireturn rfl rfl rfl dX9_far_36
  · skip
    refine s_aload_n dX9_far_11 0 rfl rfl ?_
    refine s_getr (b := 1) gf_X9_14 rfl (m0 hF) k0 (ft_of k0 rfl) (hF.2 _ _) rfl dX9_far_12 ?_
    refine s_iload_n dX9_far_15 2 rfl rfl ?_
    refine s_callVpI (As := [.int v2]) mf_X3_known vf_X3_known ml_X9_111 (c_X3_known _ E hF σ v2) (m1 hF) k1 (by decide) rfl rfl rfl rfl (Nat.le_of_ble_eq_true rfl) rfl dX9_far_16 (fun r2 => ?_)
    refine s_if_eq 34 dX9_far_19 (by decide) ?_ ?_
    · skip
      refine s_bipush (v := -2) dX9_far_34 (by decide) ?_
      exact s_ireturn rfl rfl rfl dX9_far_36
    · skip
      refine s_aload_n dX9_far_22 0 rfl rfl ?_
      refine s_getr (b := 1) gf_X9_14 rfl (m0 hF) k0 (ft_of k0 rfl) (hF.2 _ _) rfl dX9_far_23 ?_
      refine s_iload_n dX9_far_26 1 rfl rfl ?_
      refine s_iload_n dX9_far_27 2 rfl rfl ?_
      refine s_callVpI (As := [.int v1, .int v2]) mf_X3_distance vf_X3_distance ml_X9_129 (c_X3_distance _ E hF σ v1 v2) (m1 hF) k1 (by decide) rfl rfl rfl rfl (Nat.le_of_ble_eq_true rfl) rfl dX9_far_28 (fun r3 => ?_)
      refine s_goto 36 dX9_far_31 (by decide) ?_
      exact s_ireturn rfl rfl rfl dX9_far_36
theorem dX9_chase_0 : decode cX9_chase 0 = .ok (.iload_n 1, 1) := by decide +kernel
theorem dX9_chase_1 : decode cX9_chase 1 = .ok (.iconst 1, 1) := by decide +kernel
theorem dX9_chase_2 : decode cX9_chase 2 = .ok (.isub, 1) := by decide +kernel
theorem dX9_chase_3 : decode cX9_chase 3 = .ok (.iconst 3, 1) := by decide +kernel
theorem dX9_chase_4 : decode cX9_chase 4 = .ok (.imul, 1) := by decide +kernel
theorem dX9_chase_5 : decode cX9_chase 5 = .ok (.iload_n 2, 1) := by decide +kernel
theorem dX9_chase_6 : decode cX9_chase 6 = .ok (.iadd, 1) := by decide +kernel
theorem dX9_chase_7 : decode cX9_chase 7 = .ok (.iconst 1, 1) := by decide +kernel
theorem dX9_chase_8 : decode cX9_chase 8 = .ok (.isub, 1) := by decide +kernel
theorem dX9_chase_9 : decode cX9_chase 9 = .ok (.istore_n 3, 1) := by decide +kernel
theorem dX9_chase_10 : decode cX9_chase 10 = .ok (.aload_n 0, 1) := by decide +kernel
theorem dX9_chase_11 : decode cX9_chase 11 = .ok (.getfield 33, 3) := by decide +kernel
theorem dX9_chase_14 : decode cX9_chase 14 = .ok (.iconst 0, 1) := by decide +kernel
theorem dX9_chase_15 : decode cX9_chase 15 = .ok (.iload_n 3, 1) := by decide +kernel
theorem dX9_chase_16 : decode cX9_chase 16 = .ok (.aload_n 0, 1) := by decide +kernel
theorem dX9_chase_17 : decode cX9_chase 17 = .ok (.getfield 33, 3) := by decide +kernel
theorem dX9_chase_20 : decode cX9_chase 20 = .ok (.arraylength, 1) := by decide +kernel
theorem dX9_chase_21 : decode cX9_chase 21 = .ok (.iconst 1, 1) := by decide +kernel
theorem dX9_chase_22 : decode cX9_chase 22 = .ok (.isub, 1) := by decide +kernel
theorem dX9_chase_23 : decode cX9_chase 23 = .ok (.invokestatic 257, 3) := by decide +kernel
theorem dX9_chase_26 : decode cX9_chase 26 = .ok (.invokestatic 262, 3) := by decide +kernel
theorem dX9_chase_29 : decode cX9_chase 29 = .ok (.aaload, 1) := by decide +kernel
theorem dX9_chase_30 : decode cX9_chase 30 = .ok (.astore 4, 2) := by decide +kernel
theorem dX9_chase_32 : decode cX9_chase 32 = .ok (.aload 4, 2) := by decide +kernel
theorem dX9_chase_34 : decode cX9_chase 34 = .ok (.invokevirtual 265, 3) := by decide +kernel
theorem dX9_chase_37 : decode cX9_chase 37 = .ok (.aload 4, 2) := by decide +kernel
theorem dX9_chase_39 : decode cX9_chase 39 = .ok (.areturn, 1) := by decide +kernel
def f_X9_chase (σ : St) (v1 : Int32) (v2 : Int32) : Option (Nat × St) :=
  bd ((((v1 - (1 : Int32)) * (3 : Int32)) + v2) - (1 : Int32)) fun x1 =>
    ck (if (0 : Int32) < (if ((9 : Int32) - (1 : Int32)) < x1 then ((9 : Int32) - (1 : Int32)) else x1) then (if ((9 : Int32) - (1 : Int32)) < x1 then ((9 : Int32) - (1 : Int32)) else x1) else (0 : Int32)) 9 <|
      bd (if (0 : Int32) < (if ((9 : Int32) - (1 : Int32)) < x1 then ((9 : Int32) - (1 : Int32)) else x1) then (if ((9 : Int32) - (1 : Int32)) < x1 then ((9 : Int32) - (1 : Int32)) else x1) else (0 : Int32)).toNatClampNeg fun j2 =>
        cal (f_X0_solve σ j2) fun _ s3 =>
          some (j2, s3)
set_option maxHeartbeats 4000000 in
set_option maxRecDepth 100000 in
theorem c_X9_chase (l : Launch) (E : Ev) (hF : Full E) (σ : St) (v1 : Int32) (v2 : Int32) : Ctr l (en2 (enC E)) (fun q => q.2) E md_X9_chase [rV E 0, .int v1, .int v2] σ (f_X9_chase σ v1 v2) := by
  refine ctr_of rfl (Nat.le_of_ble_eq_true rfl) (fun Γ => ?_)
  show Sim _ Γ _ E md_X9_chase σ 0 [(0, rV E 0), (1, .int v1), (2, .int v2)] [] _
  unfold f_X9_chase
  refine s_iload_n dX9_chase_0 1 rfl rfl ?_
  refine s_iconst (v := 1) dX9_chase_1 (by decide) ?_
  refine s_isub dX9_chase_2 ?_
  refine s_iconst (v := 3) dX9_chase_3 (by decide) ?_
  refine s_imul dX9_chase_4 ?_
  refine s_iload_n dX9_chase_5 2 rfl rfl ?_
  refine s_iadd dX9_chase_6 ?_
  refine s_iconst (v := 1) dX9_chase_7 (by decide) ?_
  refine s_isub dX9_chase_8 ?_
  refine s_istore_nB (fun x1 => [(3, .int x1), (0, rV E 0), (1, .int v1), (2, .int v2)]) dX9_chase_9 rfl (by decide) (fun _ => rfl) (fun x1 => ?_)
  refine s_aload_n dX9_chase_10 1 rfl rfl ?_
  refine s_getr (b := 12) gf_X9_33 rfl (m0 hF) k0 (ft_of k0 rfl) (hF.2 _ _) rfl dX9_chase_11 ?_
  refine s_iconst (v := 0) dX9_chase_14 (by decide) ?_
  refine s_iload_n dX9_chase_15 0 rfl rfl ?_
  refine s_aload_n dX9_chase_16 1 rfl rfl ?_
  refine s_getr (b := 12) gf_X9_33 rfl (m0 hF) k0 (ft_of k0 rfl) (hF.2 _ _) rfl dX9_chase_17 ?_
  refine s_alen (n := 9) (m12 hF) k12 (by decide) (by decide) (by rw [l12]; rfl) dX9_chase_20 ?_
  refine s_iconst (v := 1) dX9_chase_21 (by decide) ?_
  refine s_isub dX9_chase_22 ?_
  refine s_mmin ml_X9_257 rfl dX9_chase_23 ?_
  refine s_mmax ml_X9_262 rfl dX9_chase_26 ?_
  refine s_aald (m12 hF) k12 (by decide) 3 rfl l12 (fun _ _ => (hF.2 _ _)) dX9_chase_29 (fun j2 hj2 => ?_)
  rw [rA14 hj2]
  refine s_astore [(4, rV E (40 + 5 * j2)), (3, .int x1), (0, rV E 0), (1, .int v1), (2, .int v2)] dX9_chase_30 (by decide) rfl ?_
  refine s_aload dX9_chase_32 0 rfl ?_
  refine s_callVwV (As := []) mf_X0_solve vf_X0_solve ml_X9_265 (c_X0_solve _ E hF σ j2 hj2) (mC hF hj2) (kC hj2) (by decide) rfl rfl rfl rfl (Nat.le_of_ble_eq_true rfl) rfl dX9_chase_34 (fun _ s3 => ?_)
  refine s_aload dX9_chase_37 0 rfl ?_
  exact s_areturn rfl rfl rfl dX9_chase_39
theorem dX9_isChase_0 : decode cX9_isChase 0 = .ok (.iload_n 0, 1) := by decide +kernel
theorem dX9_isChase_1 : decode cX9_isChase 1 = .ok (.iconst 1, 1) := by decide +kernel
theorem dX9_isChase_2 : decode cX9_isChase 2 = .ok (.if_icmp .lt 22, 3) := by decide +kernel
theorem dX9_isChase_5 : decode cX9_isChase 5 = .ok (.iload_n 0, 1) := by decide +kernel
theorem dX9_isChase_6 : decode cX9_isChase 6 = .ok (.iconst 3, 1) := by decide +kernel
theorem dX9_isChase_7 : decode cX9_isChase 7 = .ok (.if_icmp .gt 17, 3) := by decide +kernel
theorem dX9_isChase_10 : decode cX9_isChase 10 = .ok (.iload_n 1, 1) := by decide +kernel
theorem dX9_isChase_11 : decode cX9_isChase 11 = .ok (.iconst 1, 1) := by decide +kernel
theorem dX9_isChase_12 : decode cX9_isChase 12 = .ok (.if_icmp .lt 12, 3) := by decide +kernel
theorem dX9_isChase_15 : decode cX9_isChase 15 = .ok (.iload_n 1, 1) := by decide +kernel
theorem dX9_isChase_16 : decode cX9_isChase 16 = .ok (.iconst 3, 1) := by decide +kernel
theorem dX9_isChase_17 : decode cX9_isChase 17 = .ok (.if_icmp .gt 7, 3) := by decide +kernel
theorem dX9_isChase_20 : decode cX9_isChase 20 = .ok (.iconst 1, 1) := by decide +kernel
theorem dX9_isChase_21 : decode cX9_isChase 21 = .ok (.goto 4, 3) := by decide +kernel
theorem dX9_isChase_24 : decode cX9_isChase 24 = .ok (.iconst 0, 1) := by decide +kernel
theorem dX9_isChase_25 : decode cX9_isChase 25 = .ok (.ireturn, 1) := by decide +kernel
def f_X9_isChase (σ : St) (v0 : Int32) (v1 : Int32) : Option Int32 :=
  (if v0 < (1 : Int32) then
    some (0 : Int32)
     else
    (if (3 : Int32) < v0 then
      some (0 : Int32)
       else
      (if v1 < (1 : Int32) then
        some (0 : Int32)
         else
        (if (3 : Int32) < v1 then
          some (0 : Int32)
           else
          some (1 : Int32)))))
set_option maxHeartbeats 4000000 in
set_option maxRecDepth 100000 in
theorem c_X9_isChase (l : Launch) (E : Ev) (hF : Full E) (σ : St) (v0 : Int32) (v1 : Int32) : Ctr l enI (fun _ => σ) E md_X9_isChase [.int v0, .int v1] σ (f_X9_isChase σ v0 v1) := by
  refine ctr_of rfl (Nat.le_of_ble_eq_true rfl) (fun Γ => ?_)
  show Sim _ Γ _ E md_X9_isChase σ 0 [(0, .int v0), (1, .int v1)] [] _
  unfold f_X9_isChase
  refine s_iload_n dX9_isChase_0 0 rfl rfl ?_
  refine s_iconst (v := 1) dX9_isChase_1 (by decide) ?_
  refine s_icmp_lt 24 dX9_isChase_2 (by decide) ?_ ?_
  · skip
    refine s_iconst (v := 0) dX9_isChase_24 (by decide) ?_
    exact s_zreturn rfl (by decide) rfl rfl dX9_isChase_25
  · skip
    refine s_iload_n dX9_isChase_5 0 rfl rfl ?_
    refine s_iconst (v := 3) dX9_isChase_6 (by decide) ?_
    refine s_icmp_gt 24 dX9_isChase_7 (by decide) ?_ ?_
    · skip
      refine s_iconst (v := 0) dX9_isChase_24 (by decide) ?_
      exact s_zreturn rfl (by decide) rfl rfl dX9_isChase_25
    · skip
      refine s_iload_n dX9_isChase_10 1 rfl rfl ?_
      refine s_iconst (v := 1) dX9_isChase_11 (by decide) ?_
      refine s_icmp_lt 24 dX9_isChase_12 (by decide) ?_ ?_
      · skip
        refine s_iconst (v := 0) dX9_isChase_24 (by decide) ?_
        exact s_zreturn rfl (by decide) rfl rfl dX9_isChase_25
      · skip
        refine s_iload_n dX9_isChase_15 1 rfl rfl ?_
        refine s_iconst (v := 3) dX9_isChase_16 (by decide) ?_
        refine s_icmp_gt 24 dX9_isChase_17 (by decide) ?_ ?_
        · skip
          refine s_iconst (v := 0) dX9_isChase_24 (by decide) ?_
          exact s_zreturn rfl (by decide) rfl rfl dX9_isChase_25
        · skip
          refine s_iconst (v := 1) dX9_isChase_20 (by decide) ?_
          refine s_goto 25 dX9_isChase_21 (by decide) ?_
          exact s_zreturn rfl (by decide) rfl rfl dX9_isChase_25
theorem dX9_settings_0 : decode cX9_settings 0 = .ok (.aload_n 0, 1) := by decide +kernel
theorem dX9_settings_1 : decode cX9_settings 1 = .ok (.getfield 27, 3) := by decide +kernel
theorem dX9_settings_4 : decode cX9_settings 4 = .ok (.iconst 0, 1) := by decide +kernel
theorem dX9_settings_5 : decode cX9_settings 5 = .ok (.iload_n 1, 1) := by decide +kernel
theorem dX9_settings_6 : decode cX9_settings 6 = .ok (.iconst 1, 1) := by decide +kernel
theorem dX9_settings_7 : decode cX9_settings 7 = .ok (.isub, 1) := by decide +kernel
theorem dX9_settings_8 : decode cX9_settings 8 = .ok (.iconst 2, 1) := by decide +kernel
theorem dX9_settings_9 : decode cX9_settings 9 = .ok (.invokestatic 257, 3) := by decide +kernel
theorem dX9_settings_12 : decode cX9_settings 12 = .ok (.invokestatic 262, 3) := by decide +kernel
theorem dX9_settings_15 : decode cX9_settings 15 = .ok (.aaload, 1) := by decide +kernel
theorem dX9_settings_16 : decode cX9_settings 16 = .ok (.areturn, 1) := by decide +kernel
def f_X9_settings (σ : St) (v1 : Int32) : Option Nat :=
  ck (if (0 : Int32) < (if (2 : Int32) < (v1 - (1 : Int32)) then (2 : Int32) else (v1 - (1 : Int32))) then (if (2 : Int32) < (v1 - (1 : Int32)) then (2 : Int32) else (v1 - (1 : Int32))) else (0 : Int32)) 3 <|
    bd (if (0 : Int32) < (if (2 : Int32) < (v1 - (1 : Int32)) then (2 : Int32) else (v1 - (1 : Int32))) then (if (2 : Int32) < (v1 - (1 : Int32)) then (2 : Int32) else (v1 - (1 : Int32))) else (0 : Int32)).toNatClampNeg fun j1 =>
      some j1
set_option maxHeartbeats 4000000 in
set_option maxRecDepth 100000 in
theorem c_X9_settings (l : Launch) (E : Ev) (hF : Full E) (σ : St) (v1 : Int32) : Ctr l (enS E) (fun _ => σ) E md_X9_settings [rV E 0, .int v1] σ (f_X9_settings σ v1) := by
  refine ctr_of rfl (Nat.le_of_ble_eq_true rfl) (fun Γ => ?_)
  show Sim _ Γ _ E md_X9_settings σ 0 [(0, rV E 0), (1, .int v1)] [] _
  unfold f_X9_settings
  refine s_aload_n dX9_settings_0 0 rfl rfl ?_
  refine s_getr (b := 11) gf_X9_27 rfl (m0 hF) k0 (ft_of k0 rfl) (hF.2 _ _) rfl dX9_settings_1 ?_
  refine s_iconst (v := 0) dX9_settings_4 (by decide) ?_
  refine s_iload_n dX9_settings_5 1 rfl rfl ?_
  refine s_iconst (v := 1) dX9_settings_6 (by decide) ?_
  refine s_isub dX9_settings_7 ?_
  refine s_iconst (v := 2) dX9_settings_8 (by decide) ?_
  refine s_mmin ml_X9_257 rfl dX9_settings_9 ?_
  refine s_mmax ml_X9_262 rfl dX9_settings_12 ?_
  refine s_aald (m11 hF) k11 (by decide) 5 rfl l11 (fun _ _ => (hF.2 _ _)) dX9_settings_15 (fun j1 hj1 => ?_)
  rw [rA16 hj1]
  exact s_areturn rfl rfl rfl dX9_settings_16
theorem dX9_refuseStand_0 : decode cX9_refuseStand 0 = .ok (.iload_n 1, 1) := by decide +kernel
theorem dX9_refuseStand_1 : decode cX9_refuseStand 1 = .ok (.iload_n 3, 1) := by decide +kernel
theorem dX9_refuseStand_2 : decode cX9_refuseStand 2 = .ok (.invokestatic 150, 3) := by decide +kernel
theorem dX9_refuseStand_5 : decode cX9_refuseStand 5 = .ok (.ifCond .ne 6, 3) := by decide +kernel
theorem dX9_refuseStand_8 : decode cX9_refuseStand 8 = .ok (.bipush (-3), 2) := by decide +kernel
theorem dX9_refuseStand_10 : decode cX9_refuseStand 10 = .ok (.ireturn, 1) := by decide +kernel
theorem dX9_refuseStand_11 : decode cX9_refuseStand 11 = .ok (.aload_n 0, 1) := by decide +kernel
theorem dX9_refuseStand_12 : decode cX9_refuseStand 12 = .ok (.iload_n 1, 1) := by decide +kernel
theorem dX9_refuseStand_13 : decode cX9_refuseStand 13 = .ok (.invokevirtual 141, 3) := by decide +kernel
theorem dX9_refuseStand_16 : decode cX9_refuseStand 16 = .ok (.iload_n 2, 1) := by decide +kernel
theorem dX9_refuseStand_17 : decode cX9_refuseStand 17 = .ok (.invokevirtual 144, 3) := by decide +kernel
theorem dX9_refuseStand_20 : decode cX9_refuseStand 20 = .ok (.iconst (-1), 1) := by decide +kernel
theorem dX9_refuseStand_21 : decode cX9_refuseStand 21 = .ok (.if_icmp .eq 15, 3) := by decide +kernel
theorem dX9_refuseStand_24 : decode cX9_refuseStand 24 = .ok (.aload_n 0, 1) := by decide +kernel
theorem dX9_refuseStand_25 : decode cX9_refuseStand 25 = .ok (.getfield 14, 3) := by decide +kernel
theorem dX9_refuseStand_28 : decode cX9_refuseStand 28 = .ok (.iload 4, 2) := by decide +kernel
theorem dX9_refuseStand_30 : decode cX9_refuseStand 30 = .ok (.invokevirtual 111, 3) := by decide +kernel
theorem dX9_refuseStand_33 : decode cX9_refuseStand 33 = .ok (.ifCond .ne 8, 3) := by decide +kernel
theorem dX9_refuseStand_36 : decode cX9_refuseStand 36 = .ok (.bipush (-2), 2) := by decide +kernel
theorem dX9_refuseStand_38 : decode cX9_refuseStand 38 = .ok (.goto 4, 3) := by decide +kernel
theorem dX9_refuseStand_41 : decode cX9_refuseStand 41 = .ok (.iconst 0, 1) := by decide +kernel
theorem dX9_refuseStand_42 : decode cX9_refuseStand 42 = .ok (.ireturn, 1) := by decide +kernel
def f_X9_refuseStand (σ : St) (v1 : Int32) (v2 : Int32) (v3 : Int32) (v4 : Int32) : Option Int32 :=
  calP (f_X9_isChase σ v1 v3) fun r1 =>
    (if r1 = 0 then
      some (-3 : Int32)
       else
      calP (f_X9_settings σ v1) fun r2 =>
        ckN r2 3 <|
          calP (f_X6_told σ r2 v2) fun r3 =>
            (if r3 = (-1 : Int32) then
              some (-2 : Int32)
               else
              calP (f_X3_known σ v4) fun r4 =>
                (if r4 = 0 then
                  some (-2 : Int32)
                   else
                  some (0 : Int32))))
set_option maxHeartbeats 4000000 in
set_option maxRecDepth 100000 in
theorem c_X9_refuseStand (l : Launch) (E : Ev) (hF : Full E) (σ : St) (v1 : Int32) (v2 : Int32) (v3 : Int32) (v4 : Int32) : Ctr l enI (fun _ => σ) E md_X9_refuseStand [rV E 0, .int v1, .int v2, .int v3, .int v4] σ (f_X9_refuseStand σ v1 v2 v3 v4) := by
  refine ctr_of rfl (Nat.le_of_ble_eq_true rfl) (fun Γ => ?_)
  show Sim _ Γ _ E md_X9_refuseStand σ 0 [(0, rV E 0), (1, .int v1), (2, .int v2), (3, .int v3), (4, .int v4)] [] _
  unfold f_X9_refuseStand
  refine s_iload_n dX9_refuseStand_0 1 rfl rfl ?_
  refine s_iload_n dX9_refuseStand_1 3 rfl rfl ?_
  refine s_callSpI (As := [.int v1, .int v3]) mf_X9_isChase vf_X9_isChase ml_X9_150 (c_X9_isChase _ E hF σ v1 v3) rfl rfl (Nat.le_of_ble_eq_true rfl) rfl dX9_refuseStand_2 (fun r1 => ?_)
  refine s_if_ne 11 dX9_refuseStand_5 (by decide) ?_ ?_
  · skip
    refine s_bipush (v := -3) dX9_refuseStand_8 (by decide) ?_
    exact s_ireturn rfl rfl rfl dX9_refuseStand_10
  · skip
    refine s_aload_n dX9_refuseStand_11 0 rfl rfl ?_
    refine s_iload_n dX9_refuseStand_12 1 rfl rfl ?_
    refine s_callVpM (As := [.int v1]) mf_X9_settings vf_X9_settings ml_X9_141 (c_X9_settings _ E hF σ v1) (m0 hF) k0 (by decide) rfl rfl rfl rfl (Nat.le_of_ble_eq_true rfl) rfl dX9_refuseStand_13 (fun r2 => ?_)
    refine s_ckN (fun hr2 => ?_)
    refine s_iload_n dX9_refuseStand_16 2 rfl rfl ?_
    refine s_callVpI (As := [.int v2]) mf_X6_told vf_X6_told ml_X9_144 (c_X6_told _ E hF σ r2 hr2 v2) (mS hF hr2) (kS hr2) (by decide) rfl rfl rfl rfl (Nat.le_of_ble_eq_true rfl) rfl dX9_refuseStand_17 (fun r3 => ?_)
    refine s_iconst (v := -1) dX9_refuseStand_20 (by decide) ?_
    refine s_icmp_eq 36 dX9_refuseStand_21 (by decide) ?_ ?_
    · skip
      refine s_bipush (v := -2) dX9_refuseStand_36 (by decide) ?_
      refine s_goto 42 dX9_refuseStand_38 (by decide) ?_
      exact s_ireturn rfl rfl rfl dX9_refuseStand_42
    · skip
      refine s_aload_n dX9_refuseStand_24 0 rfl rfl ?_
      refine s_getr (b := 1) gf_X9_14 rfl (m0 hF) k0 (ft_of k0 rfl) (hF.2 _ _) rfl dX9_refuseStand_25 ?_
      refine s_iload dX9_refuseStand_28 4 rfl ?_
      refine s_callVpI (As := [.int v4]) mf_X3_known vf_X3_known ml_X9_111 (c_X3_known _ E hF σ v4) (m1 hF) k1 (by decide) rfl rfl rfl rfl (Nat.le_of_ble_eq_true rfl) rfl dX9_refuseStand_30 (fun r4 => ?_)
      refine s_if_ne 41 dX9_refuseStand_33 (by decide) ?_ ?_
      · skip
        refine s_bipush (v := -2) dX9_refuseStand_36 (by decide) ?_
        refine s_goto 42 dX9_refuseStand_38 (by decide) ?_
        exact s_ireturn rfl rfl rfl dX9_refuseStand_42
      · skip
        refine s_iconst (v := 0) dX9_refuseStand_41 (by decide) ?_
        exact s_ireturn rfl rfl rfl dX9_refuseStand_42
theorem dX9_rounds_0 : decode cX9_rounds 0 = .ok (.aload_n 0, 1) := by decide +kernel
theorem dX9_rounds_1 : decode cX9_rounds 1 = .ok (.iload_n 1, 1) := by decide +kernel
theorem dX9_rounds_2 : decode cX9_rounds 2 = .ok (.iload_n 2, 1) := by decide +kernel
theorem dX9_rounds_3 : decode cX9_rounds 3 = .ok (.iload_n 3, 1) := by decide +kernel
theorem dX9_rounds_4 : decode cX9_rounds 4 = .ok (.iload 4, 2) := by decide +kernel
theorem dX9_rounds_6 : decode cX9_rounds 6 = .ok (.invokevirtual 133, 3) := by decide +kernel
theorem dX9_rounds_9 : decode cX9_rounds 9 = .ok (.istore 5, 2) := by decide +kernel
theorem dX9_rounds_11 : decode cX9_rounds 11 = .ok (.iload 5, 2) := by decide +kernel
theorem dX9_rounds_13 : decode cX9_rounds 13 = .ok (.ifCond .eq 6, 3) := by decide +kernel
theorem dX9_rounds_16 : decode cX9_rounds 16 = .ok (.iload 5, 2) := by decide +kernel
theorem dX9_rounds_18 : decode cX9_rounds 18 = .ok (.ireturn, 1) := by decide +kernel
theorem dX9_rounds_19 : decode cX9_rounds 19 = .ok (.aload_n 0, 1) := by decide +kernel
theorem dX9_rounds_20 : decode cX9_rounds 20 = .ok (.iload_n 1, 1) := by decide +kernel
theorem dX9_rounds_21 : decode cX9_rounds 21 = .ok (.iload_n 3, 1) := by decide +kernel
theorem dX9_rounds_22 : decode cX9_rounds 22 = .ok (.invokevirtual 137, 3) := by decide +kernel
theorem dX9_rounds_25 : decode cX9_rounds 25 = .ok (.aload_n 0, 1) := by decide +kernel
theorem dX9_rounds_26 : decode cX9_rounds 26 = .ok (.iload_n 1, 1) := by decide +kernel
theorem dX9_rounds_27 : decode cX9_rounds 27 = .ok (.invokevirtual 141, 3) := by decide +kernel
theorem dX9_rounds_30 : decode cX9_rounds 30 = .ok (.iload_n 2, 1) := by decide +kernel
theorem dX9_rounds_31 : decode cX9_rounds 31 = .ok (.invokevirtual 144, 3) := by decide +kernel
theorem dX9_rounds_34 : decode cX9_rounds 34 = .ok (.iload 4, 2) := by decide +kernel
theorem dX9_rounds_36 : decode cX9_rounds 36 = .ok (.invokevirtual 147, 3) := by decide +kernel
theorem dX9_rounds_39 : decode cX9_rounds 39 = .ok (.ireturn, 1) := by decide +kernel
def f_X9_rounds (σ : St) (v1 : Int32) (v2 : Int32) (v3 : Int32) (v4 : Int32) : Option (Int32 × St) :=
  calP (f_X9_refuseStand σ v1 v2 v3 v4) fun r1 =>
    (if r1 = 0 then
      cal (f_X9_chase σ v1 v3) fun r2 s3 =>
        ckN r2 9 <|
          calP (f_X9_settings s3 v1) fun r4 =>
            ckN r4 3 <|
              calP (f_X6_told s3 r4 v2) fun r5 =>
                calP (f_X0_roundsFrom s3 r2 r5 v4) fun r6 =>
                  some (r6, s3)
       else
      some (r1, σ))
set_option maxHeartbeats 4000000 in
set_option maxRecDepth 100000 in
theorem c_X9_rounds (l : Launch) (E : Ev) (hF : Full E) (σ : St) (v1 : Int32) (v2 : Int32) (v3 : Int32) (v4 : Int32) : Ctr l (en2 enI) (fun q => q.2) E md_X9_rounds [rV E 0, .int v1, .int v2, .int v3, .int v4] σ (f_X9_rounds σ v1 v2 v3 v4) := by
  refine ctr_of rfl (Nat.le_of_ble_eq_true rfl) (fun Γ => ?_)
  show Sim _ Γ _ E md_X9_rounds σ 0 [(0, rV E 0), (1, .int v1), (2, .int v2), (3, .int v3), (4, .int v4)] [] _
  unfold f_X9_rounds
  refine s_aload_n dX9_rounds_0 0 rfl rfl ?_
  refine s_iload_n dX9_rounds_1 1 rfl rfl ?_
  refine s_iload_n dX9_rounds_2 2 rfl rfl ?_
  refine s_iload_n dX9_rounds_3 3 rfl rfl ?_
  refine s_iload dX9_rounds_4 4 rfl ?_
  refine s_callVpI (As := [.int v1, .int v2, .int v3, .int v4]) mf_X9_refuseStand vf_X9_refuseStand ml_X9_133 (c_X9_refuseStand _ E hF σ v1 v2 v3 v4) (m0 hF) k0 (by decide) rfl rfl rfl rfl (Nat.le_of_ble_eq_true rfl) rfl dX9_rounds_6 (fun r1 => ?_)
  refine s_istore [(5, .int r1), (0, rV E 0), (1, .int v1), (2, .int v2), (3, .int v3), (4, .int v4)] dX9_rounds_9 (by decide) rfl ?_
  refine s_iload dX9_rounds_11 0 rfl ?_
  refine s_if_eq 19 dX9_rounds_13 (by decide) ?_ ?_
  · skip
    refine s_aload_n dX9_rounds_19 1 rfl rfl ?_
    refine s_iload_n dX9_rounds_20 2 rfl rfl ?_
    refine s_iload_n dX9_rounds_21 4 rfl rfl ?_
    refine s_callVwC (As := [.int v1, .int v3]) mf_X9_chase vf_X9_chase ml_X9_137 (c_X9_chase _ E hF σ v1 v3) (m0 hF) k0 (by decide) rfl rfl rfl rfl (Nat.le_of_ble_eq_true rfl) rfl dX9_rounds_22 (fun r2 s3 => ?_)
    refine s_ckN (fun hr2 => ?_)
    refine s_aload_n dX9_rounds_25 1 rfl rfl ?_
    refine s_iload_n dX9_rounds_26 2 rfl rfl ?_
    refine s_callVpM (As := [.int v1]) mf_X9_settings vf_X9_settings ml_X9_141 (c_X9_settings _ E hF s3 v1) (m0 hF) k0 (by decide) rfl rfl rfl rfl (Nat.le_of_ble_eq_true rfl) rfl dX9_rounds_27 (fun r4 => ?_)
    refine s_ckN (fun hr4 => ?_)
    refine s_iload_n dX9_rounds_30 3 rfl rfl ?_
    refine s_callVpI (As := [.int v2]) mf_X6_told vf_X6_told ml_X9_144 (c_X6_told _ E hF s3 r4 hr4 v2) (mS hF hr4) (kS hr4) (by decide) rfl rfl rfl rfl (Nat.le_of_ble_eq_true rfl) rfl dX9_rounds_31 (fun r5 => ?_)
    refine s_iload dX9_rounds_34 5 rfl ?_
    refine s_callVpI (As := [.int r5, .int v4]) mf_X0_roundsFrom vf_X0_roundsFrom ml_X9_147 (c_X0_roundsFrom _ E hF s3 r2 hr2 r5 v4) (mC hF hr2) (kC hr2) (by decide) rfl rfl rfl rfl (Nat.le_of_ble_eq_true rfl) rfl dX9_rounds_36 (fun r6 => ?_)
    exact s_ireturn rfl rfl rfl dX9_rounds_39
  · skip
    refine s_iload dX9_rounds_16 0 rfl ?_
    exact s_ireturn rfl rfl rfl dX9_rounds_18
theorem dX9_worth_0 : decode cX9_worth 0 = .ok (.iload_n 1, 1) := by decide +kernel
theorem dX9_worth_1 : decode cX9_worth 1 = .ok (.iload_n 3, 1) := by decide +kernel
theorem dX9_worth_2 : decode cX9_worth 2 = .ok (.invokestatic 150, 3) := by decide +kernel
theorem dX9_worth_5 : decode cX9_worth 5 = .ok (.ifCond .ne 6, 3) := by decide +kernel
theorem dX9_worth_8 : decode cX9_worth 8 = .ok (.bipush (-3), 2) := by decide +kernel
theorem dX9_worth_10 : decode cX9_worth 10 = .ok (.ireturn, 1) := by decide +kernel
theorem dX9_worth_11 : decode cX9_worth 11 = .ok (.aload_n 0, 1) := by decide +kernel
theorem dX9_worth_12 : decode cX9_worth 12 = .ok (.iload_n 1, 1) := by decide +kernel
theorem dX9_worth_13 : decode cX9_worth 13 = .ok (.invokevirtual 141, 3) := by decide +kernel
theorem dX9_worth_16 : decode cX9_worth 16 = .ok (.iload_n 2, 1) := by decide +kernel
theorem dX9_worth_17 : decode cX9_worth 17 = .ok (.invokevirtual 144, 3) := by decide +kernel
theorem dX9_worth_20 : decode cX9_worth 20 = .ok (.istore 4, 2) := by decide +kernel
theorem dX9_worth_22 : decode cX9_worth 22 = .ok (.iload 4, 2) := by decide +kernel
theorem dX9_worth_24 : decode cX9_worth 24 = .ok (.iconst (-1), 1) := by decide +kernel
theorem dX9_worth_25 : decode cX9_worth 25 = .ok (.if_icmp .ne 8, 3) := by decide +kernel
theorem dX9_worth_28 : decode cX9_worth 28 = .ok (.bipush (-2), 2) := by decide +kernel
theorem dX9_worth_30 : decode cX9_worth 30 = .ok (.goto 14, 3) := by decide +kernel
theorem dX9_worth_33 : decode cX9_worth 33 = .ok (.aload_n 0, 1) := by decide +kernel
theorem dX9_worth_34 : decode cX9_worth 34 = .ok (.iload_n 1, 1) := by decide +kernel
theorem dX9_worth_35 : decode cX9_worth 35 = .ok (.iload_n 3, 1) := by decide +kernel
theorem dX9_worth_36 : decode cX9_worth 36 = .ok (.invokevirtual 137, 3) := by decide +kernel
theorem dX9_worth_39 : decode cX9_worth 39 = .ok (.iload 4, 2) := by decide +kernel
theorem dX9_worth_41 : decode cX9_worth 41 = .ok (.invokevirtual 153, 3) := by decide +kernel
theorem dX9_worth_44 : decode cX9_worth 44 = .ok (.ireturn, 1) := by decide +kernel
def f_X9_worth (σ : St) (v1 : Int32) (v2 : Int32) (v3 : Int32) : Option (Int32 × St) :=
  calP (f_X9_isChase σ v1 v3) fun r1 =>
    (if r1 = 0 then
      some ((-3 : Int32), σ)
       else
      calP (f_X9_settings σ v1) fun r2 =>
        ckN r2 3 <|
          calP (f_X6_told σ r2 v2) fun r3 =>
            (if r3 = (-1 : Int32) then
              some ((-2 : Int32), σ)
               else
              cal (f_X9_chase σ v1 v3) fun r4 s5 =>
                ckN r4 9 <|
                  calP (f_X0_mostFrom s5 r4 r3) fun r6 =>
                    some (r6, s5)))
set_option maxHeartbeats 4000000 in
set_option maxRecDepth 100000 in
theorem c_X9_worth (l : Launch) (E : Ev) (hF : Full E) (σ : St) (v1 : Int32) (v2 : Int32) (v3 : Int32) : Ctr l (en2 enI) (fun q => q.2) E md_X9_worth [rV E 0, .int v1, .int v2, .int v3] σ (f_X9_worth σ v1 v2 v3) := by
  refine ctr_of rfl (Nat.le_of_ble_eq_true rfl) (fun Γ => ?_)
  show Sim _ Γ _ E md_X9_worth σ 0 [(0, rV E 0), (1, .int v1), (2, .int v2), (3, .int v3)] [] _
  unfold f_X9_worth
  refine s_iload_n dX9_worth_0 1 rfl rfl ?_
  refine s_iload_n dX9_worth_1 3 rfl rfl ?_
  refine s_callSpI (As := [.int v1, .int v3]) mf_X9_isChase vf_X9_isChase ml_X9_150 (c_X9_isChase _ E hF σ v1 v3) rfl rfl (Nat.le_of_ble_eq_true rfl) rfl dX9_worth_2 (fun r1 => ?_)
  refine s_if_ne 11 dX9_worth_5 (by decide) ?_ ?_
  · skip
    refine s_bipush (v := -3) dX9_worth_8 (by decide) ?_
    exact s_ireturn rfl rfl rfl dX9_worth_10
  · skip
    refine s_aload_n dX9_worth_11 0 rfl rfl ?_
    refine s_iload_n dX9_worth_12 1 rfl rfl ?_
    refine s_callVpM (As := [.int v1]) mf_X9_settings vf_X9_settings ml_X9_141 (c_X9_settings _ E hF σ v1) (m0 hF) k0 (by decide) rfl rfl rfl rfl (Nat.le_of_ble_eq_true rfl) rfl dX9_worth_13 (fun r2 => ?_)
    refine s_ckN (fun hr2 => ?_)
    refine s_iload_n dX9_worth_16 2 rfl rfl ?_
    refine s_callVpI (As := [.int v2]) mf_X6_told vf_X6_told ml_X9_144 (c_X6_told _ E hF σ r2 hr2 v2) (mS hF hr2) (kS hr2) (by decide) rfl rfl rfl rfl (Nat.le_of_ble_eq_true rfl) rfl dX9_worth_17 (fun r3 => ?_)
    refine s_istore [(4, .int r3), (0, rV E 0), (1, .int v1), (2, .int v2), (3, .int v3)] dX9_worth_20 (by decide) rfl ?_
    refine s_iload dX9_worth_22 0 rfl ?_
    refine s_iconst (v := -1) dX9_worth_24 (by decide) ?_
    refine s_icmp_ne 33 dX9_worth_25 (by decide) ?_ ?_
    · skip
      refine s_bipush (v := -2) dX9_worth_28 (by decide) ?_
      refine s_goto 44 dX9_worth_30 (by decide) ?_
      exact s_ireturn rfl rfl rfl dX9_worth_44
    · skip
      refine s_aload_n dX9_worth_33 1 rfl rfl ?_
      refine s_iload_n dX9_worth_34 2 rfl rfl ?_
      refine s_iload_n dX9_worth_35 4 rfl rfl ?_
      refine s_callVwC (As := [.int v1, .int v3]) mf_X9_chase vf_X9_chase ml_X9_137 (c_X9_chase _ E hF σ v1 v3) (m0 hF) k0 (by decide) rfl rfl rfl rfl (Nat.le_of_ble_eq_true rfl) rfl dX9_worth_36 (fun r4 s5 => ?_)
      refine s_ckN (fun hr4 => ?_)
      refine s_iload dX9_worth_39 0 rfl ?_
      refine s_callVpI (As := [.int r3]) mf_X0_mostFrom vf_X0_mostFrom ml_X9_153 (c_X0_mostFrom _ E hF s5 r4 hr4 r3) (mC hF hr4) (kC hr4) (by decide) rfl rfl rfl rfl (Nat.le_of_ble_eq_true rfl) rfl dX9_worth_41 (fun r6 => ?_)
      exact s_ireturn rfl rfl rfl dX9_worth_44
theorem dX9_best_0 : decode cX9_best 0 = .ok (.iload_n 1, 1) := by decide +kernel
theorem dX9_best_1 : decode cX9_best 1 = .ok (.iload_n 2, 1) := by decide +kernel
theorem dX9_best_2 : decode cX9_best 2 = .ok (.invokestatic 150, 3) := by decide +kernel
theorem dX9_best_5 : decode cX9_best 5 = .ok (.ifCond .eq 12, 3) := by decide +kernel
theorem dX9_best_8 : decode cX9_best 8 = .ok (.iload_n 3, 1) := by decide +kernel
theorem dX9_best_9 : decode cX9_best 9 = .ok (.ifCond .lt 8, 3) := by decide +kernel
theorem dX9_best_12 : decode cX9_best 12 = .ok (.iload_n 3, 1) := by decide +kernel
theorem dX9_best_13 : decode cX9_best 13 = .ok (.iconst 1, 1) := by decide +kernel
theorem dX9_best_14 : decode cX9_best 14 = .ok (.if_icmp .le 6, 3) := by decide +kernel
theorem dX9_best_17 : decode cX9_best 17 = .ok (.bipush (-3), 2) := by decide +kernel
theorem dX9_best_19 : decode cX9_best 19 = .ok (.ireturn, 1) := by decide +kernel
theorem dX9_best_20 : decode cX9_best 20 = .ok (.aload_n 0, 1) := by decide +kernel
theorem dX9_best_21 : decode cX9_best 21 = .ok (.iload_n 1, 1) := by decide +kernel
theorem dX9_best_22 : decode cX9_best 22 = .ok (.iload_n 2, 1) := by decide +kernel
theorem dX9_best_23 : decode cX9_best 23 = .ok (.invokevirtual 137, 3) := by decide +kernel
theorem dX9_best_26 : decode cX9_best 26 = .ok (.astore 4, 2) := by decide +kernel
theorem dX9_best_28 : decode cX9_best 28 = .ok (.aload 4, 2) := by decide +kernel
theorem dX9_best_30 : decode cX9_best 30 = .ok (.invokevirtual 156, 3) := by decide +kernel
theorem dX9_best_33 : decode cX9_best 33 = .ok (.istore 5, 2) := by decide +kernel
theorem dX9_best_35 : decode cX9_best 35 = .ok (.iload_n 3, 1) := by decide +kernel
theorem dX9_best_36 : decode cX9_best 36 = .ok (.ifCond .eq 9, 3) := by decide +kernel
theorem dX9_best_39 : decode cX9_best 39 = .ok (.iload 5, 2) := by decide +kernel
theorem dX9_best_41 : decode cX9_best 41 = .ok (.iconst (-1), 1) := by decide +kernel
theorem dX9_best_42 : decode cX9_best 42 = .ok (.if_icmp .ne 8, 3) := by decide +kernel
theorem dX9_best_45 : decode cX9_best 45 = .ok (.iload 5, 2) := by decide +kernel
theorem dX9_best_47 : decode cX9_best 47 = .ok (.goto 10, 3) := by decide +kernel
theorem dX9_best_50 : decode cX9_best 50 = .ok (.aload 4, 2) := by decide +kernel
theorem dX9_best_52 : decode cX9_best 52 = .ok (.iload 5, 2) := by decide +kernel
theorem dX9_best_54 : decode cX9_best 54 = .ok (.invokevirtual 153, 3) := by decide +kernel
theorem dX9_best_57 : decode cX9_best 57 = .ok (.ireturn, 1) := by decide +kernel
def f_X9_best (σ : St) (v1 : Int32) (v2 : Int32) (v3 : Int32) : Option (Int32 × St) :=
  calP (f_X9_isChase σ v1 v2) fun r1 =>
    (if r1 = 0 then
      some ((-3 : Int32), σ)
       else
      (if v3 < 0 then
        some ((-3 : Int32), σ)
         else
        (if (1 : Int32) < v3 then
          some ((-3 : Int32), σ)
           else
          cal (f_X9_chase σ v1 v2) fun r2 s3 =>
            ckN r2 9 <|
              calP (f_X0_bestSetting s3 r2) fun r4 =>
                (if v3 = 0 then
                  some (r4, s3)
                   else
                  (if r4 = (-1 : Int32) then
                    some (r4, s3)
                     else
                    calP (f_X0_mostFrom s3 r2 r4) fun r5 =>
                      some (r5, s3))))))
set_option maxHeartbeats 4000000 in
set_option maxRecDepth 100000 in
theorem c_X9_best (l : Launch) (E : Ev) (hF : Full E) (σ : St) (v1 : Int32) (v2 : Int32) (v3 : Int32) : Ctr l (en2 enI) (fun q => q.2) E md_X9_best [rV E 0, .int v1, .int v2, .int v3] σ (f_X9_best σ v1 v2 v3) := by
  refine ctr_of rfl (Nat.le_of_ble_eq_true rfl) (fun Γ => ?_)
  show Sim _ Γ _ E md_X9_best σ 0 [(0, rV E 0), (1, .int v1), (2, .int v2), (3, .int v3)] [] _
  unfold f_X9_best
  refine s_iload_n dX9_best_0 1 rfl rfl ?_
  refine s_iload_n dX9_best_1 2 rfl rfl ?_
  refine s_callSpI (As := [.int v1, .int v2]) mf_X9_isChase vf_X9_isChase ml_X9_150 (c_X9_isChase _ E hF σ v1 v2) rfl rfl (Nat.le_of_ble_eq_true rfl) rfl dX9_best_2 (fun r1 => ?_)
  refine s_if_eq 17 dX9_best_5 (by decide) ?_ ?_
  · skip
    refine s_bipush (v := -3) dX9_best_17 (by decide) ?_
    exact s_ireturn rfl rfl rfl dX9_best_19
  · skip
    refine s_iload_n dX9_best_8 3 rfl rfl ?_
    refine s_if_lt 17 dX9_best_9 (by decide) ?_ ?_
    · skip
      refine s_bipush (v := -3) dX9_best_17 (by decide) ?_
      exact s_ireturn rfl rfl rfl dX9_best_19
    · skip
      refine s_iload_n dX9_best_12 3 rfl rfl ?_
      refine s_iconst (v := 1) dX9_best_13 (by decide) ?_
      refine s_icmp_le 20 dX9_best_14 (by decide) ?_ ?_
      · skip
        refine s_bipush (v := -3) dX9_best_17 (by decide) ?_
        exact s_ireturn rfl rfl rfl dX9_best_19
      · skip
        refine s_aload_n dX9_best_20 0 rfl rfl ?_
        refine s_iload_n dX9_best_21 1 rfl rfl ?_
        refine s_iload_n dX9_best_22 2 rfl rfl ?_
        refine s_callVwC (As := [.int v1, .int v2]) mf_X9_chase vf_X9_chase ml_X9_137 (c_X9_chase _ E hF σ v1 v2) (m0 hF) k0 (by decide) rfl rfl rfl rfl (Nat.le_of_ble_eq_true rfl) rfl dX9_best_23 (fun r2 s3 => ?_)
        refine s_ckN (fun hr2 => ?_)
        refine s_astore [(4, rV E (40 + 5 * r2)), (0, rV E 0), (1, .int v1), (2, .int v2), (3, .int v3)] dX9_best_26 (by decide) rfl ?_
        refine s_aload dX9_best_28 0 rfl ?_
        refine s_callVpI (As := []) mf_X0_bestSetting vf_X0_bestSetting ml_X9_156 (c_X0_bestSetting _ E hF s3 r2 hr2) (mC hF hr2) (kC hr2) (by decide) rfl rfl rfl rfl (Nat.le_of_ble_eq_true rfl) rfl dX9_best_30 (fun r4 => ?_)
        refine s_istore [(5, .int r4), (4, rV E (40 + 5 * r2)), (0, rV E 0), (1, .int v1), (2, .int v2), (3, .int v3)] dX9_best_33 (by decide) rfl ?_
        refine s_iload_n dX9_best_35 5 rfl rfl ?_
        refine s_if_eq 45 dX9_best_36 (by decide) ?_ ?_
        · skip
          refine s_iload dX9_best_45 0 rfl ?_
          refine s_goto 57 dX9_best_47 (by decide) ?_
          exact s_ireturn rfl rfl rfl dX9_best_57
        · skip
          refine s_iload dX9_best_39 0 rfl ?_
          refine s_iconst (v := -1) dX9_best_41 (by decide) ?_
          refine s_icmp_ne 50 dX9_best_42 (by decide) ?_ ?_
          · skip
            refine s_iload dX9_best_45 0 rfl ?_
            refine s_goto 57 dX9_best_47 (by decide) ?_
            exact s_ireturn rfl rfl rfl dX9_best_57
          · skip
            refine s_aload dX9_best_50 1 rfl ?_
            refine s_iload dX9_best_52 0 rfl ?_
            refine s_callVpI (As := [.int r4]) mf_X0_mostFrom vf_X0_mostFrom ml_X9_153 (c_X0_mostFrom _ E hF s3 r2 hr2 r4) (mC hF hr2) (kC hr2) (by decide) rfl rfl rfl rfl (Nat.le_of_ble_eq_true rfl) rfl dX9_best_54 (fun r5 => ?_)
            exact s_ireturn rfl rfl rfl dX9_best_57
theorem dX9_fewest_0 : decode cX9_fewest 0 = .ok (.iload_n 1, 1) := by decide +kernel
theorem dX9_fewest_1 : decode cX9_fewest 1 = .ok (.iconst 1, 1) := by decide +kernel
theorem dX9_fewest_2 : decode cX9_fewest 2 = .ok (.if_icmp .lt 8, 3) := by decide +kernel
theorem dX9_fewest_5 : decode cX9_fewest 5 = .ok (.iload_n 1, 1) := by decide +kernel
theorem dX9_fewest_6 : decode cX9_fewest 6 = .ok (.iconst 3, 1) := by decide +kernel
theorem dX9_fewest_7 : decode cX9_fewest 7 = .ok (.if_icmp .le 6, 3) := by decide +kernel
theorem dX9_fewest_10 : decode cX9_fewest 10 = .ok (.bipush (-3), 2) := by decide +kernel
theorem dX9_fewest_12 : decode cX9_fewest 12 = .ok (.ireturn, 1) := by decide +kernel
theorem dX9_fewest_13 : decode cX9_fewest 13 = .ok (.iconst 1, 1) := by decide +kernel
theorem dX9_fewest_14 : decode cX9_fewest 14 = .ok (.istore_n 2, 1) := by decide +kernel
theorem dX9_fewest_15 : decode cX9_fewest 15 = .ok (.iload_n 2, 1) := by decide +kernel
theorem dX9_fewest_16 : decode cX9_fewest 16 = .ok (.iconst 3, 1) := by decide +kernel
theorem dX9_fewest_17 : decode cX9_fewest 17 = .ok (.if_icmp .gt 24, 3) := by decide +kernel
theorem dX9_fewest_20 : decode cX9_fewest 20 = .ok (.aload_n 0, 1) := by decide +kernel
theorem dX9_fewest_21 : decode cX9_fewest 21 = .ok (.iload_n 2, 1) := by decide +kernel
theorem dX9_fewest_22 : decode cX9_fewest 22 = .ok (.iload_n 1, 1) := by decide +kernel
theorem dX9_fewest_23 : decode cX9_fewest 23 = .ok (.invokevirtual 137, 3) := by decide +kernel
theorem dX9_fewest_26 : decode cX9_fewest 26 = .ok (.invokevirtual 156, 3) := by decide +kernel
theorem dX9_fewest_29 : decode cX9_fewest 29 = .ok (.iconst (-1), 1) := by decide +kernel
theorem dX9_fewest_30 : decode cX9_fewest 30 = .ok (.if_icmp .eq 5, 3) := by decide +kernel
theorem dX9_fewest_33 : decode cX9_fewest 33 = .ok (.iload_n 2, 1) := by decide +kernel
theorem dX9_fewest_34 : decode cX9_fewest 34 = .ok (.ireturn, 1) := by decide +kernel
theorem dX9_fewest_35 : decode cX9_fewest 35 = .ok (.iinc 2 1, 3) := by decide +kernel
theorem dX9_fewest_38 : decode cX9_fewest 38 = .ok (.goto (-23), 3) := by decide +kernel
theorem dX9_fewest_41 : decode cX9_fewest 41 = .ok (.iconst (-1), 1) := by decide +kernel
theorem dX9_fewest_42 : decode cX9_fewest 42 = .ok (.ireturn, 1) := by decide +kernel
def f_X9_fewest (σ : St) (v1 : Int32) : Option (Int32 × St) :=
  (if v1 < (1 : Int32) then
    some ((-3 : Int32), σ)
     else
    (if (3 : Int32) < v1 then
      some ((-3 : Int32), σ)
       else
      lo2 FU (fun rec3 (s1 : St) (x2 : Int32) =>
        (if (3 : Int32) < x2 then
          some ((-1 : Int32), s1)
           else
          cal (f_X9_chase s1 x2 v1) fun r5 s6 =>
            ckN r5 9 <|
              calP (f_X0_bestSetting s6 r5) fun r7 =>
                (if r7 = (-1 : Int32) then
                  rec3 s6 (x2 + 1)
                   else
                  some (x2, s6)))) σ (1 : Int32)))
set_option maxHeartbeats 4000000 in
set_option maxRecDepth 100000 in
theorem c_X9_fewest (l : Launch) (E : Ev) (hF : Full E) (σ : St) (v1 : Int32) : Ctr l (en2 enI) (fun q => q.2) E md_X9_fewest [rV E 0, .int v1] σ (f_X9_fewest σ v1) := by
  refine ctr_of rfl (Nat.le_of_ble_eq_true rfl) (fun Γ => ?_)
  show Sim _ Γ _ E md_X9_fewest σ 0 [(0, rV E 0), (1, .int v1)] [] _
  unfold f_X9_fewest
  refine s_iload_n dX9_fewest_0 1 rfl rfl ?_
  refine s_iconst (v := 1) dX9_fewest_1 (by decide) ?_
  refine s_icmp_lt 10 dX9_fewest_2 (by decide) ?_ ?_
  · skip
    refine s_bipush (v := -3) dX9_fewest_10 (by decide) ?_
    exact s_ireturn rfl rfl rfl dX9_fewest_12
  · skip
    refine s_iload_n dX9_fewest_5 1 rfl rfl ?_
    refine s_iconst (v := 3) dX9_fewest_6 (by decide) ?_
    refine s_icmp_le 13 dX9_fewest_7 (by decide) ?_ ?_
    · skip
      refine s_bipush (v := -3) dX9_fewest_10 (by decide) ?_
      exact s_ireturn rfl rfl rfl dX9_fewest_12
    · skip
      refine s_iconst (v := 1) dX9_fewest_13 (by decide) ?_
      refine s_istore_n [(2, .int (1 : Int32)), (0, rV E 0), (1, .int v1)] dX9_fewest_14 rfl (by decide) rfl ?_
      refine s_sub (lv' := [(0, rV E 0), (1, .int v1), (2, .int (1 : Int32))]) [1, 2, 0] rfl ?_
      refine s_lo2 (σf := fun s1 x2 => s1) (lvf := fun s1 x2 => [(0, rV E 0), (1, .int v1), (2, .int x2)]) (fun rec3 ih4 s1 x2 => ?_)
      refine s_iload_n dX9_fewest_15 2 rfl rfl ?_
      refine s_iconst (v := 3) dX9_fewest_16 (by decide) ?_
      refine s_icmp_gt 41 dX9_fewest_17 (by decide) ?_ ?_
      · skip
        refine s_iconst (v := -1) dX9_fewest_41 (by decide) ?_
        exact s_ireturn rfl rfl rfl dX9_fewest_42
      · skip
        refine s_aload_n dX9_fewest_20 0 rfl rfl ?_
        refine s_iload_n dX9_fewest_21 2 rfl rfl ?_
        refine s_iload_n dX9_fewest_22 1 rfl rfl ?_
        refine s_callVwC (As := [.int x2, .int v1]) mf_X9_chase vf_X9_chase ml_X9_137 (c_X9_chase _ E hF s1 x2 v1) (m0 hF) k0 (by decide) rfl rfl rfl rfl (Nat.le_of_ble_eq_true rfl) rfl dX9_fewest_23 (fun r5 s6 => ?_)
        refine s_ckN (fun hr5 => ?_)
        refine s_callVpI (As := []) mf_X0_bestSetting vf_X0_bestSetting ml_X9_156 (c_X0_bestSetting _ E hF s6 r5 hr5) (mC hF hr5) (kC hr5) (by decide) rfl rfl rfl rfl (Nat.le_of_ble_eq_true rfl) rfl dX9_fewest_26 (fun r7 => ?_)
        refine s_iconst (v := -1) dX9_fewest_29 (by decide) ?_
        refine s_icmp_eq 35 dX9_fewest_30 (by decide) ?_ ?_
        · skip
          refine s_iinc [(2, .int (x2 + 1)), (0, rV E 0), (1, .int v1)] dX9_fewest_35 2 rfl rfl (by decide) rfl ?_
          refine s_goto 15 dX9_fewest_38 (by decide) ?_
          refine s_sub [1, 2, 0] rfl ?_
          exact ih4 s6 (x2 + 1)
        · skip
          refine s_iload_n dX9_fewest_33 2 rfl rfl ?_
          exact s_ireturn rfl rfl rfl dX9_fewest_34
theorem dX9_escapes_0 : decode cX9_escapes 0 = .ok (.iload_n 1, 1) := by decide +kernel
theorem dX9_escapes_1 : decode cX9_escapes 1 = .ok (.iload_n 2, 1) := by decide +kernel
theorem dX9_escapes_2 : decode cX9_escapes 2 = .ok (.invokestatic 150, 3) := by decide +kernel
theorem dX9_escapes_5 : decode cX9_escapes 5 = .ok (.ifCond .eq 15, 3) := by decide +kernel
theorem dX9_escapes_8 : decode cX9_escapes 8 = .ok (.aload_n 0, 1) := by decide +kernel
theorem dX9_escapes_9 : decode cX9_escapes 9 = .ok (.iload_n 1, 1) := by decide +kernel
theorem dX9_escapes_10 : decode cX9_escapes 10 = .ok (.iload_n 2, 1) := by decide +kernel
theorem dX9_escapes_11 : decode cX9_escapes 11 = .ok (.invokevirtual 137, 3) := by decide +kernel
theorem dX9_escapes_14 : decode cX9_escapes 14 = .ok (.invokevirtual 159, 3) := by decide +kernel
theorem dX9_escapes_17 : decode cX9_escapes 17 = .ok (.goto 5, 3) := by decide +kernel
theorem dX9_escapes_20 : decode cX9_escapes 20 = .ok (.bipush (-3), 2) := by decide +kernel
theorem dX9_escapes_22 : decode cX9_escapes 22 = .ok (.ireturn, 1) := by decide +kernel
def f_X9_escapes (σ : St) (v1 : Int32) (v2 : Int32) : Option (Int32 × St) :=
  calP (f_X9_isChase σ v1 v2) fun r1 =>
    (if r1 = 0 then
      some ((-3 : Int32), σ)
       else
      cal (f_X9_chase σ v1 v2) fun r2 s3 =>
        ckN r2 9 <|
          calP (f_X0_countEndless s3 r2) fun r4 =>
            some (r4, s3))
set_option maxHeartbeats 4000000 in
set_option maxRecDepth 100000 in
theorem c_X9_escapes (l : Launch) (E : Ev) (hF : Full E) (σ : St) (v1 : Int32) (v2 : Int32) : Ctr l (en2 enI) (fun q => q.2) E md_X9_escapes [rV E 0, .int v1, .int v2] σ (f_X9_escapes σ v1 v2) := by
  refine ctr_of rfl (Nat.le_of_ble_eq_true rfl) (fun Γ => ?_)
  show Sim _ Γ _ E md_X9_escapes σ 0 [(0, rV E 0), (1, .int v1), (2, .int v2)] [] _
  unfold f_X9_escapes
  refine s_iload_n dX9_escapes_0 1 rfl rfl ?_
  refine s_iload_n dX9_escapes_1 2 rfl rfl ?_
  refine s_callSpI (As := [.int v1, .int v2]) mf_X9_isChase vf_X9_isChase ml_X9_150 (c_X9_isChase _ E hF σ v1 v2) rfl rfl (Nat.le_of_ble_eq_true rfl) rfl dX9_escapes_2 (fun r1 => ?_)
  refine s_if_eq 20 dX9_escapes_5 (by decide) ?_ ?_
  · skip
    refine s_bipush (v := -3) dX9_escapes_20 (by decide) ?_
    exact s_ireturn rfl rfl rfl dX9_escapes_22
  · skip
    refine s_aload_n dX9_escapes_8 0 rfl rfl ?_
    refine s_iload_n dX9_escapes_9 1 rfl rfl ?_
    refine s_iload_n dX9_escapes_10 2 rfl rfl ?_
    refine s_callVwC (As := [.int v1, .int v2]) mf_X9_chase vf_X9_chase ml_X9_137 (c_X9_chase _ E hF σ v1 v2) (m0 hF) k0 (by decide) rfl rfl rfl rfl (Nat.le_of_ble_eq_true rfl) rfl dX9_escapes_11 (fun r2 s3 => ?_)
    refine s_ckN (fun hr2 => ?_)
    refine s_callVpI (As := []) mf_X0_countEndless vf_X0_countEndless ml_X9_159 (c_X0_countEndless _ E hF s3 r2 hr2) (mC hF hr2) (kC hr2) (by decide) rfl rfl rfl rfl (Nat.le_of_ble_eq_true rfl) rfl dX9_escapes_14 (fun r4 => ?_)
    refine s_goto 22 dX9_escapes_17 (by decide) ?_
    exact s_ireturn rfl rfl rfl dX9_escapes_22
theorem dX9_hunt_0 : decode cX9_hunt 0 = .ok (.aload_n 0, 1) := by decide +kernel
theorem dX9_hunt_1 : decode cX9_hunt 1 = .ok (.iload_n 1, 1) := by decide +kernel
theorem dX9_hunt_2 : decode cX9_hunt 2 = .ok (.iload_n 2, 1) := by decide +kernel
theorem dX9_hunt_3 : decode cX9_hunt 3 = .ok (.iload_n 3, 1) := by decide +kernel
theorem dX9_hunt_4 : decode cX9_hunt 4 = .ok (.iload 4, 2) := by decide +kernel
theorem dX9_hunt_6 : decode cX9_hunt 6 = .ok (.invokevirtual 133, 3) := by decide +kernel
theorem dX9_hunt_9 : decode cX9_hunt 9 = .ok (.istore 5, 2) := by decide +kernel
theorem dX9_hunt_11 : decode cX9_hunt 11 = .ok (.iload 5, 2) := by decide +kernel
theorem dX9_hunt_13 : decode cX9_hunt 13 = .ok (.ifCond .eq 6, 3) := by decide +kernel
theorem dX9_hunt_16 : decode cX9_hunt 16 = .ok (.iload 5, 2) := by decide +kernel
theorem dX9_hunt_18 : decode cX9_hunt 18 = .ok (.ireturn, 1) := by decide +kernel
theorem dX9_hunt_19 : decode cX9_hunt 19 = .ok (.aload_n 0, 1) := by decide +kernel
theorem dX9_hunt_20 : decode cX9_hunt 20 = .ok (.iload_n 1, 1) := by decide +kernel
theorem dX9_hunt_21 : decode cX9_hunt 21 = .ok (.invokevirtual 141, 3) := by decide +kernel
theorem dX9_hunt_24 : decode cX9_hunt 24 = .ok (.iload_n 2, 1) := by decide +kernel
theorem dX9_hunt_25 : decode cX9_hunt 25 = .ok (.invokevirtual 144, 3) := by decide +kernel
theorem dX9_hunt_28 : decode cX9_hunt 28 = .ok (.istore 6, 2) := by decide +kernel
theorem dX9_hunt_30 : decode cX9_hunt 30 = .ok (.aload_n 0, 1) := by decide +kernel
theorem dX9_hunt_31 : decode cX9_hunt 31 = .ok (.iload_n 1, 1) := by decide +kernel
theorem dX9_hunt_32 : decode cX9_hunt 32 = .ok (.invokevirtual 141, 3) := by decide +kernel
theorem dX9_hunt_35 : decode cX9_hunt 35 = .ok (.iload 6, 2) := by decide +kernel
theorem dX9_hunt_37 : decode cX9_hunt 37 = .ok (.iload 4, 2) := by decide +kernel
theorem dX9_hunt_39 : decode cX9_hunt 39 = .ok (.invokevirtual 162, 3) := by decide +kernel
theorem dX9_hunt_42 : decode cX9_hunt 42 = .ok (.ifCond .eq 8, 3) := by decide +kernel
theorem dX9_hunt_45 : decode cX9_hunt 45 = .ok (.bipush (-4), 2) := by decide +kernel
theorem dX9_hunt_47 : decode cX9_hunt 47 = .ok (.goto 16, 3) := by decide +kernel
theorem dX9_hunt_50 : decode cX9_hunt 50 = .ok (.aload_n 0, 1) := by decide +kernel
theorem dX9_hunt_51 : decode cX9_hunt 51 = .ok (.iload_n 1, 1) := by decide +kernel
theorem dX9_hunt_52 : decode cX9_hunt 52 = .ok (.iload_n 3, 1) := by decide +kernel
theorem dX9_hunt_53 : decode cX9_hunt 53 = .ok (.invokevirtual 137, 3) := by decide +kernel
theorem dX9_hunt_56 : decode cX9_hunt 56 = .ok (.iload 6, 2) := by decide +kernel
theorem dX9_hunt_58 : decode cX9_hunt 58 = .ok (.iload 4, 2) := by decide +kernel
theorem dX9_hunt_60 : decode cX9_hunt 60 = .ok (.invokevirtual 165, 3) := by decide +kernel
theorem dX9_hunt_63 : decode cX9_hunt 63 = .ok (.ireturn, 1) := by decide +kernel
def f_X9_hunt (σ : St) (v1 : Int32) (v2 : Int32) (v3 : Int32) (v4 : Int32) : Option (Int32 × St) :=
  calP (f_X9_refuseStand σ v1 v2 v3 v4) fun r1 =>
    (if r1 = 0 then
      calP (f_X9_settings σ v1) fun r2 =>
        ckN r2 3 <|
          calP (f_X6_told σ r2 v2) fun r3 =>
            calP (f_X9_settings σ v1) fun r4 =>
              ckN r4 3 <|
                calP (f_X6_holds σ r4 r3 v4) fun r5 =>
                  (if r5 = 0 then
                    cal (f_X9_chase σ v1 v3) fun r6 s7 =>
                      ckN r6 9 <|
                        calP (f_X0_bestMove s7 r6 r3 v4) fun r8 =>
                          some (r8, s7)
                     else
                    some ((-4 : Int32), σ))
       else
      some (r1, σ))
set_option maxHeartbeats 4000000 in
set_option maxRecDepth 100000 in
theorem c_X9_hunt (l : Launch) (E : Ev) (hF : Full E) (σ : St) (v1 : Int32) (v2 : Int32) (v3 : Int32) (v4 : Int32) : Ctr l (en2 enI) (fun q => q.2) E md_X9_hunt [rV E 0, .int v1, .int v2, .int v3, .int v4] σ (f_X9_hunt σ v1 v2 v3 v4) := by
  refine ctr_of rfl (Nat.le_of_ble_eq_true rfl) (fun Γ => ?_)
  show Sim _ Γ _ E md_X9_hunt σ 0 [(0, rV E 0), (1, .int v1), (2, .int v2), (3, .int v3), (4, .int v4)] [] _
  unfold f_X9_hunt
  refine s_aload_n dX9_hunt_0 0 rfl rfl ?_
  refine s_iload_n dX9_hunt_1 1 rfl rfl ?_
  refine s_iload_n dX9_hunt_2 2 rfl rfl ?_
  refine s_iload_n dX9_hunt_3 3 rfl rfl ?_
  refine s_iload dX9_hunt_4 4 rfl ?_
  refine s_callVpI (As := [.int v1, .int v2, .int v3, .int v4]) mf_X9_refuseStand vf_X9_refuseStand ml_X9_133 (c_X9_refuseStand _ E hF σ v1 v2 v3 v4) (m0 hF) k0 (by decide) rfl rfl rfl rfl (Nat.le_of_ble_eq_true rfl) rfl dX9_hunt_6 (fun r1 => ?_)
  refine s_istore [(5, .int r1), (0, rV E 0), (1, .int v1), (2, .int v2), (3, .int v3), (4, .int v4)] dX9_hunt_9 (by decide) rfl ?_
  refine s_iload dX9_hunt_11 0 rfl ?_
  refine s_if_eq 19 dX9_hunt_13 (by decide) ?_ ?_
  · skip
    refine s_aload_n dX9_hunt_19 1 rfl rfl ?_
    refine s_iload_n dX9_hunt_20 2 rfl rfl ?_
    refine s_callVpM (As := [.int v1]) mf_X9_settings vf_X9_settings ml_X9_141 (c_X9_settings _ E hF σ v1) (m0 hF) k0 (by decide) rfl rfl rfl rfl (Nat.le_of_ble_eq_true rfl) rfl dX9_hunt_21 (fun r2 => ?_)
    refine s_ckN (fun hr2 => ?_)
    refine s_iload_n dX9_hunt_24 3 rfl rfl ?_
    refine s_callVpI (As := [.int v2]) mf_X6_told vf_X6_told ml_X9_144 (c_X6_told _ E hF σ r2 hr2 v2) (mS hF hr2) (kS hr2) (by decide) rfl rfl rfl rfl (Nat.le_of_ble_eq_true rfl) rfl dX9_hunt_25 (fun r3 => ?_)
    refine s_istore [(6, .int r3), (5, .int r1), (0, rV E 0), (1, .int v1), (2, .int v2), (3, .int v3), (4, .int v4)] dX9_hunt_28 (by decide) rfl ?_
    refine s_aload_n dX9_hunt_30 2 rfl rfl ?_
    refine s_iload_n dX9_hunt_31 3 rfl rfl ?_
    refine s_callVpM (As := [.int v1]) mf_X9_settings vf_X9_settings ml_X9_141 (c_X9_settings _ E hF σ v1) (m0 hF) k0 (by decide) rfl rfl rfl rfl (Nat.le_of_ble_eq_true rfl) rfl dX9_hunt_32 (fun r4 => ?_)
    refine s_ckN (fun hr4 => ?_)
    refine s_iload dX9_hunt_35 0 rfl ?_
    refine s_iload dX9_hunt_37 6 rfl ?_
    refine s_callVpI (As := [.int r3, .int v4]) mf_X6_holds vf_X6_holds ml_X9_162 (c_X6_holds _ E hF σ r4 hr4 r3 v4) (mS hF hr4) (kS hr4) (by decide) rfl rfl rfl rfl (Nat.le_of_ble_eq_true rfl) rfl dX9_hunt_39 (fun r5 => ?_)
    refine s_if_eq 50 dX9_hunt_42 (by decide) ?_ ?_
    · skip
      refine s_aload_n dX9_hunt_50 2 rfl rfl ?_
      refine s_iload_n dX9_hunt_51 3 rfl rfl ?_
      refine s_iload_n dX9_hunt_52 5 rfl rfl ?_
      refine s_callVwC (As := [.int v1, .int v3]) mf_X9_chase vf_X9_chase ml_X9_137 (c_X9_chase _ E hF σ v1 v3) (m0 hF) k0 (by decide) rfl rfl rfl rfl (Nat.le_of_ble_eq_true rfl) rfl dX9_hunt_53 (fun r6 s7 => ?_)
      refine s_ckN (fun hr6 => ?_)
      refine s_iload dX9_hunt_56 0 rfl ?_
      refine s_iload dX9_hunt_58 6 rfl ?_
      refine s_callVpI (As := [.int r3, .int v4]) mf_X0_bestMove vf_X0_bestMove ml_X9_165 (c_X0_bestMove _ E hF s7 r6 hr6 r3 v4) (mC hF hr6) (kC hr6) (by decide) rfl rfl rfl rfl (Nat.le_of_ble_eq_true rfl) rfl dX9_hunt_60 (fun r8 => ?_)
      exact s_ireturn rfl rfl rfl dX9_hunt_63
    · skip
      refine s_bipush (v := -4) dX9_hunt_45 (by decide) ?_
      refine s_goto 63 dX9_hunt_47 (by decide) ?_
      exact s_ireturn rfl rfl rfl dX9_hunt_63
  · skip
    refine s_iload dX9_hunt_16 0 rfl ?_
    exact s_ireturn rfl rfl rfl dX9_hunt_18
theorem dX9_flee_0 : decode cX9_flee 0 = .ok (.aload_n 0, 1) := by decide +kernel
theorem dX9_flee_1 : decode cX9_flee 1 = .ok (.iload_n 1, 1) := by decide +kernel
theorem dX9_flee_2 : decode cX9_flee 2 = .ok (.iload_n 2, 1) := by decide +kernel
theorem dX9_flee_3 : decode cX9_flee 3 = .ok (.iload_n 3, 1) := by decide +kernel
theorem dX9_flee_4 : decode cX9_flee 4 = .ok (.iload 4, 2) := by decide +kernel
theorem dX9_flee_6 : decode cX9_flee 6 = .ok (.invokevirtual 133, 3) := by decide +kernel
theorem dX9_flee_9 : decode cX9_flee 9 = .ok (.istore 5, 2) := by decide +kernel
theorem dX9_flee_11 : decode cX9_flee 11 = .ok (.iload 5, 2) := by decide +kernel
theorem dX9_flee_13 : decode cX9_flee 13 = .ok (.ifCond .eq 6, 3) := by decide +kernel
theorem dX9_flee_16 : decode cX9_flee 16 = .ok (.iload 5, 2) := by decide +kernel
theorem dX9_flee_18 : decode cX9_flee 18 = .ok (.ireturn, 1) := by decide +kernel
theorem dX9_flee_19 : decode cX9_flee 19 = .ok (.aload_n 0, 1) := by decide +kernel
theorem dX9_flee_20 : decode cX9_flee 20 = .ok (.iload_n 1, 1) := by decide +kernel
theorem dX9_flee_21 : decode cX9_flee 21 = .ok (.invokevirtual 141, 3) := by decide +kernel
theorem dX9_flee_24 : decode cX9_flee 24 = .ok (.iload_n 2, 1) := by decide +kernel
theorem dX9_flee_25 : decode cX9_flee 25 = .ok (.invokevirtual 144, 3) := by decide +kernel
theorem dX9_flee_28 : decode cX9_flee 28 = .ok (.istore 6, 2) := by decide +kernel
theorem dX9_flee_30 : decode cX9_flee 30 = .ok (.aload_n 0, 1) := by decide +kernel
theorem dX9_flee_31 : decode cX9_flee 31 = .ok (.iload_n 1, 1) := by decide +kernel
theorem dX9_flee_32 : decode cX9_flee 32 = .ok (.invokevirtual 141, 3) := by decide +kernel
theorem dX9_flee_35 : decode cX9_flee 35 = .ok (.iload 6, 2) := by decide +kernel
theorem dX9_flee_37 : decode cX9_flee 37 = .ok (.iload 4, 2) := by decide +kernel
theorem dX9_flee_39 : decode cX9_flee 39 = .ok (.invokevirtual 162, 3) := by decide +kernel
theorem dX9_flee_42 : decode cX9_flee 42 = .ok (.ifCond .eq 8, 3) := by decide +kernel
theorem dX9_flee_45 : decode cX9_flee 45 = .ok (.bipush (-4), 2) := by decide +kernel
theorem dX9_flee_47 : decode cX9_flee 47 = .ok (.goto 16, 3) := by decide +kernel
theorem dX9_flee_50 : decode cX9_flee 50 = .ok (.aload_n 0, 1) := by decide +kernel
theorem dX9_flee_51 : decode cX9_flee 51 = .ok (.iload_n 1, 1) := by decide +kernel
theorem dX9_flee_52 : decode cX9_flee 52 = .ok (.iload_n 3, 1) := by decide +kernel
theorem dX9_flee_53 : decode cX9_flee 53 = .ok (.invokevirtual 137, 3) := by decide +kernel
theorem dX9_flee_56 : decode cX9_flee 56 = .ok (.iload 6, 2) := by decide +kernel
theorem dX9_flee_58 : decode cX9_flee 58 = .ok (.iload 4, 2) := by decide +kernel
theorem dX9_flee_60 : decode cX9_flee 60 = .ok (.invokevirtual 168, 3) := by decide +kernel
theorem dX9_flee_63 : decode cX9_flee 63 = .ok (.ireturn, 1) := by decide +kernel
def f_X9_flee (σ : St) (v1 : Int32) (v2 : Int32) (v3 : Int32) (v4 : Int32) : Option (Int32 × St) :=
  calP (f_X9_refuseStand σ v1 v2 v3 v4) fun r1 =>
    (if r1 = 0 then
      calP (f_X9_settings σ v1) fun r2 =>
        ckN r2 3 <|
          calP (f_X6_told σ r2 v2) fun r3 =>
            calP (f_X9_settings σ v1) fun r4 =>
              ckN r4 3 <|
                calP (f_X6_holds σ r4 r3 v4) fun r5 =>
                  (if r5 = 0 then
                    cal (f_X9_chase σ v1 v3) fun r6 s7 =>
                      ckN r6 9 <|
                        calP (f_X0_bestFlight s7 r6 r3 v4) fun r8 =>
                          some (r8, s7)
                     else
                    some ((-4 : Int32), σ))
       else
      some (r1, σ))
set_option maxHeartbeats 4000000 in
set_option maxRecDepth 100000 in
theorem c_X9_flee (l : Launch) (E : Ev) (hF : Full E) (σ : St) (v1 : Int32) (v2 : Int32) (v3 : Int32) (v4 : Int32) : Ctr l (en2 enI) (fun q => q.2) E md_X9_flee [rV E 0, .int v1, .int v2, .int v3, .int v4] σ (f_X9_flee σ v1 v2 v3 v4) := by
  refine ctr_of rfl (Nat.le_of_ble_eq_true rfl) (fun Γ => ?_)
  show Sim _ Γ _ E md_X9_flee σ 0 [(0, rV E 0), (1, .int v1), (2, .int v2), (3, .int v3), (4, .int v4)] [] _
  unfold f_X9_flee
  refine s_aload_n dX9_flee_0 0 rfl rfl ?_
  refine s_iload_n dX9_flee_1 1 rfl rfl ?_
  refine s_iload_n dX9_flee_2 2 rfl rfl ?_
  refine s_iload_n dX9_flee_3 3 rfl rfl ?_
  refine s_iload dX9_flee_4 4 rfl ?_
  refine s_callVpI (As := [.int v1, .int v2, .int v3, .int v4]) mf_X9_refuseStand vf_X9_refuseStand ml_X9_133 (c_X9_refuseStand _ E hF σ v1 v2 v3 v4) (m0 hF) k0 (by decide) rfl rfl rfl rfl (Nat.le_of_ble_eq_true rfl) rfl dX9_flee_6 (fun r1 => ?_)
  refine s_istore [(5, .int r1), (0, rV E 0), (1, .int v1), (2, .int v2), (3, .int v3), (4, .int v4)] dX9_flee_9 (by decide) rfl ?_
  refine s_iload dX9_flee_11 0 rfl ?_
  refine s_if_eq 19 dX9_flee_13 (by decide) ?_ ?_
  · skip
    refine s_aload_n dX9_flee_19 1 rfl rfl ?_
    refine s_iload_n dX9_flee_20 2 rfl rfl ?_
    refine s_callVpM (As := [.int v1]) mf_X9_settings vf_X9_settings ml_X9_141 (c_X9_settings _ E hF σ v1) (m0 hF) k0 (by decide) rfl rfl rfl rfl (Nat.le_of_ble_eq_true rfl) rfl dX9_flee_21 (fun r2 => ?_)
    refine s_ckN (fun hr2 => ?_)
    refine s_iload_n dX9_flee_24 3 rfl rfl ?_
    refine s_callVpI (As := [.int v2]) mf_X6_told vf_X6_told ml_X9_144 (c_X6_told _ E hF σ r2 hr2 v2) (mS hF hr2) (kS hr2) (by decide) rfl rfl rfl rfl (Nat.le_of_ble_eq_true rfl) rfl dX9_flee_25 (fun r3 => ?_)
    refine s_istore [(6, .int r3), (5, .int r1), (0, rV E 0), (1, .int v1), (2, .int v2), (3, .int v3), (4, .int v4)] dX9_flee_28 (by decide) rfl ?_
    refine s_aload_n dX9_flee_30 2 rfl rfl ?_
    refine s_iload_n dX9_flee_31 3 rfl rfl ?_
    refine s_callVpM (As := [.int v1]) mf_X9_settings vf_X9_settings ml_X9_141 (c_X9_settings _ E hF σ v1) (m0 hF) k0 (by decide) rfl rfl rfl rfl (Nat.le_of_ble_eq_true rfl) rfl dX9_flee_32 (fun r4 => ?_)
    refine s_ckN (fun hr4 => ?_)
    refine s_iload dX9_flee_35 0 rfl ?_
    refine s_iload dX9_flee_37 6 rfl ?_
    refine s_callVpI (As := [.int r3, .int v4]) mf_X6_holds vf_X6_holds ml_X9_162 (c_X6_holds _ E hF σ r4 hr4 r3 v4) (mS hF hr4) (kS hr4) (by decide) rfl rfl rfl rfl (Nat.le_of_ble_eq_true rfl) rfl dX9_flee_39 (fun r5 => ?_)
    refine s_if_eq 50 dX9_flee_42 (by decide) ?_ ?_
    · skip
      refine s_aload_n dX9_flee_50 2 rfl rfl ?_
      refine s_iload_n dX9_flee_51 3 rfl rfl ?_
      refine s_iload_n dX9_flee_52 5 rfl rfl ?_
      refine s_callVwC (As := [.int v1, .int v3]) mf_X9_chase vf_X9_chase ml_X9_137 (c_X9_chase _ E hF σ v1 v3) (m0 hF) k0 (by decide) rfl rfl rfl rfl (Nat.le_of_ble_eq_true rfl) rfl dX9_flee_53 (fun r6 s7 => ?_)
      refine s_ckN (fun hr6 => ?_)
      refine s_iload dX9_flee_56 0 rfl ?_
      refine s_iload dX9_flee_58 6 rfl ?_
      refine s_callVpI (As := [.int r3, .int v4]) mf_X0_bestFlight vf_X0_bestFlight ml_X9_168 (c_X0_bestFlight _ E hF s7 r6 hr6 r3 v4) (mC hF hr6) (kC hr6) (by decide) rfl rfl rfl rfl (Nat.le_of_ble_eq_true rfl) rfl dX9_flee_60 (fun r8 => ?_)
      exact s_ireturn rfl rfl rfl dX9_flee_63
    · skip
      refine s_bipush (v := -4) dX9_flee_45 (by decide) ?_
      refine s_goto 63 dX9_flee_47 (by decide) ?_
      exact s_ireturn rfl rfl rfl dX9_flee_63
  · skip
    refine s_iload dX9_flee_16 0 rfl ?_
    exact s_ireturn rfl rfl rfl dX9_flee_18
theorem dX9_play_0 : decode cX9_play 0 = .ok (.aload_n 0, 1) := by decide +kernel
theorem dX9_play_1 : decode cX9_play 1 = .ok (.iload_n 1, 1) := by decide +kernel
theorem dX9_play_2 : decode cX9_play 2 = .ok (.iload_n 2, 1) := by decide +kernel
theorem dX9_play_3 : decode cX9_play 3 = .ok (.iload_n 3, 1) := by decide +kernel
theorem dX9_play_4 : decode cX9_play 4 = .ok (.iload 4, 2) := by decide +kernel
theorem dX9_play_6 : decode cX9_play 6 = .ok (.invokevirtual 133, 3) := by decide +kernel
theorem dX9_play_9 : decode cX9_play 9 = .ok (.istore 5, 2) := by decide +kernel
theorem dX9_play_11 : decode cX9_play 11 = .ok (.iload 5, 2) := by decide +kernel
theorem dX9_play_13 : decode cX9_play 13 = .ok (.ifCond .eq 6, 3) := by decide +kernel
theorem dX9_play_16 : decode cX9_play 16 = .ok (.iload 5, 2) := by decide +kernel
theorem dX9_play_18 : decode cX9_play 18 = .ok (.ireturn, 1) := by decide +kernel
theorem dX9_play_19 : decode cX9_play 19 = .ok (.aload_n 0, 1) := by decide +kernel
theorem dX9_play_20 : decode cX9_play 20 = .ok (.getfield 46, 3) := by decide +kernel
theorem dX9_play_23 : decode cX9_play 23 = .ok (.iload_n 1, 1) := by decide +kernel
theorem dX9_play_24 : decode cX9_play 24 = .ok (.iload_n 3, 1) := by decide +kernel
theorem dX9_play_25 : decode cX9_play 25 = .ok (.aload_n 0, 1) := by decide +kernel
theorem dX9_play_26 : decode cX9_play 26 = .ok (.iload_n 1, 1) := by decide +kernel
theorem dX9_play_27 : decode cX9_play 27 = .ok (.invokevirtual 141, 3) := by decide +kernel
theorem dX9_play_30 : decode cX9_play 30 = .ok (.aload_n 0, 1) := by decide +kernel
theorem dX9_play_31 : decode cX9_play 31 = .ok (.iload_n 1, 1) := by decide +kernel
theorem dX9_play_32 : decode cX9_play 32 = .ok (.invokevirtual 141, 3) := by decide +kernel
theorem dX9_play_35 : decode cX9_play 35 = .ok (.iload_n 2, 1) := by decide +kernel
theorem dX9_play_36 : decode cX9_play 36 = .ok (.invokevirtual 144, 3) := by decide +kernel
theorem dX9_play_39 : decode cX9_play 39 = .ok (.invokevirtual 171, 3) := by decide +kernel
theorem dX9_play_42 : decode cX9_play 42 = .ok (.iload 4, 2) := by decide +kernel
theorem dX9_play_44 : decode cX9_play 44 = .ok (.invokevirtual 174, 3) := by decide +kernel
theorem dX9_play_47 : decode cX9_play 47 = .ok (.iconst 1, 1) := by decide +kernel
theorem dX9_play_48 : decode cX9_play 48 = .ok (.ireturn, 1) := by decide +kernel
def f_X9_play (σ : St) (v1 : Int32) (v2 : Int32) (v3 : Int32) (v4 : Int32) : Option (Int32 × St) :=
  calP (f_X9_refuseStand σ v1 v2 v3 v4) fun r1 =>
    (if r1 = 0 then
      calP (f_X9_settings σ v1) fun r2 =>
        ckN r2 3 <|
          calP (f_X9_settings σ v1) fun r3 =>
            ckN r3 3 <|
              calP (f_X6_told σ r3 v2) fun r4 =>
                calP (f_X6_rising σ r2 r4) fun r5 =>
                  cal (f_X5_begin σ v1 v3 r5 v4) fun _ s6 =>
                    some ((1 : Int32), s6)
       else
      some (r1, σ))
set_option maxHeartbeats 4000000 in
set_option maxRecDepth 100000 in
theorem c_X9_play (l : Launch) (E : Ev) (hF : Full E) (σ : St) (v1 : Int32) (v2 : Int32) (v3 : Int32) (v4 : Int32) : Ctr l (en2 enI) (fun q => q.2) E md_X9_play [rV E 0, .int v1, .int v2, .int v3, .int v4] σ (f_X9_play σ v1 v2 v3 v4) := by
  refine ctr_of rfl (Nat.le_of_ble_eq_true rfl) (fun Γ => ?_)
  show Sim _ Γ _ E md_X9_play σ 0 [(0, rV E 0), (1, .int v1), (2, .int v2), (3, .int v3), (4, .int v4)] [] _
  unfold f_X9_play
  refine s_aload_n dX9_play_0 0 rfl rfl ?_
  refine s_iload_n dX9_play_1 1 rfl rfl ?_
  refine s_iload_n dX9_play_2 2 rfl rfl ?_
  refine s_iload_n dX9_play_3 3 rfl rfl ?_
  refine s_iload dX9_play_4 4 rfl ?_
  refine s_callVpI (As := [.int v1, .int v2, .int v3, .int v4]) mf_X9_refuseStand vf_X9_refuseStand ml_X9_133 (c_X9_refuseStand _ E hF σ v1 v2 v3 v4) (m0 hF) k0 (by decide) rfl rfl rfl rfl (Nat.le_of_ble_eq_true rfl) rfl dX9_play_6 (fun r1 => ?_)
  refine s_istore [(5, .int r1), (0, rV E 0), (1, .int v1), (2, .int v2), (3, .int v3), (4, .int v4)] dX9_play_9 (by decide) rfl ?_
  refine s_iload dX9_play_11 0 rfl ?_
  refine s_if_eq 19 dX9_play_13 (by decide) ?_ ?_
  · skip
    refine s_aload_n dX9_play_19 1 rfl rfl ?_
    refine s_getr (b := 13) gf_X9_46 rfl (m0 hF) k0 (ft_of k0 rfl) (hF.2 _ _) rfl dX9_play_20 ?_
    refine s_iload_n dX9_play_23 2 rfl rfl ?_
    refine s_iload_n dX9_play_24 4 rfl rfl ?_
    refine s_aload_n dX9_play_25 1 rfl rfl ?_
    refine s_iload_n dX9_play_26 2 rfl rfl ?_
    refine s_callVpM (As := [.int v1]) mf_X9_settings vf_X9_settings ml_X9_141 (c_X9_settings _ E hF σ v1) (m0 hF) k0 (by decide) rfl rfl rfl rfl (Nat.le_of_ble_eq_true rfl) rfl dX9_play_27 (fun r2 => ?_)
    refine s_ckN (fun hr2 => ?_)
    refine s_aload_n dX9_play_30 1 rfl rfl ?_
    refine s_iload_n dX9_play_31 2 rfl rfl ?_
    refine s_callVpM (As := [.int v1]) mf_X9_settings vf_X9_settings ml_X9_141 (c_X9_settings _ E hF σ v1) (m0 hF) k0 (by decide) rfl rfl rfl rfl (Nat.le_of_ble_eq_true rfl) rfl dX9_play_32 (fun r3 => ?_)
    refine s_ckN (fun hr3 => ?_)
    refine s_iload_n dX9_play_35 3 rfl rfl ?_
    refine s_callVpI (As := [.int v2]) mf_X6_told vf_X6_told ml_X9_144 (c_X6_told _ E hF σ r3 hr3 v2) (mS hF hr3) (kS hr3) (by decide) rfl rfl rfl rfl (Nat.le_of_ble_eq_true rfl) rfl dX9_play_36 (fun r4 => ?_)
    refine s_callVpI (As := [.int r4]) mf_X6_rising vf_X6_rising ml_X9_171 (c_X6_rising _ E hF σ r2 hr2 r4) (mS hF hr2) (kS hr2) (by decide) rfl rfl rfl rfl (Nat.le_of_ble_eq_true rfl) rfl dX9_play_39 (fun r5 => ?_)
    refine s_iload dX9_play_42 5 rfl ?_
    refine s_callVwV (As := [.int v1, .int v3, .int r5, .int v4]) mf_X5_begin vf_X5_begin ml_X9_174 (c_X5_begin _ E hF σ v1 v3 r5 v4) (m13 hF) k13 (by decide) rfl rfl rfl rfl (Nat.le_of_ble_eq_true rfl) rfl dX9_play_44 (fun _ s6 => ?_)
    refine s_iconst (v := 1) dX9_play_47 (by decide) ?_
    exact s_ireturn rfl rfl rfl dX9_play_48
  · skip
    refine s_iload dX9_play_16 0 rfl ?_
    exact s_ireturn rfl rfl rfl dX9_play_18
theorem dX9_isCaught_0 : decode cX9_isCaught 0 = .ok (.aload_n 0, 1) := by decide +kernel
theorem dX9_isCaught_1 : decode cX9_isCaught 1 = .ok (.aload_n 0, 1) := by decide +kernel
theorem dX9_isCaught_2 : decode cX9_isCaught 2 = .ok (.getfield 46, 3) := by decide +kernel
theorem dX9_isCaught_5 : decode cX9_isCaught 5 = .ok (.invokevirtual 185, 3) := by decide +kernel
theorem dX9_isCaught_8 : decode cX9_isCaught 8 = .ok (.invokevirtual 141, 3) := by decide +kernel
theorem dX9_isCaught_11 : decode cX9_isCaught 11 = .ok (.aload_n 0, 1) := by decide +kernel
theorem dX9_isCaught_12 : decode cX9_isCaught 12 = .ok (.getfield 46, 3) := by decide +kernel
theorem dX9_isCaught_15 : decode cX9_isCaught 15 = .ok (.invokevirtual 201, 3) := by decide +kernel
theorem dX9_isCaught_18 : decode cX9_isCaught 18 = .ok (.aload_n 0, 1) := by decide +kernel
theorem dX9_isCaught_19 : decode cX9_isCaught 19 = .ok (.getfield 46, 3) := by decide +kernel
theorem dX9_isCaught_22 : decode cX9_isCaught 22 = .ok (.invokevirtual 191, 3) := by decide +kernel
theorem dX9_isCaught_25 : decode cX9_isCaught 25 = .ok (.invokevirtual 162, 3) := by decide +kernel
theorem dX9_isCaught_28 : decode cX9_isCaught 28 = .ok (.ireturn, 1) := by decide +kernel
def f_X9_isCaught (σ : St) : Option Int32 :=
  calP (f_X5_hunters σ) fun r1 =>
    calP (f_X9_settings σ r1) fun r2 =>
      ckN r2 3 <|
        calP (f_X5_setting σ) fun r3 =>
          calP (f_X5_place σ) fun r4 =>
            calP (f_X6_holds σ r2 r3 r4) fun r5 =>
              ckZ r5 <|
                some r5
set_option maxHeartbeats 4000000 in
set_option maxRecDepth 100000 in
theorem c_X9_isCaught (l : Launch) (E : Ev) (hF : Full E) (σ : St) : Ctr l enI (fun _ => σ) E md_X9_isCaught [rV E 0] σ (f_X9_isCaught σ) := by
  refine ctr_of rfl (Nat.le_of_ble_eq_true rfl) (fun Γ => ?_)
  show Sim _ Γ _ E md_X9_isCaught σ 0 [(0, rV E 0)] [] _
  unfold f_X9_isCaught
  refine s_aload_n dX9_isCaught_0 0 rfl rfl ?_
  refine s_aload_n dX9_isCaught_1 0 rfl rfl ?_
  refine s_getr (b := 13) gf_X9_46 rfl (m0 hF) k0 (ft_of k0 rfl) (hF.2 _ _) rfl dX9_isCaught_2 ?_
  refine s_callVpI (As := []) mf_X5_hunters vf_X5_hunters ml_X9_185 (c_X5_hunters _ E hF σ) (m13 hF) k13 (by decide) rfl rfl rfl rfl (Nat.le_of_ble_eq_true rfl) rfl dX9_isCaught_5 (fun r1 => ?_)
  refine s_callVpM (As := [.int r1]) mf_X9_settings vf_X9_settings ml_X9_141 (c_X9_settings _ E hF σ r1) (m0 hF) k0 (by decide) rfl rfl rfl rfl (Nat.le_of_ble_eq_true rfl) rfl dX9_isCaught_8 (fun r2 => ?_)
  refine s_ckN (fun hr2 => ?_)
  refine s_aload_n dX9_isCaught_11 0 rfl rfl ?_
  refine s_getr (b := 13) gf_X9_46 rfl (m0 hF) k0 (ft_of k0 rfl) (hF.2 _ _) rfl dX9_isCaught_12 ?_
  refine s_callVpI (As := []) mf_X5_setting vf_X5_setting ml_X9_201 (c_X5_setting _ E hF σ) (m13 hF) k13 (by decide) rfl rfl rfl rfl (Nat.le_of_ble_eq_true rfl) rfl dX9_isCaught_15 (fun r3 => ?_)
  refine s_aload_n dX9_isCaught_18 0 rfl rfl ?_
  refine s_getr (b := 13) gf_X9_46 rfl (m0 hF) k0 (ft_of k0 rfl) (hF.2 _ _) rfl dX9_isCaught_19 ?_
  refine s_callVpI (As := []) mf_X5_place vf_X5_place ml_X9_191 (c_X5_place _ E hF σ) (m13 hF) k13 (by decide) rfl rfl rfl rfl (Nat.le_of_ble_eq_true rfl) rfl dX9_isCaught_22 (fun r4 => ?_)
  refine s_callVpI (As := [.int r3, .int r4]) mf_X6_holds vf_X6_holds ml_X9_162 (c_X6_holds _ E hF σ r2 hr2 r3 r4) (mS hF hr2) (kS hr2) (by decide) rfl rfl rfl rfl (Nat.le_of_ble_eq_true rfl) rfl dX9_isCaught_25 (fun r5 => ?_)
  refine s_ckZ (fun hz6 => ?_)
  exact s_zreturn rfl hz6 rfl rfl dX9_isCaught_28
theorem dX9_placeBehind_0 : decode cX9_placeBehind 0 = .ok (.aload_n 0, 1) := by decide +kernel
theorem dX9_placeBehind_1 : decode cX9_placeBehind 1 = .ok (.aload_n 0, 1) := by decide +kernel
theorem dX9_placeBehind_2 : decode cX9_placeBehind 2 = .ok (.getfield 46, 3) := by decide +kernel
theorem dX9_placeBehind_5 : decode cX9_placeBehind 5 = .ok (.invokevirtual 185, 3) := by decide +kernel
theorem dX9_placeBehind_8 : decode cX9_placeBehind 8 = .ok (.aload_n 0, 1) := by decide +kernel
theorem dX9_placeBehind_9 : decode cX9_placeBehind 9 = .ok (.getfield 46, 3) := by decide +kernel
theorem dX9_placeBehind_12 : decode cX9_placeBehind 12 = .ok (.invokevirtual 268, 3) := by decide +kernel
theorem dX9_placeBehind_15 : decode cX9_placeBehind 15 = .ok (.invokevirtual 137, 3) := by decide +kernel
theorem dX9_placeBehind_18 : decode cX9_placeBehind 18 = .ok (.astore_n 3, 1) := by decide +kernel
theorem dX9_placeBehind_19 : decode cX9_placeBehind 19 = .ok (.iload_n 2, 1) := by decide +kernel
theorem dX9_placeBehind_20 : decode cX9_placeBehind 20 = .ok (.iconst (-1), 1) := by decide +kernel
theorem dX9_placeBehind_21 : decode cX9_placeBehind 21 = .ok (.if_icmp .ne 16, 3) := by decide +kernel
theorem dX9_placeBehind_24 : decode cX9_placeBehind 24 = .ok (.aload_n 3, 1) := by decide +kernel
theorem dX9_placeBehind_25 : decode cX9_placeBehind 25 = .ok (.iload_n 1, 1) := by decide +kernel
theorem dX9_placeBehind_26 : decode cX9_placeBehind 26 = .ok (.aload_n 0, 1) := by decide +kernel
theorem dX9_placeBehind_27 : decode cX9_placeBehind 27 = .ok (.getfield 46, 3) := by decide +kernel
theorem dX9_placeBehind_30 : decode cX9_placeBehind 30 = .ok (.invokevirtual 191, 3) := by decide +kernel
theorem dX9_placeBehind_33 : decode cX9_placeBehind 33 = .ok (.invokevirtual 168, 3) := by decide +kernel
theorem dX9_placeBehind_36 : decode cX9_placeBehind 36 = .ok (.ireturn, 1) := by decide +kernel
theorem dX9_placeBehind_37 : decode cX9_placeBehind 37 = .ok (.aload_n 3, 1) := by decide +kernel
theorem dX9_placeBehind_38 : decode cX9_placeBehind 38 = .ok (.iload_n 1, 1) := by decide +kernel
theorem dX9_placeBehind_39 : decode cX9_placeBehind 39 = .ok (.aload_n 0, 1) := by decide +kernel
theorem dX9_placeBehind_40 : decode cX9_placeBehind 40 = .ok (.getfield 46, 3) := by decide +kernel
theorem dX9_placeBehind_43 : decode cX9_placeBehind 43 = .ok (.invokevirtual 191, 3) := by decide +kernel
theorem dX9_placeBehind_46 : decode cX9_placeBehind 46 = .ok (.invokevirtual 274, 3) := by decide +kernel
theorem dX9_placeBehind_49 : decode cX9_placeBehind 49 = .ok (.iload_n 2, 1) := by decide +kernel
theorem dX9_placeBehind_50 : decode cX9_placeBehind 50 = .ok (.invokestatic 125, 3) := by decide +kernel
theorem dX9_placeBehind_53 : decode cX9_placeBehind 53 = .ok (.ifCond .eq 7, 3) := by decide +kernel
theorem dX9_placeBehind_56 : decode cX9_placeBehind 56 = .ok (.iload_n 2, 1) := by decide +kernel
theorem dX9_placeBehind_57 : decode cX9_placeBehind 57 = .ok (.goto 4, 3) := by decide +kernel
theorem dX9_placeBehind_60 : decode cX9_placeBehind 60 = .ok (.iconst (-1), 1) := by decide +kernel
theorem dX9_placeBehind_61 : decode cX9_placeBehind 61 = .ok (.ireturn, 1) := by decide +kernel
def f_X9_placeBehind (σ : St) (v1 : Int32) (v2 : Int32) : Option (Int32 × St) :=
  calP (f_X5_hunters σ) fun r1 =>
    calP (f_X5_speed σ) fun r2 =>
      cal (f_X9_chase σ r1 r2) fun r3 s4 =>
        ckN r3 9 <|
          (if v2 = (-1 : Int32) then
            calP (f_X5_place s4) fun r5 =>
              calP (f_X0_bestFlight s4 r3 v1 r5) fun r6 =>
                some (r6, s4)
             else
            calP (f_X5_place s4) fun r7 =>
              calP (f_X0_flights s4 r3 v1 r7) fun r8 =>
                calP (f_X9_has s4 r8 v2) fun r9 =>
                  (if r9 = 0 then
                    some ((-1 : Int32), s4)
                     else
                    some (v2, s4)))
set_option maxHeartbeats 4000000 in
set_option maxRecDepth 100000 in
theorem c_X9_placeBehind (l : Launch) (E : Ev) (hF : Full E) (σ : St) (v1 : Int32) (v2 : Int32) : Ctr l (en2 enI) (fun q => q.2) E md_X9_placeBehind [rV E 0, .int v1, .int v2] σ (f_X9_placeBehind σ v1 v2) := by
  refine ctr_of rfl (Nat.le_of_ble_eq_true rfl) (fun Γ => ?_)
  show Sim _ Γ _ E md_X9_placeBehind σ 0 [(0, rV E 0), (1, .int v1), (2, .int v2)] [] _
  unfold f_X9_placeBehind
  refine s_aload_n dX9_placeBehind_0 0 rfl rfl ?_
  refine s_aload_n dX9_placeBehind_1 0 rfl rfl ?_
  refine s_getr (b := 13) gf_X9_46 rfl (m0 hF) k0 (ft_of k0 rfl) (hF.2 _ _) rfl dX9_placeBehind_2 ?_
  refine s_callVpI (As := []) mf_X5_hunters vf_X5_hunters ml_X9_185 (c_X5_hunters _ E hF σ) (m13 hF) k13 (by decide) rfl rfl rfl rfl (Nat.le_of_ble_eq_true rfl) rfl dX9_placeBehind_5 (fun r1 => ?_)
  refine s_aload_n dX9_placeBehind_8 0 rfl rfl ?_
  refine s_getr (b := 13) gf_X9_46 rfl (m0 hF) k0 (ft_of k0 rfl) (hF.2 _ _) rfl dX9_placeBehind_9 ?_
  refine s_callVpI (As := []) mf_X5_speed vf_X5_speed ml_X9_268 (c_X5_speed _ E hF σ) (m13 hF) k13 (by decide) rfl rfl rfl rfl (Nat.le_of_ble_eq_true rfl) rfl dX9_placeBehind_12 (fun r2 => ?_)
  refine s_callVwC (As := [.int r1, .int r2]) mf_X9_chase vf_X9_chase ml_X9_137 (c_X9_chase _ E hF σ r1 r2) (m0 hF) k0 (by decide) rfl rfl rfl rfl (Nat.le_of_ble_eq_true rfl) rfl dX9_placeBehind_15 (fun r3 s4 => ?_)
  refine s_ckN (fun hr3 => ?_)
  refine s_astore_n [(3, rV E (40 + 5 * r3)), (0, rV E 0), (1, .int v1), (2, .int v2)] dX9_placeBehind_18 rfl (by decide) rfl ?_
  refine s_iload_n dX9_placeBehind_19 3 rfl rfl ?_
  refine s_iconst (v := -1) dX9_placeBehind_20 (by decide) ?_
  refine s_icmp_ne 37 dX9_placeBehind_21 (by decide) ?_ ?_
  · skip
    refine s_aload_n dX9_placeBehind_24 0 rfl rfl ?_
    refine s_iload_n dX9_placeBehind_25 2 rfl rfl ?_
    refine s_aload_n dX9_placeBehind_26 1 rfl rfl ?_
    refine s_getr (b := 13) gf_X9_46 rfl (m0 hF) k0 (ft_of k0 rfl) (hF.2 _ _) rfl dX9_placeBehind_27 ?_
    refine s_callVpI (As := []) mf_X5_place vf_X5_place ml_X9_191 (c_X5_place _ E hF s4) (m13 hF) k13 (by decide) rfl rfl rfl rfl (Nat.le_of_ble_eq_true rfl) rfl dX9_placeBehind_30 (fun r5 => ?_)
    refine s_callVpI (As := [.int v1, .int r5]) mf_X0_bestFlight vf_X0_bestFlight ml_X9_168 (c_X0_bestFlight _ E hF s4 r3 hr3 v1 r5) (mC hF hr3) (kC hr3) (by decide) rfl rfl rfl rfl (Nat.le_of_ble_eq_true rfl) rfl dX9_placeBehind_33 (fun r6 => ?_)
    exact s_ireturn rfl rfl rfl dX9_placeBehind_36
  · skip
    refine s_aload_n dX9_placeBehind_37 0 rfl rfl ?_
    refine s_iload_n dX9_placeBehind_38 2 rfl rfl ?_
    refine s_aload_n dX9_placeBehind_39 1 rfl rfl ?_
    refine s_getr (b := 13) gf_X9_46 rfl (m0 hF) k0 (ft_of k0 rfl) (hF.2 _ _) rfl dX9_placeBehind_40 ?_
    refine s_callVpI (As := []) mf_X5_place vf_X5_place ml_X9_191 (c_X5_place _ E hF s4) (m13 hF) k13 (by decide) rfl rfl rfl rfl (Nat.le_of_ble_eq_true rfl) rfl dX9_placeBehind_43 (fun r7 => ?_)
    refine s_callVpI (As := [.int v1, .int r7]) mf_X0_flights vf_X0_flights ml_X9_274 (c_X0_flights _ E hF s4 r3 hr3 v1 r7) (mC hF hr3) (kC hr3) (by decide) rfl rfl rfl rfl (Nat.le_of_ble_eq_true rfl) rfl dX9_placeBehind_46 (fun r8 => ?_)
    refine s_iload_n dX9_placeBehind_49 3 rfl rfl ?_
    refine s_callSpI (As := [.int r8, .int v2]) mf_X9_has vf_X9_has ml_X9_125 (c_X9_has _ E hF s4 r8 v2) rfl rfl (Nat.le_of_ble_eq_true rfl) rfl dX9_placeBehind_50 (fun r9 => ?_)
    refine s_if_eq 60 dX9_placeBehind_53 (by decide) ?_ ?_
    · skip
      refine s_iconst (v := -1) dX9_placeBehind_60 (by decide) ?_
      exact s_ireturn rfl rfl rfl dX9_placeBehind_61
    · skip
      refine s_iload_n dX9_placeBehind_56 3 rfl rfl ?_
      refine s_goto 61 dX9_placeBehind_57 (by decide) ?_
      exact s_ireturn rfl rfl rfl dX9_placeBehind_61
theorem dX9_settingBehind_0 : decode cX9_settingBehind 0 = .ok (.aload_n 0, 1) := by decide +kernel
theorem dX9_settingBehind_1 : decode cX9_settingBehind 1 = .ok (.aload_n 0, 1) := by decide +kernel
theorem dX9_settingBehind_2 : decode cX9_settingBehind 2 = .ok (.getfield 46, 3) := by decide +kernel
theorem dX9_settingBehind_5 : decode cX9_settingBehind 5 = .ok (.invokevirtual 185, 3) := by decide +kernel
theorem dX9_settingBehind_8 : decode cX9_settingBehind 8 = .ok (.invokevirtual 141, 3) := by decide +kernel
theorem dX9_settingBehind_11 : decode cX9_settingBehind 11 = .ok (.astore_n 2, 1) := by decide +kernel
theorem dX9_settingBehind_12 : decode cX9_settingBehind 12 = .ok (.iload_n 1, 1) := by decide +kernel
theorem dX9_settingBehind_13 : decode cX9_settingBehind 13 = .ok (.iconst (-1), 1) := by decide +kernel
theorem dX9_settingBehind_14 : decode cX9_settingBehind 14 = .ok (.if_icmp .ne 39, 3) := by decide +kernel
theorem dX9_settingBehind_17 : decode cX9_settingBehind 17 = .ok (.aload_n 0, 1) := by decide +kernel
theorem dX9_settingBehind_18 : decode cX9_settingBehind 18 = .ok (.aload_n 0, 1) := by decide +kernel
theorem dX9_settingBehind_19 : decode cX9_settingBehind 19 = .ok (.getfield 46, 3) := by decide +kernel
theorem dX9_settingBehind_22 : decode cX9_settingBehind 22 = .ok (.invokevirtual 185, 3) := by decide +kernel
theorem dX9_settingBehind_25 : decode cX9_settingBehind 25 = .ok (.aload_n 0, 1) := by decide +kernel
theorem dX9_settingBehind_26 : decode cX9_settingBehind 26 = .ok (.getfield 46, 3) := by decide +kernel
theorem dX9_settingBehind_29 : decode cX9_settingBehind 29 = .ok (.invokevirtual 268, 3) := by decide +kernel
theorem dX9_settingBehind_32 : decode cX9_settingBehind 32 = .ok (.invokevirtual 137, 3) := by decide +kernel
theorem dX9_settingBehind_35 : decode cX9_settingBehind 35 = .ok (.aload_n 0, 1) := by decide +kernel
theorem dX9_settingBehind_36 : decode cX9_settingBehind 36 = .ok (.getfield 46, 3) := by decide +kernel
theorem dX9_settingBehind_39 : decode cX9_settingBehind 39 = .ok (.invokevirtual 201, 3) := by decide +kernel
theorem dX9_settingBehind_42 : decode cX9_settingBehind 42 = .ok (.aload_n 0, 1) := by decide +kernel
theorem dX9_settingBehind_43 : decode cX9_settingBehind 43 = .ok (.getfield 46, 3) := by decide +kernel
theorem dX9_settingBehind_46 : decode cX9_settingBehind 46 = .ok (.invokevirtual 191, 3) := by decide +kernel
theorem dX9_settingBehind_49 : decode cX9_settingBehind 49 = .ok (.invokevirtual 165, 3) := by decide +kernel
theorem dX9_settingBehind_52 : decode cX9_settingBehind 52 = .ok (.ireturn, 1) := by decide +kernel
theorem dX9_settingBehind_53 : decode cX9_settingBehind 53 = .ok (.aload_n 2, 1) := by decide +kernel
theorem dX9_settingBehind_54 : decode cX9_settingBehind 54 = .ok (.iload_n 1, 1) := by decide +kernel
theorem dX9_settingBehind_55 : decode cX9_settingBehind 55 = .ok (.invokevirtual 144, 3) := by decide +kernel
theorem dX9_settingBehind_58 : decode cX9_settingBehind 58 = .ok (.istore_n 3, 1) := by decide +kernel
theorem dX9_settingBehind_59 : decode cX9_settingBehind 59 = .ok (.aload_n 2, 1) := by decide +kernel
theorem dX9_settingBehind_60 : decode cX9_settingBehind 60 = .ok (.aload_n 0, 1) := by decide +kernel
theorem dX9_settingBehind_61 : decode cX9_settingBehind 61 = .ok (.getfield 46, 3) := by decide +kernel
theorem dX9_settingBehind_64 : decode cX9_settingBehind 64 = .ok (.invokevirtual 201, 3) := by decide +kernel
theorem dX9_settingBehind_67 : decode cX9_settingBehind 67 = .ok (.iload_n 3, 1) := by decide +kernel
theorem dX9_settingBehind_68 : decode cX9_settingBehind 68 = .ok (.invokevirtual 271, 3) := by decide +kernel
theorem dX9_settingBehind_71 : decode cX9_settingBehind 71 = .ok (.ifCond .eq 11, 3) := by decide +kernel
theorem dX9_settingBehind_74 : decode cX9_settingBehind 74 = .ok (.aload_n 2, 1) := by decide +kernel
theorem dX9_settingBehind_75 : decode cX9_settingBehind 75 = .ok (.iload_n 3, 1) := by decide +kernel
theorem dX9_settingBehind_76 : decode cX9_settingBehind 76 = .ok (.invokevirtual 171, 3) := by decide +kernel
theorem dX9_settingBehind_79 : decode cX9_settingBehind 79 = .ok (.goto 4, 3) := by decide +kernel
theorem dX9_settingBehind_82 : decode cX9_settingBehind 82 = .ok (.iconst (-1), 1) := by decide +kernel
theorem dX9_settingBehind_83 : decode cX9_settingBehind 83 = .ok (.ireturn, 1) := by decide +kernel
def f_X9_settingBehind (σ : St) (v1 : Int32) : Option (Int32 × St) :=
  calP (f_X5_hunters σ) fun r1 =>
    calP (f_X9_settings σ r1) fun r2 =>
      ckN r2 3 <|
        (if v1 = (-1 : Int32) then
          calP (f_X5_hunters σ) fun r3 =>
            calP (f_X5_speed σ) fun r4 =>
              cal (f_X9_chase σ r3 r4) fun r5 s6 =>
                ckN r5 9 <|
                  calP (f_X5_setting s6) fun r7 =>
                    calP (f_X5_place s6) fun r8 =>
                      calP (f_X0_bestMove s6 r5 r7 r8) fun r9 =>
                        some (r9, s6)
           else
          calP (f_X6_told σ r2 v1) fun r10 =>
            calP (f_X5_setting σ) fun r11 =>
              calP (f_X6_canStep σ r2 r11 r10) fun r12 =>
                (if r12 = 0 then
                  some ((-1 : Int32), σ)
                   else
                  calP (f_X6_rising σ r2 r10) fun r13 =>
                    some (r13, σ)))
set_option maxHeartbeats 4000000 in
set_option maxRecDepth 100000 in
theorem c_X9_settingBehind (l : Launch) (E : Ev) (hF : Full E) (σ : St) (v1 : Int32) : Ctr l (en2 enI) (fun q => q.2) E md_X9_settingBehind [rV E 0, .int v1] σ (f_X9_settingBehind σ v1) := by
  refine ctr_of rfl (Nat.le_of_ble_eq_true rfl) (fun Γ => ?_)
  show Sim _ Γ _ E md_X9_settingBehind σ 0 [(0, rV E 0), (1, .int v1)] [] _
  unfold f_X9_settingBehind
  refine s_aload_n dX9_settingBehind_0 0 rfl rfl ?_
  refine s_aload_n dX9_settingBehind_1 0 rfl rfl ?_
  refine s_getr (b := 13) gf_X9_46 rfl (m0 hF) k0 (ft_of k0 rfl) (hF.2 _ _) rfl dX9_settingBehind_2 ?_
  refine s_callVpI (As := []) mf_X5_hunters vf_X5_hunters ml_X9_185 (c_X5_hunters _ E hF σ) (m13 hF) k13 (by decide) rfl rfl rfl rfl (Nat.le_of_ble_eq_true rfl) rfl dX9_settingBehind_5 (fun r1 => ?_)
  refine s_callVpM (As := [.int r1]) mf_X9_settings vf_X9_settings ml_X9_141 (c_X9_settings _ E hF σ r1) (m0 hF) k0 (by decide) rfl rfl rfl rfl (Nat.le_of_ble_eq_true rfl) rfl dX9_settingBehind_8 (fun r2 => ?_)
  refine s_ckN (fun hr2 => ?_)
  refine s_astore_n [(2, rV E (32 + 2 * r2)), (0, rV E 0), (1, .int v1)] dX9_settingBehind_11 rfl (by decide) rfl ?_
  refine s_iload_n dX9_settingBehind_12 2 rfl rfl ?_
  refine s_iconst (v := -1) dX9_settingBehind_13 (by decide) ?_
  refine s_icmp_ne 53 dX9_settingBehind_14 (by decide) ?_ ?_
  · skip
    refine s_aload_n dX9_settingBehind_17 1 rfl rfl ?_
    refine s_aload_n dX9_settingBehind_18 1 rfl rfl ?_
    refine s_getr (b := 13) gf_X9_46 rfl (m0 hF) k0 (ft_of k0 rfl) (hF.2 _ _) rfl dX9_settingBehind_19 ?_
    refine s_callVpI (As := []) mf_X5_hunters vf_X5_hunters ml_X9_185 (c_X5_hunters _ E hF σ) (m13 hF) k13 (by decide) rfl rfl rfl rfl (Nat.le_of_ble_eq_true rfl) rfl dX9_settingBehind_22 (fun r3 => ?_)
    refine s_aload_n dX9_settingBehind_25 1 rfl rfl ?_
    refine s_getr (b := 13) gf_X9_46 rfl (m0 hF) k0 (ft_of k0 rfl) (hF.2 _ _) rfl dX9_settingBehind_26 ?_
    refine s_callVpI (As := []) mf_X5_speed vf_X5_speed ml_X9_268 (c_X5_speed _ E hF σ) (m13 hF) k13 (by decide) rfl rfl rfl rfl (Nat.le_of_ble_eq_true rfl) rfl dX9_settingBehind_29 (fun r4 => ?_)
    refine s_callVwC (As := [.int r3, .int r4]) mf_X9_chase vf_X9_chase ml_X9_137 (c_X9_chase _ E hF σ r3 r4) (m0 hF) k0 (by decide) rfl rfl rfl rfl (Nat.le_of_ble_eq_true rfl) rfl dX9_settingBehind_32 (fun r5 s6 => ?_)
    refine s_ckN (fun hr5 => ?_)
    refine s_aload_n dX9_settingBehind_35 1 rfl rfl ?_
    refine s_getr (b := 13) gf_X9_46 rfl (m0 hF) k0 (ft_of k0 rfl) (hF.2 _ _) rfl dX9_settingBehind_36 ?_
    refine s_callVpI (As := []) mf_X5_setting vf_X5_setting ml_X9_201 (c_X5_setting _ E hF s6) (m13 hF) k13 (by decide) rfl rfl rfl rfl (Nat.le_of_ble_eq_true rfl) rfl dX9_settingBehind_39 (fun r7 => ?_)
    refine s_aload_n dX9_settingBehind_42 1 rfl rfl ?_
    refine s_getr (b := 13) gf_X9_46 rfl (m0 hF) k0 (ft_of k0 rfl) (hF.2 _ _) rfl dX9_settingBehind_43 ?_
    refine s_callVpI (As := []) mf_X5_place vf_X5_place ml_X9_191 (c_X5_place _ E hF s6) (m13 hF) k13 (by decide) rfl rfl rfl rfl (Nat.le_of_ble_eq_true rfl) rfl dX9_settingBehind_46 (fun r8 => ?_)
    refine s_callVpI (As := [.int r7, .int r8]) mf_X0_bestMove vf_X0_bestMove ml_X9_165 (c_X0_bestMove _ E hF s6 r5 hr5 r7 r8) (mC hF hr5) (kC hr5) (by decide) rfl rfl rfl rfl (Nat.le_of_ble_eq_true rfl) rfl dX9_settingBehind_49 (fun r9 => ?_)
    exact s_ireturn rfl rfl rfl dX9_settingBehind_52
  · skip
    refine s_aload_n dX9_settingBehind_53 0 rfl rfl ?_
    refine s_iload_n dX9_settingBehind_54 2 rfl rfl ?_
    refine s_callVpI (As := [.int v1]) mf_X6_told vf_X6_told ml_X9_144 (c_X6_told _ E hF σ r2 hr2 v1) (mS hF hr2) (kS hr2) (by decide) rfl rfl rfl rfl (Nat.le_of_ble_eq_true rfl) rfl dX9_settingBehind_55 (fun r10 => ?_)
    refine s_istore_n [(3, .int r10), (2, rV E (32 + 2 * r2)), (0, rV E 0), (1, .int v1)] dX9_settingBehind_58 rfl (by decide) rfl ?_
    refine s_aload_n dX9_settingBehind_59 1 rfl rfl ?_
    refine s_aload_n dX9_settingBehind_60 2 rfl rfl ?_
    refine s_getr (b := 13) gf_X9_46 rfl (m0 hF) k0 (ft_of k0 rfl) (hF.2 _ _) rfl dX9_settingBehind_61 ?_
    refine s_callVpI (As := []) mf_X5_setting vf_X5_setting ml_X9_201 (c_X5_setting _ E hF σ) (m13 hF) k13 (by decide) rfl rfl rfl rfl (Nat.le_of_ble_eq_true rfl) rfl dX9_settingBehind_64 (fun r11 => ?_)
    refine s_iload_n dX9_settingBehind_67 0 rfl rfl ?_
    refine s_callVpI (As := [.int r11, .int r10]) mf_X6_canStep vf_X6_canStep ml_X9_271 (c_X6_canStep _ E hF σ r2 hr2 r11 r10) (mS hF hr2) (kS hr2) (by decide) rfl rfl rfl rfl (Nat.le_of_ble_eq_true rfl) rfl dX9_settingBehind_68 (fun r12 => ?_)
    refine s_if_eq 82 dX9_settingBehind_71 (by decide) ?_ ?_
    · skip
      refine s_iconst (v := -1) dX9_settingBehind_82 (by decide) ?_
      exact s_ireturn rfl rfl rfl dX9_settingBehind_83
    · skip
      refine s_aload_n dX9_settingBehind_74 1 rfl rfl ?_
      refine s_iload_n dX9_settingBehind_75 0 rfl rfl ?_
      refine s_callVpI (As := [.int r10]) mf_X6_rising vf_X6_rising ml_X9_171 (c_X6_rising _ E hF σ r2 hr2 r10) (mS hF hr2) (kS hr2) (by decide) rfl rfl rfl rfl (Nat.le_of_ble_eq_true rfl) rfl dX9_settingBehind_76 (fun r13 => ?_)
      refine s_goto 83 dX9_settingBehind_79 (by decide) ?_
      exact s_ireturn rfl rfl rfl dX9_settingBehind_83
theorem dX9_turn_0 : decode cX9_turn 0 = .ok (.aload_n 0, 1) := by decide +kernel
theorem dX9_turn_1 : decode cX9_turn 1 = .ok (.getfield 46, 3) := by decide +kernel
theorem dX9_turn_4 : decode cX9_turn 4 = .ok (.invokevirtual 178, 3) := by decide +kernel
theorem dX9_turn_7 : decode cX9_turn 7 = .ok (.ifCond .eq 10, 3) := by decide +kernel
theorem dX9_turn_10 : decode cX9_turn 10 = .ok (.aload_n 0, 1) := by decide +kernel
theorem dX9_turn_11 : decode cX9_turn 11 = .ok (.invokevirtual 182, 3) := by decide +kernel
theorem dX9_turn_14 : decode cX9_turn 14 = .ok (.ifCond .eq 6, 3) := by decide +kernel
theorem dX9_turn_17 : decode cX9_turn 17 = .ok (.bipush (-4), 2) := by decide +kernel
theorem dX9_turn_19 : decode cX9_turn 19 = .ok (.ireturn, 1) := by decide +kernel
theorem dX9_turn_20 : decode cX9_turn 20 = .ok (.aload_n 0, 1) := by decide +kernel
theorem dX9_turn_21 : decode cX9_turn 21 = .ok (.aload_n 0, 1) := by decide +kernel
theorem dX9_turn_22 : decode cX9_turn 22 = .ok (.getfield 46, 3) := by decide +kernel
theorem dX9_turn_25 : decode cX9_turn 25 = .ok (.invokevirtual 185, 3) := by decide +kernel
theorem dX9_turn_28 : decode cX9_turn 28 = .ok (.invokevirtual 141, 3) := by decide +kernel
theorem dX9_turn_31 : decode cX9_turn 31 = .ok (.astore_n 3, 1) := by decide +kernel
theorem dX9_turn_32 : decode cX9_turn 32 = .ok (.iload_n 1, 1) := by decide +kernel
theorem dX9_turn_33 : decode cX9_turn 33 = .ok (.iconst (-1), 1) := by decide +kernel
theorem dX9_turn_34 : decode cX9_turn 34 = .ok (.if_icmp .eq 15, 3) := by decide +kernel
theorem dX9_turn_37 : decode cX9_turn 37 = .ok (.aload_n 3, 1) := by decide +kernel
theorem dX9_turn_38 : decode cX9_turn 38 = .ok (.iload_n 1, 1) := by decide +kernel
theorem dX9_turn_39 : decode cX9_turn 39 = .ok (.invokevirtual 144, 3) := by decide +kernel
theorem dX9_turn_42 : decode cX9_turn 42 = .ok (.iconst (-1), 1) := by decide +kernel
theorem dX9_turn_43 : decode cX9_turn 43 = .ok (.if_icmp .ne 6, 3) := by decide +kernel
theorem dX9_turn_46 : decode cX9_turn 46 = .ok (.bipush (-2), 2) := by decide +kernel
theorem dX9_turn_48 : decode cX9_turn 48 = .ok (.ireturn, 1) := by decide +kernel
theorem dX9_turn_49 : decode cX9_turn 49 = .ok (.iload_n 2, 1) := by decide +kernel
theorem dX9_turn_50 : decode cX9_turn 50 = .ok (.iconst (-1), 1) := by decide +kernel
theorem dX9_turn_51 : decode cX9_turn 51 = .ok (.if_icmp .eq 17, 3) := by decide +kernel
theorem dX9_turn_54 : decode cX9_turn 54 = .ok (.aload_n 0, 1) := by decide +kernel
theorem dX9_turn_55 : decode cX9_turn 55 = .ok (.getfield 14, 3) := by decide +kernel
theorem dX9_turn_58 : decode cX9_turn 58 = .ok (.iload_n 2, 1) := by decide +kernel
theorem dX9_turn_59 : decode cX9_turn 59 = .ok (.invokevirtual 111, 3) := by decide +kernel
theorem dX9_turn_62 : decode cX9_turn 62 = .ok (.ifCond .ne 6, 3) := by decide +kernel
theorem dX9_turn_65 : decode cX9_turn 65 = .ok (.bipush (-2), 2) := by decide +kernel
theorem dX9_turn_67 : decode cX9_turn 67 = .ok (.ireturn, 1) := by decide +kernel
theorem dX9_turn_68 : decode cX9_turn 68 = .ok (.aload_n 0, 1) := by decide +kernel
theorem dX9_turn_69 : decode cX9_turn 69 = .ok (.iload_n 1, 1) := by decide +kernel
theorem dX9_turn_70 : decode cX9_turn 70 = .ok (.invokevirtual 188, 3) := by decide +kernel
theorem dX9_turn_73 : decode cX9_turn 73 = .ok (.istore 4, 2) := by decide +kernel
theorem dX9_turn_75 : decode cX9_turn 75 = .ok (.iload 4, 2) := by decide +kernel
theorem dX9_turn_77 : decode cX9_turn 77 = .ok (.iconst (-1), 1) := by decide +kernel
theorem dX9_turn_78 : decode cX9_turn 78 = .ok (.if_icmp .ne 6, 3) := by decide +kernel
theorem dX9_turn_81 : decode cX9_turn 81 = .ok (.bipush (-4), 2) := by decide +kernel
theorem dX9_turn_83 : decode cX9_turn 83 = .ok (.ireturn, 1) := by decide +kernel
theorem dX9_turn_84 : decode cX9_turn 84 = .ok (.aload_n 3, 1) := by decide +kernel
theorem dX9_turn_85 : decode cX9_turn 85 = .ok (.iload 4, 2) := by decide +kernel
theorem dX9_turn_87 : decode cX9_turn 87 = .ok (.aload_n 0, 1) := by decide +kernel
theorem dX9_turn_88 : decode cX9_turn 88 = .ok (.getfield 46, 3) := by decide +kernel
theorem dX9_turn_91 : decode cX9_turn 91 = .ok (.invokevirtual 191, 3) := by decide +kernel
theorem dX9_turn_94 : decode cX9_turn 94 = .ok (.invokevirtual 162, 3) := by decide +kernel
theorem dX9_turn_97 : decode cX9_turn 97 = .ok (.ifCond .eq 13, 3) := by decide +kernel
theorem dX9_turn_100 : decode cX9_turn 100 = .ok (.aload_n 0, 1) := by decide +kernel
theorem dX9_turn_101 : decode cX9_turn 101 = .ok (.getfield 46, 3) := by decide +kernel
theorem dX9_turn_104 : decode cX9_turn 104 = .ok (.invokevirtual 191, 3) := by decide +kernel
theorem dX9_turn_107 : decode cX9_turn 107 = .ok (.goto 10, 3) := by decide +kernel
theorem dX9_turn_110 : decode cX9_turn 110 = .ok (.aload_n 0, 1) := by decide +kernel
theorem dX9_turn_111 : decode cX9_turn 111 = .ok (.iload 4, 2) := by decide +kernel
theorem dX9_turn_113 : decode cX9_turn 113 = .ok (.iload_n 2, 1) := by decide +kernel
theorem dX9_turn_114 : decode cX9_turn 114 = .ok (.invokevirtual 194, 3) := by decide +kernel
theorem dX9_turn_117 : decode cX9_turn 117 = .ok (.istore 5, 2) := by decide +kernel
theorem dX9_turn_119 : decode cX9_turn 119 = .ok (.iload 5, 2) := by decide +kernel
theorem dX9_turn_121 : decode cX9_turn 121 = .ok (.iconst (-1), 1) := by decide +kernel
theorem dX9_turn_122 : decode cX9_turn 122 = .ok (.if_icmp .ne 6, 3) := by decide +kernel
theorem dX9_turn_125 : decode cX9_turn 125 = .ok (.bipush (-4), 2) := by decide +kernel
theorem dX9_turn_127 : decode cX9_turn 127 = .ok (.ireturn, 1) := by decide +kernel
theorem dX9_turn_128 : decode cX9_turn 128 = .ok (.aload_n 0, 1) := by decide +kernel
theorem dX9_turn_129 : decode cX9_turn 129 = .ok (.getfield 46, 3) := by decide +kernel
theorem dX9_turn_132 : decode cX9_turn 132 = .ok (.iload 4, 2) := by decide +kernel
theorem dX9_turn_134 : decode cX9_turn 134 = .ok (.iload 5, 2) := by decide +kernel
theorem dX9_turn_136 : decode cX9_turn 136 = .ok (.invokevirtual 197, 3) := by decide +kernel
theorem dX9_turn_139 : decode cX9_turn 139 = .ok (.aload_n 0, 1) := by decide +kernel
theorem dX9_turn_140 : decode cX9_turn 140 = .ok (.invokevirtual 182, 3) := by decide +kernel
theorem dX9_turn_143 : decode cX9_turn 143 = .ok (.ifCond .eq 7, 3) := by decide +kernel
theorem dX9_turn_146 : decode cX9_turn 146 = .ok (.iconst 1, 1) := by decide +kernel
theorem dX9_turn_147 : decode cX9_turn 147 = .ok (.goto 4, 3) := by decide +kernel
theorem dX9_turn_150 : decode cX9_turn 150 = .ok (.iconst 0, 1) := by decide +kernel
theorem dX9_turn_151 : decode cX9_turn 151 = .ok (.ireturn, 1) := by decide +kernel
def f_X9_turn (σ : St) (v1 : Int32) (v2 : Int32) : Option (Int32 × St) :=
  calP (f_X5_isOn σ) fun r1 =>
    (if r1 = 0 then
      some ((-4 : Int32), σ)
       else
      calP (f_X9_isCaught σ) fun r2 =>
        (if r2 = 0 then
          calP (f_X5_hunters σ) fun r3 =>
            calP (f_X9_settings σ r3) fun r4 =>
              ckN r4 3 <|
                jn0 (fun jk5 =>
                  (if v1 = (-1 : Int32) then
                    jk5
                     else
                    calP (f_X6_told σ r4 v1) fun r20 =>
                      (if r20 = (-1 : Int32) then
                        some ((-2 : Int32), σ)
                         else
                        jk5)))
                  (
                  jn0 (fun jk6 =>
                      (if v2 = (-1 : Int32) then
                        jk6
                         else
                        calP (f_X3_known σ v2) fun r19 =>
                          (if r19 = 0 then
                            some ((-2 : Int32), σ)
                             else
                            jk6)))
                      (
                      cal (f_X9_settingBehind σ v1) fun r7 s8 =>
                          (if r7 = (-1 : Int32) then
                            some ((-4 : Int32), s8)
                             else
                            calP (f_X5_place s8) fun r9 =>
                              calP (f_X6_holds s8 r4 r7 r9) fun r10 =>
                                jn2 (fun jk13 =>
                                  (if r10 = 0 then
                                    cal (f_X9_placeBehind s8 r7 v2) fun r16 s17 =>
                                      jk13 s17 r16
                                     else
                                    calP (f_X5_place s8) fun r18 =>
                                      jk13 s8 r18))
                                  (fun (s11 : St) (x12 : Int32) => 
                                  (if x12 = (-1 : Int32) then
                                      some ((-4 : Int32), s11)
                                       else
                                      cal (f_X5_go s11 r7 x12) fun _ s14 =>
                                        calP (f_X9_isCaught s14) fun r15 =>
                                          (if r15 = 0 then
                                            some ((0 : Int32), s14)
                                             else
                                            some ((1 : Int32), s14)))))))
           else
          some ((-4 : Int32), σ)))
set_option maxHeartbeats 4000000 in
set_option maxRecDepth 100000 in
theorem c_X9_turn (l : Launch) (E : Ev) (hF : Full E) (σ : St) (v1 : Int32) (v2 : Int32) : Ctr l (en2 enI) (fun q => q.2) E md_X9_turn [rV E 0, .int v1, .int v2] σ (f_X9_turn σ v1 v2) := by
  refine ctr_of rfl (Nat.le_of_ble_eq_true rfl) (fun Γ => ?_)
  show Sim _ Γ _ E md_X9_turn σ 0 [(0, rV E 0), (1, .int v1), (2, .int v2)] [] _
  unfold f_X9_turn
  refine s_aload_n dX9_turn_0 0 rfl rfl ?_
  refine s_getr (b := 13) gf_X9_46 rfl (m0 hF) k0 (ft_of k0 rfl) (hF.2 _ _) rfl dX9_turn_1 ?_
  refine s_callVpI (As := []) mf_X5_isOn vf_X5_isOn ml_X9_178 (c_X5_isOn _ E hF σ) (m13 hF) k13 (by decide) rfl rfl rfl rfl (Nat.le_of_ble_eq_true rfl) rfl dX9_turn_4 (fun r1 => ?_)
  refine s_if_eq 17 dX9_turn_7 (by decide) ?_ ?_
  · skip
    refine s_bipush (v := -4) dX9_turn_17 (by decide) ?_
    exact s_ireturn rfl rfl rfl dX9_turn_19
  · skip
    refine s_aload_n dX9_turn_10 0 rfl rfl ?_
    refine s_callVpI (As := []) mf_X9_isCaught vf_X9_isCaught ml_X9_182 (c_X9_isCaught _ E hF σ) (m0 hF) k0 (by decide) rfl rfl rfl rfl (Nat.le_of_ble_eq_true rfl) rfl dX9_turn_11 (fun r2 => ?_)
    refine s_if_eq 20 dX9_turn_14 (by decide) ?_ ?_
    · skip
      refine s_aload_n dX9_turn_20 0 rfl rfl ?_
      refine s_aload_n dX9_turn_21 0 rfl rfl ?_
      refine s_getr (b := 13) gf_X9_46 rfl (m0 hF) k0 (ft_of k0 rfl) (hF.2 _ _) rfl dX9_turn_22 ?_
      refine s_callVpI (As := []) mf_X5_hunters vf_X5_hunters ml_X9_185 (c_X5_hunters _ E hF σ) (m13 hF) k13 (by decide) rfl rfl rfl rfl (Nat.le_of_ble_eq_true rfl) rfl dX9_turn_25 (fun r3 => ?_)
      refine s_callVpM (As := [.int r3]) mf_X9_settings vf_X9_settings ml_X9_141 (c_X9_settings _ E hF σ r3) (m0 hF) k0 (by decide) rfl rfl rfl rfl (Nat.le_of_ble_eq_true rfl) rfl dX9_turn_28 (fun r4 => ?_)
      refine s_ckN (fun hr4 => ?_)
      refine s_astore_n [(3, rV E (32 + 2 * r4)), (0, rV E 0), (1, .int v1), (2, .int v2)] dX9_turn_31 rfl (by decide) rfl ?_
      refine s_iload_n dX9_turn_32 2 rfl rfl ?_
      refine s_iconst (v := -1) dX9_turn_33 (by decide) ?_
      refine s_jn0 σ 49 [(0, rV E 0), (1, .int v1), (2, .int v2), (3, rV E (32 + 2 * r4))] [] ?_ ?_
      · skip
        refine s_iload_n dX9_turn_49 2 rfl rfl ?_
        refine s_iconst (v := -1) dX9_turn_50 (by decide) ?_
        refine s_jn0 σ 68 [(0, rV E 0), (1, .int v1), (2, .int v2), (3, rV E (32 + 2 * r4))] [] ?_ ?_
        · skip
          refine s_aload_n dX9_turn_68 0 rfl rfl ?_
          refine s_iload_n dX9_turn_69 1 rfl rfl ?_
          refine s_callVwI (As := [.int v1]) mf_X9_settingBehind vf_X9_settingBehind ml_X9_188 (c_X9_settingBehind _ E hF σ v1) (m0 hF) k0 (by decide) rfl rfl rfl rfl (Nat.le_of_ble_eq_true rfl) rfl dX9_turn_70 (fun r7 s8 => ?_)
          refine s_istore [(4, .int r7), (0, rV E 0), (1, .int v1), (2, .int v2), (3, rV E (32 + 2 * r4))] dX9_turn_73 (by decide) rfl ?_
          refine s_iload dX9_turn_75 0 rfl ?_
          refine s_iconst (v := -1) dX9_turn_77 (by decide) ?_
          refine s_icmp_ne 84 dX9_turn_78 (by decide) ?_ ?_
          · skip
            refine s_bipush (v := -4) dX9_turn_81 (by decide) ?_
            exact s_ireturn rfl rfl rfl dX9_turn_83
          · skip
            refine s_aload_n dX9_turn_84 4 rfl rfl ?_
            refine s_iload dX9_turn_85 0 rfl ?_
            refine s_aload_n dX9_turn_87 1 rfl rfl ?_
            refine s_getr (b := 13) gf_X9_46 rfl (m0 hF) k0 (ft_of k0 rfl) (hF.2 _ _) rfl dX9_turn_88 ?_
            refine s_callVpI (As := []) mf_X5_place vf_X5_place ml_X9_191 (c_X5_place _ E hF s8) (m13 hF) k13 (by decide) rfl rfl rfl rfl (Nat.le_of_ble_eq_true rfl) rfl dX9_turn_91 (fun r9 => ?_)
            refine s_callVpI (As := [.int r7, .int r9]) mf_X6_holds vf_X6_holds ml_X9_162 (c_X6_holds _ E hF s8 r4 hr4 r7 r9) (mS hF hr4) (kS hr4) (by decide) rfl rfl rfl rfl (Nat.le_of_ble_eq_true rfl) rfl dX9_turn_94 (fun r10 => ?_)
            refine s_jn2 117 (fun s11 x12 => s11) (fun s11 x12 => [(0, rV E 0), (4, .int r7)]) (fun s11 x12 => [.int x12]) ?_ ?_
            · intro s11 x12
              refine s_istore [(5, .int x12), (0, rV E 0), (4, .int r7)] dX9_turn_117 (by decide) rfl ?_
              refine s_iload dX9_turn_119 0 rfl ?_
              refine s_iconst (v := -1) dX9_turn_121 (by decide) ?_
              refine s_icmp_ne 128 dX9_turn_122 (by decide) ?_ ?_
              · skip
                refine s_bipush (v := -4) dX9_turn_125 (by decide) ?_
                exact s_ireturn rfl rfl rfl dX9_turn_127
              · skip
                refine s_aload_n dX9_turn_128 1 rfl rfl ?_
                refine s_getr (b := 13) gf_X9_46 rfl (m0 hF) k0 (ft_of k0 rfl) (hF.2 _ _) rfl dX9_turn_129 ?_
                refine s_iload dX9_turn_132 2 rfl ?_
                refine s_iload dX9_turn_134 0 rfl ?_
                refine s_callVwV (As := [.int r7, .int x12]) mf_X5_go vf_X5_go ml_X9_197 (c_X5_go _ E hF s11 r7 x12) (m13 hF) k13 (by decide) rfl rfl rfl rfl (Nat.le_of_ble_eq_true rfl) rfl dX9_turn_136 (fun _ s14 => ?_)
                refine s_aload_n dX9_turn_139 1 rfl rfl ?_
                refine s_callVpI (As := []) mf_X9_isCaught vf_X9_isCaught ml_X9_182 (c_X9_isCaught _ E hF s14) (m0 hF) k0 (by decide) rfl rfl rfl rfl (Nat.le_of_ble_eq_true rfl) rfl dX9_turn_140 (fun r15 => ?_)
                refine s_if_eq 150 dX9_turn_143 (by decide) ?_ ?_
                · skip
                  refine s_iconst (v := 0) dX9_turn_150 (by decide) ?_
                  exact s_ireturn rfl rfl rfl dX9_turn_151
                · skip
                  refine s_iconst (v := 1) dX9_turn_146 (by decide) ?_
                  refine s_goto 151 dX9_turn_147 (by decide) ?_
                  exact s_ireturn rfl rfl rfl dX9_turn_151
            · intro jk13 hjk13
              refine s_if_eq 110 dX9_turn_97 (by decide) ?_ ?_
              · skip
                refine s_aload_n dX9_turn_110 1 rfl rfl ?_
                refine s_iload dX9_turn_111 0 rfl ?_
                refine s_iload_n dX9_turn_113 3 rfl rfl ?_
                refine s_callVwI (As := [.int r7, .int v2]) mf_X9_placeBehind vf_X9_placeBehind ml_X9_194 (c_X9_placeBehind _ E hF s8 r7 v2) (m0 hF) k0 (by decide) rfl rfl rfl rfl (Nat.le_of_ble_eq_true rfl) rfl dX9_turn_114 (fun r16 s17 => ?_)
                refine s_sub [1, 0] rfl ?_
                exact hjk13 s17 r16
              · skip
                refine s_aload_n dX9_turn_100 1 rfl rfl ?_
                refine s_getr (b := 13) gf_X9_46 rfl (m0 hF) k0 (ft_of k0 rfl) (hF.2 _ _) rfl dX9_turn_101 ?_
                refine s_callVpI (As := []) mf_X5_place vf_X5_place ml_X9_191 (c_X5_place _ E hF s8) (m13 hF) k13 (by decide) rfl rfl rfl rfl (Nat.le_of_ble_eq_true rfl) rfl dX9_turn_104 (fun r18 => ?_)
                refine s_goto 117 dX9_turn_107 (by decide) ?_
                refine s_sub [1, 0] rfl ?_
                exact hjk13 s8 r18
        · intro jk6 hjk6
          refine s_icmp_eq 68 dX9_turn_51 (by decide) ?_ ?_
          · skip
            exact hjk6
          · skip
            refine s_aload_n dX9_turn_54 0 rfl rfl ?_
            refine s_getr (b := 1) gf_X9_14 rfl (m0 hF) k0 (ft_of k0 rfl) (hF.2 _ _) rfl dX9_turn_55 ?_
            refine s_iload_n dX9_turn_58 2 rfl rfl ?_
            refine s_callVpI (As := [.int v2]) mf_X3_known vf_X3_known ml_X9_111 (c_X3_known _ E hF σ v2) (m1 hF) k1 (by decide) rfl rfl rfl rfl (Nat.le_of_ble_eq_true rfl) rfl dX9_turn_59 (fun r19 => ?_)
            refine s_if_ne 68 dX9_turn_62 (by decide) ?_ ?_
            · skip
              refine s_bipush (v := -2) dX9_turn_65 (by decide) ?_
              exact s_ireturn rfl rfl rfl dX9_turn_67
            · skip
              exact hjk6
      · intro jk5 hjk5
        refine s_icmp_eq 49 dX9_turn_34 (by decide) ?_ ?_
        · skip
          refine s_sub [1, 2, 3, 0] rfl ?_
          exact hjk5
        · skip
          refine s_aload_n dX9_turn_37 0 rfl rfl ?_
          refine s_iload_n dX9_turn_38 2 rfl rfl ?_
          refine s_callVpI (As := [.int v1]) mf_X6_told vf_X6_told ml_X9_144 (c_X6_told _ E hF σ r4 hr4 v1) (mS hF hr4) (kS hr4) (by decide) rfl rfl rfl rfl (Nat.le_of_ble_eq_true rfl) rfl dX9_turn_39 (fun r20 => ?_)
          refine s_iconst (v := -1) dX9_turn_42 (by decide) ?_
          refine s_icmp_ne 49 dX9_turn_43 (by decide) ?_ ?_
          · skip
            refine s_bipush (v := -2) dX9_turn_46 (by decide) ?_
            exact s_ireturn rfl rfl rfl dX9_turn_48
          · skip
            refine s_sub [1, 2, 3, 0] rfl ?_
            exact hjk5
    · skip
      refine s_bipush (v := -4) dX9_turn_17 (by decide) ?_
      exact s_ireturn rfl rfl rfl dX9_turn_19
theorem dX9_now_0 : decode cX9_now 0 = .ok (.iload_n 1, 1) := by decide +kernel
theorem dX9_now_1 : decode cX9_now 1 = .ok (.ifCond .lt 8, 3) := by decide +kernel
theorem dX9_now_4 : decode cX9_now 4 = .ok (.iload_n 1, 1) := by decide +kernel
theorem dX9_now_5 : decode cX9_now 5 = .ok (.iconst 3, 1) := by decide +kernel
theorem dX9_now_6 : decode cX9_now 6 = .ok (.if_icmp .le 6, 3) := by decide +kernel
theorem dX9_now_9 : decode cX9_now 9 = .ok (.bipush (-3), 2) := by decide +kernel
theorem dX9_now_11 : decode cX9_now 11 = .ok (.ireturn, 1) := by decide +kernel
theorem dX9_now_12 : decode cX9_now 12 = .ok (.aload_n 0, 1) := by decide +kernel
theorem dX9_now_13 : decode cX9_now 13 = .ok (.getfield 46, 3) := by decide +kernel
theorem dX9_now_16 : decode cX9_now 16 = .ok (.invokevirtual 178, 3) := by decide +kernel
theorem dX9_now_19 : decode cX9_now 19 = .ok (.ifCond .ne 6, 3) := by decide +kernel
theorem dX9_now_22 : decode cX9_now 22 = .ok (.bipush (-4), 2) := by decide +kernel
theorem dX9_now_24 : decode cX9_now 24 = .ok (.ireturn, 1) := by decide +kernel
theorem dX9_now_25 : decode cX9_now 25 = .ok (.iload_n 1, 1) := by decide +kernel
theorem dX9_now_26 : decode cX9_now 26 = .ok (.tableswitch 50 0 2 #[26, 34, 42], 26) := by decide +kernel
theorem dX9_now_52 : decode cX9_now 52 = .ok (.aload_n 0, 1) := by decide +kernel
theorem dX9_now_53 : decode cX9_now 53 = .ok (.getfield 46, 3) := by decide +kernel
theorem dX9_now_56 : decode cX9_now 56 = .ok (.invokevirtual 201, 3) := by decide +kernel
theorem dX9_now_59 : decode cX9_now 59 = .ok (.ireturn, 1) := by decide +kernel
theorem dX9_now_60 : decode cX9_now 60 = .ok (.aload_n 0, 1) := by decide +kernel
theorem dX9_now_61 : decode cX9_now 61 = .ok (.getfield 46, 3) := by decide +kernel
theorem dX9_now_64 : decode cX9_now 64 = .ok (.invokevirtual 191, 3) := by decide +kernel
theorem dX9_now_67 : decode cX9_now 67 = .ok (.ireturn, 1) := by decide +kernel
theorem dX9_now_68 : decode cX9_now 68 = .ok (.aload_n 0, 1) := by decide +kernel
theorem dX9_now_69 : decode cX9_now 69 = .ok (.getfield 46, 3) := by decide +kernel
theorem dX9_now_72 : decode cX9_now 72 = .ok (.invokevirtual 204, 3) := by decide +kernel
theorem dX9_now_75 : decode cX9_now 75 = .ok (.ireturn, 1) := by decide +kernel
theorem dX9_now_76 : decode cX9_now 76 = .ok (.aload_n 0, 1) := by decide +kernel
theorem dX9_now_77 : decode cX9_now 77 = .ok (.invokevirtual 182, 3) := by decide +kernel
theorem dX9_now_80 : decode cX9_now 80 = .ok (.ifCond .eq 7, 3) := by decide +kernel
theorem dX9_now_83 : decode cX9_now 83 = .ok (.iconst 1, 1) := by decide +kernel
theorem dX9_now_84 : decode cX9_now 84 = .ok (.goto 4, 3) := by decide +kernel
theorem dX9_now_87 : decode cX9_now 87 = .ok (.iconst 0, 1) := by decide +kernel
theorem dX9_now_88 : decode cX9_now 88 = .ok (.ireturn, 1) := by decide +kernel
def f_X9_now (σ : St) (v1 : Int32) : Option Int32 :=
  (if v1 < 0 then
    some (-3 : Int32)
     else
    (if (3 : Int32) < v1 then
      some (-3 : Int32)
       else
      calP (f_X5_isOn σ) fun r1 =>
        (if r1 = 0 then
          some (-4 : Int32)
           else
          (if v1 = 0 then
            calP (f_X5_setting σ) fun r3 =>
              some r3
             else
            (if v1 = 1 then
              calP (f_X5_place σ) fun r4 =>
                some r4
               else
              (if v1 = 2 then
                calP (f_X5_gone σ) fun r5 =>
                  some r5
                 else
                calP (f_X9_isCaught σ) fun r2 =>
                  (if r2 = 0 then
                    some (0 : Int32)
                     else
                    some (1 : Int32))))))))
set_option maxHeartbeats 4000000 in
set_option maxRecDepth 100000 in
theorem c_X9_now (l : Launch) (E : Ev) (hF : Full E) (σ : St) (v1 : Int32) : Ctr l enI (fun _ => σ) E md_X9_now [rV E 0, .int v1] σ (f_X9_now σ v1) := by
  refine ctr_of rfl (Nat.le_of_ble_eq_true rfl) (fun Γ => ?_)
  show Sim _ Γ _ E md_X9_now σ 0 [(0, rV E 0), (1, .int v1)] [] _
  unfold f_X9_now
  refine s_iload_n dX9_now_0 1 rfl rfl ?_
  refine s_if_lt 9 dX9_now_1 (by decide) ?_ ?_
  · skip
    refine s_bipush (v := -3) dX9_now_9 (by decide) ?_
    exact s_ireturn rfl rfl rfl dX9_now_11
  · skip
    refine s_iload_n dX9_now_4 1 rfl rfl ?_
    refine s_iconst (v := 3) dX9_now_5 (by decide) ?_
    refine s_icmp_le 12 dX9_now_6 (by decide) ?_ ?_
    · skip
      refine s_bipush (v := -3) dX9_now_9 (by decide) ?_
      exact s_ireturn rfl rfl rfl dX9_now_11
    · skip
      refine s_aload_n dX9_now_12 0 rfl rfl ?_
      refine s_getr (b := 13) gf_X9_46 rfl (m0 hF) k0 (ft_of k0 rfl) (hF.2 _ _) rfl dX9_now_13 ?_
      refine s_callVpI (As := []) mf_X5_isOn vf_X5_isOn ml_X9_178 (c_X5_isOn _ E hF σ) (m13 hF) k13 (by decide) rfl rfl rfl rfl (Nat.le_of_ble_eq_true rfl) rfl dX9_now_16 (fun r1 => ?_)
      refine s_if_ne 25 dX9_now_19 (by decide) ?_ ?_
      · skip
        refine s_bipush (v := -4) dX9_now_22 (by decide) ?_
        exact s_ireturn rfl rfl rfl dX9_now_24
      · skip
        refine s_iload_n dX9_now_25 1 rfl rfl ?_
        refine s_tsw3 (tD := 76) (t0 := 52) (t1 := 60) (t2 := 68) dX9_now_26 (by decide) (by decide) (by decide) (by decide) ?_ ?_ ?_ ?_
        · skip
          refine s_aload_n dX9_now_76 0 rfl rfl ?_
          refine s_callVpI (As := []) mf_X9_isCaught vf_X9_isCaught ml_X9_182 (c_X9_isCaught _ E hF σ) (m0 hF) k0 (by decide) rfl rfl rfl rfl (Nat.le_of_ble_eq_true rfl) rfl dX9_now_77 (fun r2 => ?_)
          refine s_if_eq 87 dX9_now_80 (by decide) ?_ ?_
          · skip
            refine s_iconst (v := 0) dX9_now_87 (by decide) ?_
            exact s_ireturn rfl rfl rfl dX9_now_88
          · skip
            refine s_iconst (v := 1) dX9_now_83 (by decide) ?_
            refine s_goto 88 dX9_now_84 (by decide) ?_
            exact s_ireturn rfl rfl rfl dX9_now_88
        · skip
          refine s_aload_n dX9_now_52 0 rfl rfl ?_
          refine s_getr (b := 13) gf_X9_46 rfl (m0 hF) k0 (ft_of k0 rfl) (hF.2 _ _) rfl dX9_now_53 ?_
          refine s_callVpI (As := []) mf_X5_setting vf_X5_setting ml_X9_201 (c_X5_setting _ E hF σ) (m13 hF) k13 (by decide) rfl rfl rfl rfl (Nat.le_of_ble_eq_true rfl) rfl dX9_now_56 (fun r3 => ?_)
          exact s_ireturn rfl rfl rfl dX9_now_59
        · skip
          refine s_aload_n dX9_now_60 0 rfl rfl ?_
          refine s_getr (b := 13) gf_X9_46 rfl (m0 hF) k0 (ft_of k0 rfl) (hF.2 _ _) rfl dX9_now_61 ?_
          refine s_callVpI (As := []) mf_X5_place vf_X5_place ml_X9_191 (c_X5_place _ E hF σ) (m13 hF) k13 (by decide) rfl rfl rfl rfl (Nat.le_of_ble_eq_true rfl) rfl dX9_now_64 (fun r4 => ?_)
          exact s_ireturn rfl rfl rfl dX9_now_67
        · skip
          refine s_aload_n dX9_now_68 0 rfl rfl ?_
          refine s_getr (b := 13) gf_X9_46 rfl (m0 hF) k0 (ft_of k0 rfl) (hF.2 _ _) rfl dX9_now_69 ?_
          refine s_callVpI (As := []) mf_X5_gone vf_X5_gone ml_X9_204 (c_X5_gone _ E hF σ) (m13 hF) k13 (by decide) rfl rfl rfl rfl (Nat.le_of_ble_eq_true rfl) rfl dX9_now_72 (fun r5 => ?_)
          exact s_ireturn rfl rfl rfl dX9_now_75
theorem dX9_spread_0 : decode cX9_spread 0 = .ok (.iload_n 1, 1) := by decide +kernel
theorem dX9_spread_1 : decode cX9_spread 1 = .ok (.iconst 1, 1) := by decide +kernel
theorem dX9_spread_2 : decode cX9_spread 2 = .ok (.if_icmp .lt 19, 3) := by decide +kernel
theorem dX9_spread_5 : decode cX9_spread 5 = .ok (.iload_n 1, 1) := by decide +kernel
theorem dX9_spread_6 : decode cX9_spread 6 = .ok (.iconst 2, 1) := by decide +kernel
theorem dX9_spread_7 : decode cX9_spread 7 = .ok (.if_icmp .gt 14, 3) := by decide +kernel
theorem dX9_spread_10 : decode cX9_spread 10 = .ok (.aload_n 0, 1) := by decide +kernel
theorem dX9_spread_11 : decode cX9_spread 11 = .ok (.getfield 14, 3) := by decide +kernel
theorem dX9_spread_14 : decode cX9_spread 14 = .ok (.iload_n 3, 1) := by decide +kernel
theorem dX9_spread_15 : decode cX9_spread 15 = .ok (.invokevirtual 207, 3) := by decide +kernel
theorem dX9_spread_18 : decode cX9_spread 18 = .ok (.ifCond .ne 6, 3) := by decide +kernel
theorem dX9_spread_21 : decode cX9_spread 21 = .ok (.bipush (-3), 2) := by decide +kernel
theorem dX9_spread_23 : decode cX9_spread 23 = .ok (.ireturn, 1) := by decide +kernel
theorem dX9_spread_24 : decode cX9_spread 24 = .ok (.aload_n 0, 1) := by decide +kernel
theorem dX9_spread_25 : decode cX9_spread 25 = .ok (.iload_n 1, 1) := by decide +kernel
theorem dX9_spread_26 : decode cX9_spread 26 = .ok (.invokevirtual 141, 3) := by decide +kernel
theorem dX9_spread_29 : decode cX9_spread 29 = .ok (.iload_n 2, 1) := by decide +kernel
theorem dX9_spread_30 : decode cX9_spread 30 = .ok (.invokevirtual 144, 3) := by decide +kernel
theorem dX9_spread_33 : decode cX9_spread 33 = .ok (.istore 4, 2) := by decide +kernel
theorem dX9_spread_35 : decode cX9_spread 35 = .ok (.iload 4, 2) := by decide +kernel
theorem dX9_spread_37 : decode cX9_spread 37 = .ok (.iconst (-1), 1) := by decide +kernel
theorem dX9_spread_38 : decode cX9_spread 38 = .ok (.if_icmp .ne 8, 3) := by decide +kernel
theorem dX9_spread_41 : decode cX9_spread 41 = .ok (.bipush (-2), 2) := by decide +kernel
theorem dX9_spread_43 : decode cX9_spread 43 = .ok (.goto 21, 3) := by decide +kernel
theorem dX9_spread_46 : decode cX9_spread 46 = .ok (.aload_n 0, 1) := by decide +kernel
theorem dX9_spread_47 : decode cX9_spread 47 = .ok (.getfield 14, 3) := by decide +kernel
theorem dX9_spread_50 : decode cX9_spread 50 = .ok (.aload_n 0, 1) := by decide +kernel
theorem dX9_spread_51 : decode cX9_spread 51 = .ok (.iload_n 1, 1) := by decide +kernel
theorem dX9_spread_52 : decode cX9_spread 52 = .ok (.invokevirtual 141, 3) := by decide +kernel
theorem dX9_spread_55 : decode cX9_spread 55 = .ok (.iload 4, 2) := by decide +kernel
theorem dX9_spread_57 : decode cX9_spread 57 = .ok (.invokevirtual 210, 3) := by decide +kernel
theorem dX9_spread_60 : decode cX9_spread 60 = .ok (.iload_n 3, 1) := by decide +kernel
theorem dX9_spread_61 : decode cX9_spread 61 = .ok (.invokevirtual 213, 3) := by decide +kernel
theorem dX9_spread_64 : decode cX9_spread 64 = .ok (.ireturn, 1) := by decide +kernel
def f_X9_spread (σ : St) (v1 : Int32) (v2 : Int32) (v3 : Int32) : Option Int32 :=
  (if v1 < (1 : Int32) then
    some (-3 : Int32)
     else
    (if (2 : Int32) < v1 then
      some (-3 : Int32)
       else
      calP (f_X3_holdsAll σ v3) fun r1 =>
        (if r1 = 0 then
          some (-3 : Int32)
           else
          calP (f_X9_settings σ v1) fun r2 =>
            ckN r2 3 <|
              calP (f_X6_told σ r2 v2) fun r3 =>
                (if r3 = (-1 : Int32) then
                  some (-2 : Int32)
                   else
                  calP (f_X9_settings σ v1) fun r4 =>
                    ckN r4 3 <|
                      calP (f_X6_placesOf σ r4 r3) fun r5 =>
                        calP (f_X3_leftBehind σ r5 v3) fun r6 =>
                          some r6))))
set_option maxHeartbeats 4000000 in
set_option maxRecDepth 100000 in
theorem c_X9_spread (l : Launch) (E : Ev) (hF : Full E) (σ : St) (v1 : Int32) (v2 : Int32) (v3 : Int32) : Ctr l enI (fun _ => σ) E md_X9_spread [rV E 0, .int v1, .int v2, .int v3] σ (f_X9_spread σ v1 v2 v3) := by
  refine ctr_of rfl (Nat.le_of_ble_eq_true rfl) (fun Γ => ?_)
  show Sim _ Γ _ E md_X9_spread σ 0 [(0, rV E 0), (1, .int v1), (2, .int v2), (3, .int v3)] [] _
  unfold f_X9_spread
  refine s_iload_n dX9_spread_0 1 rfl rfl ?_
  refine s_iconst (v := 1) dX9_spread_1 (by decide) ?_
  refine s_icmp_lt 21 dX9_spread_2 (by decide) ?_ ?_
  · skip
    refine s_bipush (v := -3) dX9_spread_21 (by decide) ?_
    exact s_ireturn rfl rfl rfl dX9_spread_23
  · skip
    refine s_iload_n dX9_spread_5 1 rfl rfl ?_
    refine s_iconst (v := 2) dX9_spread_6 (by decide) ?_
    refine s_icmp_gt 21 dX9_spread_7 (by decide) ?_ ?_
    · skip
      refine s_bipush (v := -3) dX9_spread_21 (by decide) ?_
      exact s_ireturn rfl rfl rfl dX9_spread_23
    · skip
      refine s_aload_n dX9_spread_10 0 rfl rfl ?_
      refine s_getr (b := 1) gf_X9_14 rfl (m0 hF) k0 (ft_of k0 rfl) (hF.2 _ _) rfl dX9_spread_11 ?_
      refine s_iload_n dX9_spread_14 3 rfl rfl ?_
      refine s_callVpI (As := [.int v3]) mf_X3_holdsAll vf_X3_holdsAll ml_X9_207 (c_X3_holdsAll _ E hF σ v3) (m1 hF) k1 (by decide) rfl rfl rfl rfl (Nat.le_of_ble_eq_true rfl) rfl dX9_spread_15 (fun r1 => ?_)
      refine s_if_ne 24 dX9_spread_18 (by decide) ?_ ?_
      · skip
        refine s_bipush (v := -3) dX9_spread_21 (by decide) ?_
        exact s_ireturn rfl rfl rfl dX9_spread_23
      · skip
        refine s_aload_n dX9_spread_24 0 rfl rfl ?_
        refine s_iload_n dX9_spread_25 1 rfl rfl ?_
        refine s_callVpM (As := [.int v1]) mf_X9_settings vf_X9_settings ml_X9_141 (c_X9_settings _ E hF σ v1) (m0 hF) k0 (by decide) rfl rfl rfl rfl (Nat.le_of_ble_eq_true rfl) rfl dX9_spread_26 (fun r2 => ?_)
        refine s_ckN (fun hr2 => ?_)
        refine s_iload_n dX9_spread_29 2 rfl rfl ?_
        refine s_callVpI (As := [.int v2]) mf_X6_told vf_X6_told ml_X9_144 (c_X6_told _ E hF σ r2 hr2 v2) (mS hF hr2) (kS hr2) (by decide) rfl rfl rfl rfl (Nat.le_of_ble_eq_true rfl) rfl dX9_spread_30 (fun r3 => ?_)
        refine s_istore [(4, .int r3), (0, rV E 0), (1, .int v1), (2, .int v2), (3, .int v3)] dX9_spread_33 (by decide) rfl ?_
        refine s_iload dX9_spread_35 0 rfl ?_
        refine s_iconst (v := -1) dX9_spread_37 (by decide) ?_
        refine s_icmp_ne 46 dX9_spread_38 (by decide) ?_ ?_
        · skip
          refine s_bipush (v := -2) dX9_spread_41 (by decide) ?_
          refine s_goto 64 dX9_spread_43 (by decide) ?_
          exact s_ireturn rfl rfl rfl dX9_spread_64
        · skip
          refine s_aload_n dX9_spread_46 1 rfl rfl ?_
          refine s_getr (b := 1) gf_X9_14 rfl (m0 hF) k0 (ft_of k0 rfl) (hF.2 _ _) rfl dX9_spread_47 ?_
          refine s_aload_n dX9_spread_50 1 rfl rfl ?_
          refine s_iload_n dX9_spread_51 2 rfl rfl ?_
          refine s_callVpM (As := [.int v1]) mf_X9_settings vf_X9_settings ml_X9_141 (c_X9_settings _ E hF σ v1) (m0 hF) k0 (by decide) rfl rfl rfl rfl (Nat.le_of_ble_eq_true rfl) rfl dX9_spread_52 (fun r4 => ?_)
          refine s_ckN (fun hr4 => ?_)
          refine s_iload dX9_spread_55 0 rfl ?_
          refine s_callVpI (As := [.int r3]) mf_X6_placesOf vf_X6_placesOf ml_X9_210 (c_X6_placesOf _ E hF σ r4 hr4 r3) (mS hF hr4) (kS hr4) (by decide) rfl rfl rfl rfl (Nat.le_of_ble_eq_true rfl) rfl dX9_spread_57 (fun r5 => ?_)
          refine s_iload_n dX9_spread_60 4 rfl rfl ?_
          refine s_callVpI (As := [.int r5, .int v3]) mf_X3_leftBehind vf_X3_leftBehind ml_X9_213 (c_X3_leftBehind _ E hF σ r5 v3) (m1 hF) k1 (by decide) rfl rfl rfl rfl (Nat.le_of_ble_eq_true rfl) rfl dX9_spread_61 (fun r6 => ?_)
          exact s_ireturn rfl rfl rfl dX9_spread_64
theorem dX9_clear_0 : decode cX9_clear 0 = .ok (.iload_n 1, 1) := by decide +kernel
theorem dX9_clear_1 : decode cX9_clear 1 = .ok (.iconst 1, 1) := by decide +kernel
theorem dX9_clear_2 : decode cX9_clear 2 = .ok (.if_icmp .lt 13, 3) := by decide +kernel
theorem dX9_clear_5 : decode cX9_clear 5 = .ok (.iload_n 1, 1) := by decide +kernel
theorem dX9_clear_6 : decode cX9_clear 6 = .ok (.iconst 2, 1) := by decide +kernel
theorem dX9_clear_7 : decode cX9_clear 7 = .ok (.if_icmp .gt 8, 3) := by decide +kernel
theorem dX9_clear_10 : decode cX9_clear 10 = .ok (.iload_n 3, 1) := by decide +kernel
theorem dX9_clear_11 : decode cX9_clear 11 = .ok (.iconst (-1), 1) := by decide +kernel
theorem dX9_clear_12 : decode cX9_clear 12 = .ok (.if_icmp .ge 6, 3) := by decide +kernel
theorem dX9_clear_15 : decode cX9_clear 15 = .ok (.bipush (-3), 2) := by decide +kernel
theorem dX9_clear_17 : decode cX9_clear 17 = .ok (.ireturn, 1) := by decide +kernel
theorem dX9_clear_18 : decode cX9_clear 18 = .ok (.aload_n 0, 1) := by decide +kernel
theorem dX9_clear_19 : decode cX9_clear 19 = .ok (.iload_n 1, 1) := by decide +kernel
theorem dX9_clear_20 : decode cX9_clear 20 = .ok (.invokevirtual 141, 3) := by decide +kernel
theorem dX9_clear_23 : decode cX9_clear 23 = .ok (.iload_n 2, 1) := by decide +kernel
theorem dX9_clear_24 : decode cX9_clear 24 = .ok (.invokevirtual 144, 3) := by decide +kernel
theorem dX9_clear_27 : decode cX9_clear 27 = .ok (.istore 4, 2) := by decide +kernel
theorem dX9_clear_29 : decode cX9_clear 29 = .ok (.iload 4, 2) := by decide +kernel
theorem dX9_clear_31 : decode cX9_clear 31 = .ok (.iconst (-1), 1) := by decide +kernel
theorem dX9_clear_32 : decode cX9_clear 32 = .ok (.if_icmp .ne 6, 3) := by decide +kernel
theorem dX9_clear_35 : decode cX9_clear 35 = .ok (.bipush (-2), 2) := by decide +kernel
theorem dX9_clear_37 : decode cX9_clear 37 = .ok (.ireturn, 1) := by decide +kernel
theorem dX9_clear_38 : decode cX9_clear 38 = .ok (.aload_n 0, 1) := by decide +kernel
theorem dX9_clear_39 : decode cX9_clear 39 = .ok (.getfield 55, 3) := by decide +kernel
theorem dX9_clear_42 : decode cX9_clear 42 = .ok (.aload_n 0, 1) := by decide +kernel
theorem dX9_clear_43 : decode cX9_clear 43 = .ok (.iload_n 1, 1) := by decide +kernel
theorem dX9_clear_44 : decode cX9_clear 44 = .ok (.invokevirtual 141, 3) := by decide +kernel
theorem dX9_clear_47 : decode cX9_clear 47 = .ok (.aload_n 0, 1) := by decide +kernel
theorem dX9_clear_48 : decode cX9_clear 48 = .ok (.iload_n 1, 1) := by decide +kernel
theorem dX9_clear_49 : decode cX9_clear 49 = .ok (.invokevirtual 141, 3) := by decide +kernel
theorem dX9_clear_52 : decode cX9_clear 52 = .ok (.iload 4, 2) := by decide +kernel
theorem dX9_clear_54 : decode cX9_clear 54 = .ok (.invokevirtual 171, 3) := by decide +kernel
theorem dX9_clear_57 : decode cX9_clear 57 = .ok (.invokevirtual 216, 3) := by decide +kernel
theorem dX9_clear_60 : decode cX9_clear 60 = .ok (.iload_n 3, 1) := by decide +kernel
theorem dX9_clear_61 : decode cX9_clear 61 = .ok (.iconst (-1), 1) := by decide +kernel
theorem dX9_clear_62 : decode cX9_clear 62 = .ok (.if_icmp .ne 13, 3) := by decide +kernel
theorem dX9_clear_65 : decode cX9_clear 65 = .ok (.aload_n 0, 1) := by decide +kernel
theorem dX9_clear_66 : decode cX9_clear 66 = .ok (.getfield 55, 3) := by decide +kernel
theorem dX9_clear_69 : decode cX9_clear 69 = .ok (.invokevirtual 220, 3) := by decide +kernel
theorem dX9_clear_72 : decode cX9_clear 72 = .ok (.goto 11, 3) := by decide +kernel
theorem dX9_clear_75 : decode cX9_clear 75 = .ok (.aload_n 0, 1) := by decide +kernel
theorem dX9_clear_76 : decode cX9_clear 76 = .ok (.getfield 55, 3) := by decide +kernel
theorem dX9_clear_79 : decode cX9_clear 79 = .ok (.iload_n 3, 1) := by decide +kernel
theorem dX9_clear_80 : decode cX9_clear 80 = .ok (.invokevirtual 221, 3) := by decide +kernel
theorem dX9_clear_83 : decode cX9_clear 83 = .ok (.ireturn, 1) := by decide +kernel
def f_X9_clear (σ : St) (v1 : Int32) (v2 : Int32) (v3 : Int32) : Option (Int32 × St) :=
  (if v1 < (1 : Int32) then
    some ((-3 : Int32), σ)
     else
    (if (2 : Int32) < v1 then
      some ((-3 : Int32), σ)
       else
      (if v3 < (-1 : Int32) then
        some ((-3 : Int32), σ)
         else
        calP (f_X9_settings σ v1) fun r1 =>
          ckN r1 3 <|
            calP (f_X6_told σ r1 v2) fun r2 =>
              (if r2 = (-1 : Int32) then
                some ((-2 : Int32), σ)
                 else
                calP (f_X9_settings σ v1) fun r3 =>
                  ckN r3 3 <|
                    calP (f_X9_settings σ v1) fun r4 =>
                      ckN r4 3 <|
                        calP (f_X6_rising σ r4 r2) fun r5 =>
                          cal (f_X8_search σ r3 r5) fun _ s6 =>
                            (if v3 = (-1 : Int32) then
                              calP (f_X8_length s6) fun r7 =>
                                some (r7, s6)
                               else
                              calP (f_X8_settingAt s6 v3) fun r8 =>
                                some (r8, s6))))))
set_option maxHeartbeats 4000000 in
set_option maxRecDepth 100000 in
theorem c_X9_clear (l : Launch) (E : Ev) (hF : Full E) (σ : St) (v1 : Int32) (v2 : Int32) (v3 : Int32) : Ctr l (en2 enI) (fun q => q.2) E md_X9_clear [rV E 0, .int v1, .int v2, .int v3] σ (f_X9_clear σ v1 v2 v3) := by
  refine ctr_of rfl (Nat.le_of_ble_eq_true rfl) (fun Γ => ?_)
  show Sim _ Γ _ E md_X9_clear σ 0 [(0, rV E 0), (1, .int v1), (2, .int v2), (3, .int v3)] [] _
  unfold f_X9_clear
  refine s_iload_n dX9_clear_0 1 rfl rfl ?_
  refine s_iconst (v := 1) dX9_clear_1 (by decide) ?_
  refine s_icmp_lt 15 dX9_clear_2 (by decide) ?_ ?_
  · skip
    refine s_bipush (v := -3) dX9_clear_15 (by decide) ?_
    exact s_ireturn rfl rfl rfl dX9_clear_17
  · skip
    refine s_iload_n dX9_clear_5 1 rfl rfl ?_
    refine s_iconst (v := 2) dX9_clear_6 (by decide) ?_
    refine s_icmp_gt 15 dX9_clear_7 (by decide) ?_ ?_
    · skip
      refine s_bipush (v := -3) dX9_clear_15 (by decide) ?_
      exact s_ireturn rfl rfl rfl dX9_clear_17
    · skip
      refine s_iload_n dX9_clear_10 3 rfl rfl ?_
      refine s_iconst (v := -1) dX9_clear_11 (by decide) ?_
      refine s_icmp_ge 18 dX9_clear_12 (by decide) ?_ ?_
      · skip
        refine s_bipush (v := -3) dX9_clear_15 (by decide) ?_
        exact s_ireturn rfl rfl rfl dX9_clear_17
      · skip
        refine s_aload_n dX9_clear_18 0 rfl rfl ?_
        refine s_iload_n dX9_clear_19 1 rfl rfl ?_
        refine s_callVpM (As := [.int v1]) mf_X9_settings vf_X9_settings ml_X9_141 (c_X9_settings _ E hF σ v1) (m0 hF) k0 (by decide) rfl rfl rfl rfl (Nat.le_of_ble_eq_true rfl) rfl dX9_clear_20 (fun r1 => ?_)
        refine s_ckN (fun hr1 => ?_)
        refine s_iload_n dX9_clear_23 2 rfl rfl ?_
        refine s_callVpI (As := [.int v2]) mf_X6_told vf_X6_told ml_X9_144 (c_X6_told _ E hF σ r1 hr1 v2) (mS hF hr1) (kS hr1) (by decide) rfl rfl rfl rfl (Nat.le_of_ble_eq_true rfl) rfl dX9_clear_24 (fun r2 => ?_)
        refine s_istore [(4, .int r2), (0, rV E 0), (1, .int v1), (2, .int v2), (3, .int v3)] dX9_clear_27 (by decide) rfl ?_
        refine s_iload dX9_clear_29 0 rfl ?_
        refine s_iconst (v := -1) dX9_clear_31 (by decide) ?_
        refine s_icmp_ne 38 dX9_clear_32 (by decide) ?_ ?_
        · skip
          refine s_bipush (v := -2) dX9_clear_35 (by decide) ?_
          exact s_ireturn rfl rfl rfl dX9_clear_37
        · skip
          refine s_aload_n dX9_clear_38 1 rfl rfl ?_
          refine s_getr (b := 14) gf_X9_55 rfl (m0 hF) k0 (ft_of k0 rfl) (hF.2 _ _) rfl dX9_clear_39 ?_
          refine s_aload_n dX9_clear_42 1 rfl rfl ?_
          refine s_iload_n dX9_clear_43 2 rfl rfl ?_
          refine s_callVpM (As := [.int v1]) mf_X9_settings vf_X9_settings ml_X9_141 (c_X9_settings _ E hF σ v1) (m0 hF) k0 (by decide) rfl rfl rfl rfl (Nat.le_of_ble_eq_true rfl) rfl dX9_clear_44 (fun r3 => ?_)
          refine s_ckN (fun hr3 => ?_)
          refine s_aload_n dX9_clear_47 1 rfl rfl ?_
          refine s_iload_n dX9_clear_48 2 rfl rfl ?_
          refine s_callVpM (As := [.int v1]) mf_X9_settings vf_X9_settings ml_X9_141 (c_X9_settings _ E hF σ v1) (m0 hF) k0 (by decide) rfl rfl rfl rfl (Nat.le_of_ble_eq_true rfl) rfl dX9_clear_49 (fun r4 => ?_)
          refine s_ckN (fun hr4 => ?_)
          refine s_iload dX9_clear_52 0 rfl ?_
          refine s_callVpI (As := [.int r2]) mf_X6_rising vf_X6_rising ml_X9_171 (c_X6_rising _ E hF σ r4 hr4 r2) (mS hF hr4) (kS hr4) (by decide) rfl rfl rfl rfl (Nat.le_of_ble_eq_true rfl) rfl dX9_clear_54 (fun r5 => ?_)
          refine s_callVwV (As := [rV E (32 + 2 * r3), .int r5]) mf_X8_search vf_X8_search ml_X9_216 (c_X8_search _ E hF σ r3 hr3 r5) (m14 hF) k14 (by decide) rfl rfl rfl rfl (Nat.le_of_ble_eq_true rfl) rfl dX9_clear_57 (fun _ s6 => ?_)
          refine s_iload_n dX9_clear_60 4 rfl rfl ?_
          refine s_iconst (v := -1) dX9_clear_61 (by decide) ?_
          refine s_icmp_ne 75 dX9_clear_62 (by decide) ?_ ?_
          · skip
            refine s_aload_n dX9_clear_65 1 rfl rfl ?_
            refine s_getr (b := 14) gf_X9_55 rfl (m0 hF) k0 (ft_of k0 rfl) (hF.2 _ _) rfl dX9_clear_66 ?_
            refine s_callVpI (As := []) mf_X8_length vf_X8_length ml_X9_220 (c_X8_length _ E hF s6) (m14 hF) k14 (by decide) rfl rfl rfl rfl (Nat.le_of_ble_eq_true rfl) rfl dX9_clear_69 (fun r7 => ?_)
            refine s_goto 83 dX9_clear_72 (by decide) ?_
            exact s_ireturn rfl rfl rfl dX9_clear_83
          · skip
            refine s_aload_n dX9_clear_75 1 rfl rfl ?_
            refine s_getr (b := 14) gf_X9_55 rfl (m0 hF) k0 (ft_of k0 rfl) (hF.2 _ _) rfl dX9_clear_76 ?_
            refine s_iload_n dX9_clear_79 4 rfl rfl ?_
            refine s_callVpI (As := [.int v3]) mf_X8_settingAt vf_X8_settingAt ml_X9_221 (c_X8_settingAt _ E hF s6 v3) (m14 hF) k14 (by decide) rfl rfl rfl rfl (Nat.le_of_ble_eq_true rfl) rfl dX9_clear_80 (fun r8 => ?_)
            exact s_ireturn rfl rfl rfl dX9_clear_83
theorem dX9_free_0 : decode cX9_free 0 = .ok (.iload_n 1, 1) := by decide +kernel
theorem dX9_free_1 : decode cX9_free 1 = .ok (.iconst 1, 1) := by decide +kernel
theorem dX9_free_2 : decode cX9_free 2 = .ok (.if_icmp .lt 17, 3) := by decide +kernel
theorem dX9_free_5 : decode cX9_free 5 = .ok (.iload_n 1, 1) := by decide +kernel
theorem dX9_free_6 : decode cX9_free 6 = .ok (.iconst 2, 1) := by decide +kernel
theorem dX9_free_7 : decode cX9_free 7 = .ok (.if_icmp .gt 12, 3) := by decide +kernel
theorem dX9_free_10 : decode cX9_free 10 = .ok (.iload_n 2, 1) := by decide +kernel
theorem dX9_free_11 : decode cX9_free 11 = .ok (.ifCond .lt 8, 3) := by decide +kernel
theorem dX9_free_14 : decode cX9_free 14 = .ok (.iload_n 2, 1) := by decide +kernel
theorem dX9_free_15 : decode cX9_free 15 = .ok (.iconst 1, 1) := by decide +kernel
theorem dX9_free_16 : decode cX9_free 16 = .ok (.if_icmp .le 6, 3) := by decide +kernel
theorem dX9_free_19 : decode cX9_free 19 = .ok (.bipush (-3), 2) := by decide +kernel
theorem dX9_free_21 : decode cX9_free 21 = .ok (.ireturn, 1) := by decide +kernel
theorem dX9_free_22 : decode cX9_free 22 = .ok (.aload_n 0, 1) := by decide +kernel
theorem dX9_free_23 : decode cX9_free 23 = .ok (.getfield 55, 3) := by decide +kernel
theorem dX9_free_26 : decode cX9_free 26 = .ok (.aload_n 0, 1) := by decide +kernel
theorem dX9_free_27 : decode cX9_free 27 = .ok (.iload_n 1, 1) := by decide +kernel
theorem dX9_free_28 : decode cX9_free 28 = .ok (.invokevirtual 141, 3) := by decide +kernel
theorem dX9_free_31 : decode cX9_free 31 = .ok (.iconst (-1), 1) := by decide +kernel
theorem dX9_free_32 : decode cX9_free 32 = .ok (.invokevirtual 216, 3) := by decide +kernel
theorem dX9_free_35 : decode cX9_free 35 = .ok (.iload_n 2, 1) := by decide +kernel
theorem dX9_free_36 : decode cX9_free 36 = .ok (.ifCond .ne 14, 3) := by decide +kernel
theorem dX9_free_39 : decode cX9_free 39 = .ok (.aload_n 0, 1) := by decide +kernel
theorem dX9_free_40 : decode cX9_free 40 = .ok (.getfield 55, 3) := by decide +kernel
theorem dX9_free_43 : decode cX9_free 43 = .ok (.iconst 0, 1) := by decide +kernel
theorem dX9_free_44 : decode cX9_free 44 = .ok (.invokevirtual 221, 3) := by decide +kernel
theorem dX9_free_47 : decode cX9_free 47 = .ok (.goto 10, 3) := by decide +kernel
theorem dX9_free_50 : decode cX9_free 50 = .ok (.aload_n 0, 1) := by decide +kernel
theorem dX9_free_51 : decode cX9_free 51 = .ok (.getfield 55, 3) := by decide +kernel
theorem dX9_free_54 : decode cX9_free 54 = .ok (.invokevirtual 220, 3) := by decide +kernel
theorem dX9_free_57 : decode cX9_free 57 = .ok (.ireturn, 1) := by decide +kernel
def f_X9_free (σ : St) (v1 : Int32) (v2 : Int32) : Option (Int32 × St) :=
  (if v1 < (1 : Int32) then
    some ((-3 : Int32), σ)
     else
    (if (2 : Int32) < v1 then
      some ((-3 : Int32), σ)
       else
      (if v2 < 0 then
        some ((-3 : Int32), σ)
         else
        (if (1 : Int32) < v2 then
          some ((-3 : Int32), σ)
           else
          calP (f_X9_settings σ v1) fun r1 =>
            ckN r1 3 <|
              cal (f_X8_search σ r1 (-1 : Int32)) fun _ s2 =>
                (if v2 = 0 then
                  calP (f_X8_settingAt s2 (0 : Int32)) fun r3 =>
                    some (r3, s2)
                   else
                  calP (f_X8_length s2) fun r4 =>
                    some (r4, s2))))))
set_option maxHeartbeats 4000000 in
set_option maxRecDepth 100000 in
theorem c_X9_free (l : Launch) (E : Ev) (hF : Full E) (σ : St) (v1 : Int32) (v2 : Int32) : Ctr l (en2 enI) (fun q => q.2) E md_X9_free [rV E 0, .int v1, .int v2] σ (f_X9_free σ v1 v2) := by
  refine ctr_of rfl (Nat.le_of_ble_eq_true rfl) (fun Γ => ?_)
  show Sim _ Γ _ E md_X9_free σ 0 [(0, rV E 0), (1, .int v1), (2, .int v2)] [] _
  unfold f_X9_free
  refine s_iload_n dX9_free_0 1 rfl rfl ?_
  refine s_iconst (v := 1) dX9_free_1 (by decide) ?_
  refine s_icmp_lt 19 dX9_free_2 (by decide) ?_ ?_
  · skip
    refine s_bipush (v := -3) dX9_free_19 (by decide) ?_
    exact s_ireturn rfl rfl rfl dX9_free_21
  · skip
    refine s_iload_n dX9_free_5 1 rfl rfl ?_
    refine s_iconst (v := 2) dX9_free_6 (by decide) ?_
    refine s_icmp_gt 19 dX9_free_7 (by decide) ?_ ?_
    · skip
      refine s_bipush (v := -3) dX9_free_19 (by decide) ?_
      exact s_ireturn rfl rfl rfl dX9_free_21
    · skip
      refine s_iload_n dX9_free_10 2 rfl rfl ?_
      refine s_if_lt 19 dX9_free_11 (by decide) ?_ ?_
      · skip
        refine s_bipush (v := -3) dX9_free_19 (by decide) ?_
        exact s_ireturn rfl rfl rfl dX9_free_21
      · skip
        refine s_iload_n dX9_free_14 2 rfl rfl ?_
        refine s_iconst (v := 1) dX9_free_15 (by decide) ?_
        refine s_icmp_le 22 dX9_free_16 (by decide) ?_ ?_
        · skip
          refine s_bipush (v := -3) dX9_free_19 (by decide) ?_
          exact s_ireturn rfl rfl rfl dX9_free_21
        · skip
          refine s_aload_n dX9_free_22 0 rfl rfl ?_
          refine s_getr (b := 14) gf_X9_55 rfl (m0 hF) k0 (ft_of k0 rfl) (hF.2 _ _) rfl dX9_free_23 ?_
          refine s_aload_n dX9_free_26 0 rfl rfl ?_
          refine s_iload_n dX9_free_27 1 rfl rfl ?_
          refine s_callVpM (As := [.int v1]) mf_X9_settings vf_X9_settings ml_X9_141 (c_X9_settings _ E hF σ v1) (m0 hF) k0 (by decide) rfl rfl rfl rfl (Nat.le_of_ble_eq_true rfl) rfl dX9_free_28 (fun r1 => ?_)
          refine s_ckN (fun hr1 => ?_)
          refine s_iconst (v := -1) dX9_free_31 (by decide) ?_
          refine s_callVwV (As := [rV E (32 + 2 * r1), .int (-1 : Int32)]) mf_X8_search vf_X8_search ml_X9_216 (c_X8_search _ E hF σ r1 hr1 (-1 : Int32)) (m14 hF) k14 (by decide) rfl rfl rfl rfl (Nat.le_of_ble_eq_true rfl) rfl dX9_free_32 (fun _ s2 => ?_)
          refine s_iload_n dX9_free_35 2 rfl rfl ?_
          refine s_if_ne 50 dX9_free_36 (by decide) ?_ ?_
          · skip
            refine s_aload_n dX9_free_39 0 rfl rfl ?_
            refine s_getr (b := 14) gf_X9_55 rfl (m0 hF) k0 (ft_of k0 rfl) (hF.2 _ _) rfl dX9_free_40 ?_
            refine s_iconst (v := 0) dX9_free_43 (by decide) ?_
            refine s_callVpI (As := [.int (0 : Int32)]) mf_X8_settingAt vf_X8_settingAt ml_X9_221 (c_X8_settingAt _ E hF s2 (0 : Int32)) (m14 hF) k14 (by decide) rfl rfl rfl rfl (Nat.le_of_ble_eq_true rfl) rfl dX9_free_44 (fun r3 => ?_)
            refine s_goto 57 dX9_free_47 (by decide) ?_
            exact s_ireturn rfl rfl rfl dX9_free_57
          · skip
            refine s_aload_n dX9_free_50 0 rfl rfl ?_
            refine s_getr (b := 14) gf_X9_55 rfl (m0 hF) k0 (ft_of k0 rfl) (hF.2 _ _) rfl dX9_free_51 ?_
            refine s_callVpI (As := []) mf_X8_length vf_X8_length ml_X9_220 (c_X8_length _ E hF s2) (m14 hF) k14 (by decide) rfl rfl rfl rfl (Nat.le_of_ble_eq_true rfl) rfl dX9_free_54 (fun r4 => ?_)
            exact s_ireturn rfl rfl rfl dX9_free_57
theorem dX9_flying_0 : decode cX9_flying 0 = .ok (.iload_n 2, 1) := by decide +kernel
theorem dX9_flying_1 : decode cX9_flying 1 = .ok (.iconst (-1), 1) := by decide +kernel
theorem dX9_flying_2 : decode cX9_flying 2 = .ok (.if_icmp .ge 6, 3) := by decide +kernel
theorem dX9_flying_5 : decode cX9_flying 5 = .ok (.bipush (-3), 2) := by decide +kernel
theorem dX9_flying_7 : decode cX9_flying 7 = .ok (.ireturn, 1) := by decide +kernel
theorem dX9_flying_8 : decode cX9_flying 8 = .ok (.iload_n 1, 1) := by decide +kernel
theorem dX9_flying_9 : decode cX9_flying 9 = .ok (.ifCond .eq 10, 3) := by decide +kernel
theorem dX9_flying_12 : decode cX9_flying 12 = .ok (.aload_n 0, 1) := by decide +kernel
theorem dX9_flying_13 : decode cX9_flying 13 = .ok (.getfield 68, 3) := by decide +kernel
theorem dX9_flying_16 : decode cX9_flying 16 = .ok (.goto 7, 3) := by decide +kernel
theorem dX9_flying_19 : decode cX9_flying 19 = .ok (.aload_n 0, 1) := by decide +kernel
theorem dX9_flying_20 : decode cX9_flying 20 = .ok (.getfield 64, 3) := by decide +kernel
theorem dX9_flying_23 : decode cX9_flying 23 = .ok (.astore_n 3, 1) := by decide +kernel
theorem dX9_flying_24 : decode cX9_flying 24 = .ok (.iload_n 2, 1) := by decide +kernel
theorem dX9_flying_25 : decode cX9_flying 25 = .ok (.iconst (-1), 1) := by decide +kernel
theorem dX9_flying_26 : decode cX9_flying 26 = .ok (.if_icmp .ne 10, 3) := by decide +kernel
theorem dX9_flying_29 : decode cX9_flying 29 = .ok (.aload_n 3, 1) := by decide +kernel
theorem dX9_flying_30 : decode cX9_flying 30 = .ok (.invokevirtual 224, 3) := by decide +kernel
theorem dX9_flying_33 : decode cX9_flying 33 = .ok (.goto 8, 3) := by decide +kernel
theorem dX9_flying_36 : decode cX9_flying 36 = .ok (.aload_n 3, 1) := by decide +kernel
theorem dX9_flying_37 : decode cX9_flying 37 = .ok (.iload_n 2, 1) := by decide +kernel
theorem dX9_flying_38 : decode cX9_flying 38 = .ok (.invokevirtual 225, 3) := by decide +kernel
theorem dX9_flying_41 : decode cX9_flying 41 = .ok (.ireturn, 1) := by decide +kernel
def f_X9_flying (σ : St) (v1 : Int32) (v2 : Int32) : Option (Int32 × St) :=
  (if v2 < (-1 : Int32) then
    some ((-3 : Int32), σ)
     else
    bd (if v1 = 0 then 0 else 1) fun j1 =>
      ckN j1 2 <|
        (if v2 = (-1 : Int32) then
          cal (f_X4_hunters σ j1) fun r3 s4 =>
            some (r3, s4)
           else
          cal (f_X4_placeAt σ j1 v2) fun r5 s6 =>
            some (r5, s6)))
set_option maxHeartbeats 4000000 in
set_option maxRecDepth 100000 in
theorem c_X9_flying (l : Launch) (E : Ev) (hF : Full E) (σ : St) (v1 : Int32) (v2 : Int32) : Ctr l (en2 enI) (fun q => q.2) E md_X9_flying [rV E 0, .int v1, .int v2] σ (f_X9_flying σ v1 v2) := by
  refine ctr_of rfl (Nat.le_of_ble_eq_true rfl) (fun Γ => ?_)
  show Sim _ Γ _ E md_X9_flying σ 0 [(0, rV E 0), (1, .int v1), (2, .int v2)] [] _
  unfold f_X9_flying
  refine s_iload_n dX9_flying_0 2 rfl rfl ?_
  refine s_iconst (v := -1) dX9_flying_1 (by decide) ?_
  refine s_icmp_ge 8 dX9_flying_2 (by decide) ?_ ?_
  · skip
    refine s_bipush (v := -3) dX9_flying_5 (by decide) ?_
    exact s_ireturn rfl rfl rfl dX9_flying_7
  · skip
    refine s_iload_n dX9_flying_8 1 rfl rfl ?_
    refine s_bd 23 (fun j1 => [(2, .int v2)]) (fun j1 => [rV E (18 + 3 * j1)]) (fun jk2 => (if v1 = 0 then jk2 0 else jk2 1)) (fun jk2 => (j_ite rfl rfl)) ?_ ?_
    · intro j1
      refine s_ckN (fun hj1 => ?_)
      refine s_astore_n [(3, rV E (18 + 3 * j1)), (2, .int v2)] dX9_flying_23 rfl (by decide) rfl ?_
      refine s_iload_n dX9_flying_24 1 rfl rfl ?_
      refine s_iconst (v := -1) dX9_flying_25 (by decide) ?_
      refine s_icmp_ne 36 dX9_flying_26 (by decide) ?_ ?_
      · skip
        refine s_aload_n dX9_flying_29 0 rfl rfl ?_
        refine s_callVwI (As := []) mf_X4_hunters vf_X4_hunters ml_X9_224 (c_X4_hunters _ E hF σ j1 hj1) (mO hF hj1) (kO hj1) (by decide) rfl rfl rfl rfl (Nat.le_of_ble_eq_true rfl) rfl dX9_flying_30 (fun r3 s4 => ?_)
        refine s_goto 41 dX9_flying_33 (by decide) ?_
        exact s_ireturn rfl rfl rfl dX9_flying_41
      · skip
        refine s_aload_n dX9_flying_36 0 rfl rfl ?_
        refine s_iload_n dX9_flying_37 1 rfl rfl ?_
        refine s_callVwI (As := [.int v2]) mf_X4_placeAt vf_X4_placeAt ml_X9_225 (c_X4_placeAt _ E hF σ j1 hj1 v2) (mO hF hj1) (kO hj1) (by decide) rfl rfl rfl rfl (Nat.le_of_ble_eq_true rfl) rfl dX9_flying_38 (fun r5 s6 => ?_)
        exact s_ireturn rfl rfl rfl dX9_flying_41
    · intro jk2 hjk2
      refine s_if_eq 19 dX9_flying_9 (by decide) ?_ ?_
      · skip
        refine s_aload_n dX9_flying_19 0 rfl rfl ?_
        refine s_getr (b := (18 + 3 * 0)) gf_X9_64 rfl (m0 hF) k0 (ft_of k0 rfl) (hF.2 _ _) rfl dX9_flying_20 ?_
        refine s_sub [2] rfl ?_
        exact hjk2 0
      · skip
        refine s_aload_n dX9_flying_12 0 rfl rfl ?_
        refine s_getr (b := (18 + 3 * 1)) gf_X9_68 rfl (m0 hF) k0 (ft_of k0 rfl) (hF.2 _ _) rfl dX9_flying_13 ?_
        refine s_goto 23 dX9_flying_16 (by decide) ?_
        refine s_sub [2] rfl ?_
        exact hjk2 1
theorem dX9_away_0 : decode cX9_away 0 = .ok (.iload_n 1, 1) := by decide +kernel
theorem dX9_away_1 : decode cX9_away 1 = .ok (.iconst (-1), 1) := by decide +kernel
theorem dX9_away_2 : decode cX9_away 2 = .ok (.if_icmp .ge 8, 3) := by decide +kernel
theorem dX9_away_5 : decode cX9_away 5 = .ok (.bipush (-3), 2) := by decide +kernel
theorem dX9_away_7 : decode cX9_away 7 = .ok (.goto 11, 3) := by decide +kernel
theorem dX9_away_10 : decode cX9_away 10 = .ok (.aload_n 0, 1) := by decide +kernel
theorem dX9_away_11 : decode cX9_away 11 = .ok (.getfield 76, 3) := by decide +kernel
theorem dX9_away_14 : decode cX9_away 14 = .ok (.iload_n 1, 1) := by decide +kernel
theorem dX9_away_15 : decode cX9_away 15 = .ok (.invokevirtual 228, 3) := by decide +kernel
theorem dX9_away_18 : decode cX9_away 18 = .ok (.ireturn, 1) := by decide +kernel
def f_X9_away (σ : St) (v1 : Int32) : Option Int32 :=
  (if v1 < (-1 : Int32) then
    some (-3 : Int32)
     else
    calP (f_X1_takenAway σ v1) fun r1 =>
      some r1)
set_option maxHeartbeats 4000000 in
set_option maxRecDepth 100000 in
theorem c_X9_away (l : Launch) (E : Ev) (hF : Full E) (σ : St) (v1 : Int32) : Ctr l enI (fun _ => σ) E md_X9_away [rV E 0, .int v1] σ (f_X9_away σ v1) := by
  refine ctr_of rfl (Nat.le_of_ble_eq_true rfl) (fun Γ => ?_)
  show Sim _ Γ _ E md_X9_away σ 0 [(0, rV E 0), (1, .int v1)] [] _
  unfold f_X9_away
  refine s_iload_n dX9_away_0 1 rfl rfl ?_
  refine s_iconst (v := -1) dX9_away_1 (by decide) ?_
  refine s_icmp_ge 10 dX9_away_2 (by decide) ?_ ?_
  · skip
    refine s_bipush (v := -3) dX9_away_5 (by decide) ?_
    refine s_goto 18 dX9_away_7 (by decide) ?_
    exact s_ireturn rfl rfl rfl dX9_away_18
  · skip
    refine s_aload_n dX9_away_10 0 rfl rfl ?_
    refine s_getr (b := 24) gf_X9_76 rfl (m0 hF) k0 (ft_of k0 rfl) (hF.2 _ _) rfl dX9_away_11 ?_
    refine s_iload_n dX9_away_14 1 rfl rfl ?_
    refine s_callVpI (As := [.int v1]) mf_X1_takenAway vf_X1_takenAway ml_X9_228 (c_X1_takenAway _ E hF σ v1) (m24 hF) k24 (by decide) rfl rfl rfl rfl (Nat.le_of_ble_eq_true rfl) rfl dX9_away_15 (fun r1 => ?_)
    exact s_ireturn rfl rfl rfl dX9_away_18
theorem dX9_least_0 : decode cX9_least 0 = .ok (.iload_n 1, 1) := by decide +kernel
theorem dX9_least_1 : decode cX9_least 1 = .ok (.ifCond .lt 8, 3) := by decide +kernel
theorem dX9_least_4 : decode cX9_least 4 = .ok (.iload_n 1, 1) := by decide +kernel
theorem dX9_least_5 : decode cX9_least 5 = .ok (.iconst 1, 1) := by decide +kernel
theorem dX9_least_6 : decode cX9_least 6 = .ok (.if_icmp .le 6, 3) := by decide +kernel
theorem dX9_least_9 : decode cX9_least 9 = .ok (.bipush (-3), 2) := by decide +kernel
theorem dX9_least_11 : decode cX9_least 11 = .ok (.ireturn, 1) := by decide +kernel
theorem dX9_least_12 : decode cX9_least 12 = .ok (.aload_n 0, 1) := by decide +kernel
theorem dX9_least_13 : decode cX9_least 13 = .ok (.getfield 76, 3) := by decide +kernel
theorem dX9_least_16 : decode cX9_least 16 = .ok (.iload_n 1, 1) := by decide +kernel
theorem dX9_least_17 : decode cX9_least 17 = .ok (.ifCond .ne 7, 3) := by decide +kernel
theorem dX9_least_20 : decode cX9_least 20 = .ok (.iconst 1, 1) := by decide +kernel
theorem dX9_least_21 : decode cX9_least 21 = .ok (.goto 4, 3) := by decide +kernel
theorem dX9_least_24 : decode cX9_least 24 = .ok (.iconst 0, 1) := by decide +kernel
theorem dX9_least_25 : decode cX9_least 25 = .ok (.invokevirtual 231, 3) := by decide +kernel
theorem dX9_least_28 : decode cX9_least 28 = .ok (.ireturn, 1) := by decide +kernel
def f_X9_least (σ : St) (v1 : Int32) : Option Int32 :=
  (if v1 < 0 then
    some (-3 : Int32)
     else
    (if (1 : Int32) < v1 then
      some (-3 : Int32)
       else
      (if v1 = 0 then
        calP (f_X1_leastSet σ (1 : Int32)) fun r1 =>
          some r1
         else
        calP (f_X1_leastSet σ (0 : Int32)) fun r2 =>
          some r2)))
set_option maxHeartbeats 4000000 in
set_option maxRecDepth 100000 in
theorem c_X9_least (l : Launch) (E : Ev) (hF : Full E) (σ : St) (v1 : Int32) : Ctr l enI (fun _ => σ) E md_X9_least [rV E 0, .int v1] σ (f_X9_least σ v1) := by
  refine ctr_of rfl (Nat.le_of_ble_eq_true rfl) (fun Γ => ?_)
  show Sim _ Γ _ E md_X9_least σ 0 [(0, rV E 0), (1, .int v1)] [] _
  unfold f_X9_least
  refine s_iload_n dX9_least_0 1 rfl rfl ?_
  refine s_if_lt 9 dX9_least_1 (by decide) ?_ ?_
  · skip
    refine s_bipush (v := -3) dX9_least_9 (by decide) ?_
    exact s_ireturn rfl rfl rfl dX9_least_11
  · skip
    refine s_iload_n dX9_least_4 1 rfl rfl ?_
    refine s_iconst (v := 1) dX9_least_5 (by decide) ?_
    refine s_icmp_le 12 dX9_least_6 (by decide) ?_ ?_
    · skip
      refine s_bipush (v := -3) dX9_least_9 (by decide) ?_
      exact s_ireturn rfl rfl rfl dX9_least_11
    · skip
      refine s_aload_n dX9_least_12 0 rfl rfl ?_
      refine s_getr (b := 24) gf_X9_76 rfl (m0 hF) k0 (ft_of k0 rfl) (hF.2 _ _) rfl dX9_least_13 ?_
      refine s_iload_n dX9_least_16 1 rfl rfl ?_
      refine s_if_ne 24 dX9_least_17 (by decide) ?_ ?_
      · skip
        refine s_iconst (v := 1) dX9_least_20 (by decide) ?_
        refine s_goto 25 dX9_least_21 (by decide) ?_
        refine s_callVpI (As := [.int (1 : Int32)]) mf_X1_leastSet vf_X1_leastSet ml_X9_231 (c_X1_leastSet _ E hF σ (1 : Int32)) (m24 hF) k24 (by decide) rfl rfl rfl rfl (Nat.le_of_ble_eq_true rfl) rfl dX9_least_25 (fun r1 => ?_)
        exact s_ireturn rfl rfl rfl dX9_least_28
      · skip
        refine s_iconst (v := 0) dX9_least_24 (by decide) ?_
        refine s_callVpI (As := [.int (0 : Int32)]) mf_X1_leastSet vf_X1_leastSet ml_X9_231 (c_X1_leastSet _ E hF σ (0 : Int32)) (m24 hF) k24 (by decide) rfl rfl rfl rfl (Nat.le_of_ble_eq_true rfl) rfl dX9_least_25 (fun r2 => ?_)
        exact s_ireturn rfl rfl rfl dX9_least_28
theorem dX9_isWatch_0 : decode cX9_isWatch 0 = .ok (.iload_n 1, 1) := by decide +kernel
theorem dX9_isWatch_1 : decode cX9_isWatch 1 = .ok (.ifCond .eq 27, 3) := by decide +kernel
theorem dX9_isWatch_4 : decode cX9_isWatch 4 = .ok (.aload_n 0, 1) := by decide +kernel
theorem dX9_isWatch_5 : decode cX9_isWatch 5 = .ok (.getfield 14, 3) := by decide +kernel
theorem dX9_isWatch_8 : decode cX9_isWatch 8 = .ok (.iload_n 1, 1) := by decide +kernel
theorem dX9_isWatch_9 : decode cX9_isWatch 9 = .ok (.invokevirtual 207, 3) := by decide +kernel
theorem dX9_isWatch_12 : decode cX9_isWatch 12 = .ok (.ifCond .eq 16, 3) := by decide +kernel
theorem dX9_isWatch_15 : decode cX9_isWatch 15 = .ok (.iload_n 2, 1) := by decide +kernel
theorem dX9_isWatch_16 : decode cX9_isWatch 16 = .ok (.ifCond .lt 12, 3) := by decide +kernel
theorem dX9_isWatch_19 : decode cX9_isWatch 19 = .ok (.iload_n 2, 1) := by decide +kernel
theorem dX9_isWatch_20 : decode cX9_isWatch 20 = .ok (.iconst 1, 1) := by decide +kernel
theorem dX9_isWatch_21 : decode cX9_isWatch 21 = .ok (.if_icmp .gt 7, 3) := by decide +kernel
theorem dX9_isWatch_24 : decode cX9_isWatch 24 = .ok (.iconst 1, 1) := by decide +kernel
theorem dX9_isWatch_25 : decode cX9_isWatch 25 = .ok (.goto 4, 3) := by decide +kernel
theorem dX9_isWatch_28 : decode cX9_isWatch 28 = .ok (.iconst 0, 1) := by decide +kernel
theorem dX9_isWatch_29 : decode cX9_isWatch 29 = .ok (.ireturn, 1) := by decide +kernel
def f_X9_isWatch (σ : St) (v1 : Int32) (v2 : Int32) : Option Int32 :=
  (if v1 = 0 then
    some (0 : Int32)
     else
    calP (f_X3_holdsAll σ v1) fun r1 =>
      (if r1 = 0 then
        some (0 : Int32)
         else
        (if v2 < 0 then
          some (0 : Int32)
           else
          (if (1 : Int32) < v2 then
            some (0 : Int32)
             else
            some (1 : Int32)))))
set_option maxHeartbeats 4000000 in
set_option maxRecDepth 100000 in
theorem c_X9_isWatch (l : Launch) (E : Ev) (hF : Full E) (σ : St) (v1 : Int32) (v2 : Int32) : Ctr l enI (fun _ => σ) E md_X9_isWatch [rV E 0, .int v1, .int v2] σ (f_X9_isWatch σ v1 v2) := by
  refine ctr_of rfl (Nat.le_of_ble_eq_true rfl) (fun Γ => ?_)
  show Sim _ Γ _ E md_X9_isWatch σ 0 [(0, rV E 0), (1, .int v1), (2, .int v2)] [] _
  unfold f_X9_isWatch
  refine s_iload_n dX9_isWatch_0 1 rfl rfl ?_
  refine s_if_eq 28 dX9_isWatch_1 (by decide) ?_ ?_
  · skip
    refine s_iconst (v := 0) dX9_isWatch_28 (by decide) ?_
    exact s_zreturn rfl (by decide) rfl rfl dX9_isWatch_29
  · skip
    refine s_aload_n dX9_isWatch_4 0 rfl rfl ?_
    refine s_getr (b := 1) gf_X9_14 rfl (m0 hF) k0 (ft_of k0 rfl) (hF.2 _ _) rfl dX9_isWatch_5 ?_
    refine s_iload_n dX9_isWatch_8 1 rfl rfl ?_
    refine s_callVpI (As := [.int v1]) mf_X3_holdsAll vf_X3_holdsAll ml_X9_207 (c_X3_holdsAll _ E hF σ v1) (m1 hF) k1 (by decide) rfl rfl rfl rfl (Nat.le_of_ble_eq_true rfl) rfl dX9_isWatch_9 (fun r1 => ?_)
    refine s_if_eq 28 dX9_isWatch_12 (by decide) ?_ ?_
    · skip
      refine s_iconst (v := 0) dX9_isWatch_28 (by decide) ?_
      exact s_zreturn rfl (by decide) rfl rfl dX9_isWatch_29
    · skip
      refine s_iload_n dX9_isWatch_15 2 rfl rfl ?_
      refine s_if_lt 28 dX9_isWatch_16 (by decide) ?_ ?_
      · skip
        refine s_iconst (v := 0) dX9_isWatch_28 (by decide) ?_
        exact s_zreturn rfl (by decide) rfl rfl dX9_isWatch_29
      · skip
        refine s_iload_n dX9_isWatch_19 2 rfl rfl ?_
        refine s_iconst (v := 1) dX9_isWatch_20 (by decide) ?_
        refine s_icmp_gt 28 dX9_isWatch_21 (by decide) ?_ ?_
        · skip
          refine s_iconst (v := 0) dX9_isWatch_28 (by decide) ?_
          exact s_zreturn rfl (by decide) rfl rfl dX9_isWatch_29
        · skip
          refine s_iconst (v := 1) dX9_isWatch_24 (by decide) ?_
          refine s_goto 29 dX9_isWatch_25 (by decide) ?_
          exact s_zreturn rfl (by decide) rfl rfl dX9_isWatch_29
theorem dX9_safe_0 : decode cX9_safe 0 = .ok (.aload_n 0, 1) := by decide +kernel
theorem dX9_safe_1 : decode cX9_safe 1 = .ok (.iload_n 1, 1) := by decide +kernel
theorem dX9_safe_2 : decode cX9_safe 2 = .ok (.iload_n 2, 1) := by decide +kernel
theorem dX9_safe_3 : decode cX9_safe 3 = .ok (.invokevirtual 235, 3) := by decide +kernel
theorem dX9_safe_6 : decode cX9_safe 6 = .ok (.ifCond .ne 6, 3) := by decide +kernel
theorem dX9_safe_9 : decode cX9_safe 9 = .ok (.bipush (-3), 2) := by decide +kernel
theorem dX9_safe_11 : decode cX9_safe 11 = .ok (.ireturn, 1) := by decide +kernel
theorem dX9_safe_12 : decode cX9_safe 12 = .ok (.aload_n 0, 1) := by decide +kernel
theorem dX9_safe_13 : decode cX9_safe 13 = .ok (.getfield 83, 3) := by decide +kernel
theorem dX9_safe_16 : decode cX9_safe 16 = .ok (.iload_n 2, 1) := by decide +kernel
theorem dX9_safe_17 : decode cX9_safe 17 = .ok (.aaload, 1) := by decide +kernel
theorem dX9_safe_18 : decode cX9_safe 18 = .ok (.iload_n 1, 1) := by decide +kernel
theorem dX9_safe_19 : decode cX9_safe 19 = .ok (.invokevirtual 238, 3) := by decide +kernel
theorem dX9_safe_22 : decode cX9_safe 22 = .ok (.ifCond .eq 7, 3) := by decide +kernel
theorem dX9_safe_25 : decode cX9_safe 25 = .ok (.iconst 1, 1) := by decide +kernel
theorem dX9_safe_26 : decode cX9_safe 26 = .ok (.goto 4, 3) := by decide +kernel
theorem dX9_safe_29 : decode cX9_safe 29 = .ok (.iconst 0, 1) := by decide +kernel
theorem dX9_safe_30 : decode cX9_safe 30 = .ok (.ireturn, 1) := by decide +kernel
def f_X9_safe (σ : St) (v1 : Int32) (v2 : Int32) : Option (Int32 × St) :=
  calP (f_X9_isWatch σ v1 v2) fun r1 =>
    (if r1 = 0 then
      some ((-3 : Int32), σ)
       else
      ck v2 2 <|
        bd v2.toNatClampNeg fun j2 =>
          cal (f_X2_holdsOut σ j2 v1) fun r3 s4 =>
            (if r3 = 0 then
              some ((0 : Int32), s4)
               else
              some ((1 : Int32), s4)))
set_option maxHeartbeats 4000000 in
set_option maxRecDepth 100000 in
theorem c_X9_safe (l : Launch) (E : Ev) (hF : Full E) (σ : St) (v1 : Int32) (v2 : Int32) : Ctr l (en2 enI) (fun q => q.2) E md_X9_safe [rV E 0, .int v1, .int v2] σ (f_X9_safe σ v1 v2) := by
  refine ctr_of rfl (Nat.le_of_ble_eq_true rfl) (fun Γ => ?_)
  show Sim _ Γ _ E md_X9_safe σ 0 [(0, rV E 0), (1, .int v1), (2, .int v2)] [] _
  unfold f_X9_safe
  refine s_aload_n dX9_safe_0 0 rfl rfl ?_
  refine s_iload_n dX9_safe_1 1 rfl rfl ?_
  refine s_iload_n dX9_safe_2 2 rfl rfl ?_
  refine s_callVpI (As := [.int v1, .int v2]) mf_X9_isWatch vf_X9_isWatch ml_X9_235 (c_X9_isWatch _ E hF σ v1 v2) (m0 hF) k0 (by decide) rfl rfl rfl rfl (Nat.le_of_ble_eq_true rfl) rfl dX9_safe_3 (fun r1 => ?_)
  refine s_if_ne 12 dX9_safe_6 (by decide) ?_ ?_
  · skip
    refine s_bipush (v := -3) dX9_safe_9 (by decide) ?_
    exact s_ireturn rfl rfl rfl dX9_safe_11
  · skip
    refine s_aload_n dX9_safe_12 0 rfl rfl ?_
    refine s_getr (b := 25) gf_X9_83 rfl (m0 hF) k0 (ft_of k0 rfl) (hF.2 _ _) rfl dX9_safe_13 ?_
    refine s_iload_n dX9_safe_16 2 rfl rfl ?_
    refine s_aald (m25 hF) k25 (by decide) 4 rfl l25 (fun _ _ => (hF.2 _ _)) dX9_safe_17 (fun j2 hj2 => ?_)
    rw [rA15 hj2]
    refine s_iload_n dX9_safe_18 1 rfl rfl ?_
    refine s_callVwI (As := [.int v1]) mf_X2_holdsOut vf_X2_holdsOut ml_X9_238 (c_X2_holdsOut _ E hF σ j2 hj2 v1) (mG hF hj2) (kG hj2) (by decide) rfl rfl rfl rfl (Nat.le_of_ble_eq_true rfl) rfl dX9_safe_19 (fun r3 s4 => ?_)
    refine s_if_eq 29 dX9_safe_22 (by decide) ?_ ?_
    · skip
      refine s_iconst (v := 0) dX9_safe_29 (by decide) ?_
      exact s_ireturn rfl rfl rfl dX9_safe_30
    · skip
      refine s_iconst (v := 1) dX9_safe_25 (by decide) ?_
      refine s_goto 30 dX9_safe_26 (by decide) ?_
      exact s_ireturn rfl rfl rfl dX9_safe_30
theorem dX9_guards_0 : decode cX9_guards 0 = .ok (.iload_n 1, 1) := by decide +kernel
theorem dX9_guards_1 : decode cX9_guards 1 = .ok (.ifCond .lt 17, 3) := by decide +kernel
theorem dX9_guards_4 : decode cX9_guards 4 = .ok (.iload_n 1, 1) := by decide +kernel
theorem dX9_guards_5 : decode cX9_guards 5 = .ok (.iconst 1, 1) := by decide +kernel
theorem dX9_guards_6 : decode cX9_guards 6 = .ok (.if_icmp .gt 12, 3) := by decide +kernel
theorem dX9_guards_9 : decode cX9_guards 9 = .ok (.iload_n 2, 1) := by decide +kernel
theorem dX9_guards_10 : decode cX9_guards 10 = .ok (.ifCond .lt 8, 3) := by decide +kernel
theorem dX9_guards_13 : decode cX9_guards 13 = .ok (.iload_n 2, 1) := by decide +kernel
theorem dX9_guards_14 : decode cX9_guards 14 = .ok (.iconst 2, 1) := by decide +kernel
theorem dX9_guards_15 : decode cX9_guards 15 = .ok (.if_icmp .le 6, 3) := by decide +kernel
theorem dX9_guards_18 : decode cX9_guards 18 = .ok (.bipush (-3), 2) := by decide +kernel
theorem dX9_guards_20 : decode cX9_guards 20 = .ok (.ireturn, 1) := by decide +kernel
theorem dX9_guards_21 : decode cX9_guards 21 = .ok (.aload_n 0, 1) := by decide +kernel
theorem dX9_guards_22 : decode cX9_guards 22 = .ok (.getfield 83, 3) := by decide +kernel
theorem dX9_guards_25 : decode cX9_guards 25 = .ok (.iload_n 1, 1) := by decide +kernel
theorem dX9_guards_26 : decode cX9_guards 26 = .ok (.aaload, 1) := by decide +kernel
theorem dX9_guards_27 : decode cX9_guards 27 = .ok (.astore_n 3, 1) := by decide +kernel
theorem dX9_guards_28 : decode cX9_guards 28 = .ok (.aload_n 3, 1) := by decide +kernel
theorem dX9_guards_29 : decode cX9_guards 29 = .ok (.invokevirtual 241, 3) := by decide +kernel
theorem dX9_guards_32 : decode cX9_guards 32 = .ok (.istore 4, 2) := by decide +kernel
theorem dX9_guards_34 : decode cX9_guards 34 = .ok (.iload_n 2, 1) := by decide +kernel
theorem dX9_guards_35 : decode cX9_guards 35 = .ok (.lookupswitch 34 #[(0, 25), (1, 31)], 25) := by decide +kernel
theorem dX9_guards_60 : decode cX9_guards 60 = .ok (.iload 4, 2) := by decide +kernel
theorem dX9_guards_62 : decode cX9_guards 62 = .ok (.invokestatic 243, 3) := by decide +kernel
theorem dX9_guards_65 : decode cX9_guards 65 = .ok (.ireturn, 1) := by decide +kernel
theorem dX9_guards_66 : decode cX9_guards 66 = .ok (.iload 4, 2) := by decide +kernel
theorem dX9_guards_68 : decode cX9_guards 68 = .ok (.ireturn, 1) := by decide +kernel
theorem dX9_guards_69 : decode cX9_guards 69 = .ok (.aload_n 3, 1) := by decide +kernel
theorem dX9_guards_70 : decode cX9_guards 70 = .ok (.iload 4, 2) := by decide +kernel
theorem dX9_guards_72 : decode cX9_guards 72 = .ok (.invokestatic 243, 3) := by decide +kernel
theorem dX9_guards_75 : decode cX9_guards 75 = .ok (.invokevirtual 248, 3) := by decide +kernel
theorem dX9_guards_78 : decode cX9_guards 78 = .ok (.ireturn, 1) := by decide +kernel
def f_X9_guards (σ : St) (v1 : Int32) (v2 : Int32) : Option (Int32 × St) :=
  (if v1 < 0 then
    some ((-3 : Int32), σ)
     else
    (if (1 : Int32) < v1 then
      some ((-3 : Int32), σ)
       else
      (if v2 < 0 then
        some ((-3 : Int32), σ)
         else
        (if (2 : Int32) < v2 then
          some ((-3 : Int32), σ)
           else
          ck v1 2 <|
            bd v1.toNatClampNeg fun j1 =>
              cal (f_X2_leastSet σ j1) fun r2 s3 =>
                (if v2 = 0 then
                  calP (f_J6_bitCount_0f7a4 s3 r2) fun r7 =>
                    some (r7, s3)
                   else
                  (if v2 = 1 then
                    some (r2, s3)
                     else
                    calP (f_J6_bitCount_0f7a4 s3 r2) fun r4 =>
                      cal (f_X2_countSets s3 j1 r4) fun r5 s6 =>
                        some (r5, s6)))))))
set_option maxHeartbeats 4000000 in
set_option maxRecDepth 100000 in
theorem c_X9_guards (l : Launch) (E : Ev) (hF : Full E) (σ : St) (v1 : Int32) (v2 : Int32) : Ctr l (en2 enI) (fun q => q.2) E md_X9_guards [rV E 0, .int v1, .int v2] σ (f_X9_guards σ v1 v2) := by
  refine ctr_of rfl (Nat.le_of_ble_eq_true rfl) (fun Γ => ?_)
  show Sim _ Γ _ E md_X9_guards σ 0 [(0, rV E 0), (1, .int v1), (2, .int v2)] [] _
  unfold f_X9_guards
  refine s_iload_n dX9_guards_0 1 rfl rfl ?_
  refine s_if_lt 18 dX9_guards_1 (by decide) ?_ ?_
  · skip
    refine s_bipush (v := -3) dX9_guards_18 (by decide) ?_
    exact s_ireturn rfl rfl rfl dX9_guards_20
  · skip
    refine s_iload_n dX9_guards_4 1 rfl rfl ?_
    refine s_iconst (v := 1) dX9_guards_5 (by decide) ?_
    refine s_icmp_gt 18 dX9_guards_6 (by decide) ?_ ?_
    · skip
      refine s_bipush (v := -3) dX9_guards_18 (by decide) ?_
      exact s_ireturn rfl rfl rfl dX9_guards_20
    · skip
      refine s_iload_n dX9_guards_9 2 rfl rfl ?_
      refine s_if_lt 18 dX9_guards_10 (by decide) ?_ ?_
      · skip
        refine s_bipush (v := -3) dX9_guards_18 (by decide) ?_
        exact s_ireturn rfl rfl rfl dX9_guards_20
      · skip
        refine s_iload_n dX9_guards_13 2 rfl rfl ?_
        refine s_iconst (v := 2) dX9_guards_14 (by decide) ?_
        refine s_icmp_le 21 dX9_guards_15 (by decide) ?_ ?_
        · skip
          refine s_bipush (v := -3) dX9_guards_18 (by decide) ?_
          exact s_ireturn rfl rfl rfl dX9_guards_20
        · skip
          refine s_aload_n dX9_guards_21 0 rfl rfl ?_
          refine s_getr (b := 25) gf_X9_83 rfl (m0 hF) k0 (ft_of k0 rfl) (hF.2 _ _) rfl dX9_guards_22 ?_
          refine s_iload_n dX9_guards_25 1 rfl rfl ?_
          refine s_aald (m25 hF) k25 (by decide) 4 rfl l25 (fun _ _ => (hF.2 _ _)) dX9_guards_26 (fun j1 hj1 => ?_)
          rw [rA15 hj1]
          refine s_astore_n [(3, rV E (26 + 3 * j1)), (0, rV E 0), (1, .int v1), (2, .int v2)] dX9_guards_27 rfl (by decide) rfl ?_
          refine s_aload_n dX9_guards_28 0 rfl rfl ?_
          refine s_callVwI (As := []) mf_X2_leastSet vf_X2_leastSet ml_X9_241 (c_X2_leastSet _ E hF σ j1 hj1) (mG hF hj1) (kG hj1) (by decide) rfl rfl rfl rfl (Nat.le_of_ble_eq_true rfl) rfl dX9_guards_29 (fun r2 s3 => ?_)
          refine s_istore [(4, .int r2), (3, rV E (26 + 3 * j1)), (0, rV E 0), (1, .int v1), (2, .int v2)] dX9_guards_32 (by decide) rfl ?_
          refine s_iload_n dX9_guards_34 4 rfl rfl ?_
          refine s_lsw2 (tD := 69) (t0 := 60) (t1 := 66) dX9_guards_35 (by decide) (by decide) (by decide) ?_ ?_ ?_
          · skip
            refine s_aload_n dX9_guards_69 1 rfl rfl ?_
            refine s_iload dX9_guards_70 0 rfl ?_
            refine s_callSpI (As := [.int r2]) mf_J6_bitCount_0f7a4 vf_J6_bitCount_0f7a4 ml_X9_243 (c_J6_bitCount_0f7a4 _ E hF s3 r2) rfl rfl (Nat.le_of_ble_eq_true rfl) rfl dX9_guards_72 (fun r4 => ?_)
            refine s_callVwI (As := [.int r4]) mf_X2_countSets vf_X2_countSets ml_X9_248 (c_X2_countSets _ E hF s3 j1 hj1 r4) (mG hF hj1) (kG hj1) (by decide) rfl rfl rfl rfl (Nat.le_of_ble_eq_true rfl) rfl dX9_guards_75 (fun r5 s6 => ?_)
            exact s_ireturn rfl rfl rfl dX9_guards_78
          · skip
            refine s_iload dX9_guards_60 0 rfl ?_
            refine s_callSpI (As := [.int r2]) mf_J6_bitCount_0f7a4 vf_J6_bitCount_0f7a4 ml_X9_243 (c_J6_bitCount_0f7a4 _ E hF s3 r2) rfl rfl (Nat.le_of_ble_eq_true rfl) rfl dX9_guards_62 (fun r7 => ?_)
            exact s_ireturn rfl rfl rfl dX9_guards_65
          · skip
            refine s_iload dX9_guards_66 0 rfl ?_
            exact s_ireturn rfl rfl rfl dX9_guards_68
theorem dX9_answer_0 : decode cX9_answer 0 = .ok (.aload_n 0, 1) := by decide +kernel
theorem dX9_answer_1 : decode cX9_answer 1 = .ok (.getfield 14, 3) := by decide +kernel
theorem dX9_answer_4 : decode cX9_answer 4 = .ok (.iload_n 3, 1) := by decide +kernel
theorem dX9_answer_5 : decode cX9_answer 5 = .ok (.invokevirtual 111, 3) := by decide +kernel
theorem dX9_answer_8 : decode cX9_answer 8 = .ok (.ifCond .ne 6, 3) := by decide +kernel
theorem dX9_answer_11 : decode cX9_answer 11 = .ok (.bipush (-2), 2) := by decide +kernel
theorem dX9_answer_13 : decode cX9_answer 13 = .ok (.ireturn, 1) := by decide +kernel
theorem dX9_answer_14 : decode cX9_answer 14 = .ok (.aload_n 0, 1) := by decide +kernel
theorem dX9_answer_15 : decode cX9_answer 15 = .ok (.iload_n 1, 1) := by decide +kernel
theorem dX9_answer_16 : decode cX9_answer 16 = .ok (.iload_n 2, 1) := by decide +kernel
theorem dX9_answer_17 : decode cX9_answer 17 = .ok (.invokevirtual 235, 3) := by decide +kernel
theorem dX9_answer_20 : decode cX9_answer 20 = .ok (.ifCond .ne 6, 3) := by decide +kernel
theorem dX9_answer_23 : decode cX9_answer 23 = .ok (.bipush (-3), 2) := by decide +kernel
theorem dX9_answer_25 : decode cX9_answer 25 = .ok (.ireturn, 1) := by decide +kernel
theorem dX9_answer_26 : decode cX9_answer 26 = .ok (.iload_n 1, 1) := by decide +kernel
theorem dX9_answer_27 : decode cX9_answer 27 = .ok (.iload_n 3, 1) := by decide +kernel
theorem dX9_answer_28 : decode cX9_answer 28 = .ok (.invokestatic 125, 3) := by decide +kernel
theorem dX9_answer_31 : decode cX9_answer 31 = .ok (.ifCond .eq 8, 3) := by decide +kernel
theorem dX9_answer_34 : decode cX9_answer 34 = .ok (.bipush (-4), 2) := by decide +kernel
theorem dX9_answer_36 : decode cX9_answer 36 = .ok (.goto 14, 3) := by decide +kernel
theorem dX9_answer_39 : decode cX9_answer 39 = .ok (.aload_n 0, 1) := by decide +kernel
theorem dX9_answer_40 : decode cX9_answer 40 = .ok (.getfield 83, 3) := by decide +kernel
theorem dX9_answer_43 : decode cX9_answer 43 = .ok (.iload_n 2, 1) := by decide +kernel
theorem dX9_answer_44 : decode cX9_answer 44 = .ok (.aaload, 1) := by decide +kernel
theorem dX9_answer_45 : decode cX9_answer 45 = .ok (.iload_n 1, 1) := by decide +kernel
theorem dX9_answer_46 : decode cX9_answer 46 = .ok (.iload_n 3, 1) := by decide +kernel
theorem dX9_answer_47 : decode cX9_answer 47 = .ok (.invokevirtual 251, 3) := by decide +kernel
theorem dX9_answer_50 : decode cX9_answer 50 = .ok (.ireturn, 1) := by decide +kernel
def f_X9_answer (σ : St) (v1 : Int32) (v2 : Int32) (v3 : Int32) : Option (Int32 × St) :=
  calP (f_X3_known σ v3) fun r1 =>
    (if r1 = 0 then
      some ((-2 : Int32), σ)
       else
      calP (f_X9_isWatch σ v1 v2) fun r2 =>
        (if r2 = 0 then
          some ((-3 : Int32), σ)
           else
          calP (f_X9_has σ v1 v3) fun r3 =>
            (if r3 = 0 then
              ck v2 2 <|
                bd v2.toNatClampNeg fun j4 =>
                  cal (f_X2_leastAnswer σ j4 v1 v3) fun r5 s6 =>
                    some (r5, s6)
               else
              some ((-4 : Int32), σ))))
set_option maxHeartbeats 4000000 in
set_option maxRecDepth 100000 in
theorem c_X9_answer (l : Launch) (E : Ev) (hF : Full E) (σ : St) (v1 : Int32) (v2 : Int32) (v3 : Int32) : Ctr l (en2 enI) (fun q => q.2) E md_X9_answer [rV E 0, .int v1, .int v2, .int v3] σ (f_X9_answer σ v1 v2 v3) := by
  refine ctr_of rfl (Nat.le_of_ble_eq_true rfl) (fun Γ => ?_)
  show Sim _ Γ _ E md_X9_answer σ 0 [(0, rV E 0), (1, .int v1), (2, .int v2), (3, .int v3)] [] _
  unfold f_X9_answer
  refine s_aload_n dX9_answer_0 0 rfl rfl ?_
  refine s_getr (b := 1) gf_X9_14 rfl (m0 hF) k0 (ft_of k0 rfl) (hF.2 _ _) rfl dX9_answer_1 ?_
  refine s_iload_n dX9_answer_4 3 rfl rfl ?_
  refine s_callVpI (As := [.int v3]) mf_X3_known vf_X3_known ml_X9_111 (c_X3_known _ E hF σ v3) (m1 hF) k1 (by decide) rfl rfl rfl rfl (Nat.le_of_ble_eq_true rfl) rfl dX9_answer_5 (fun r1 => ?_)
  refine s_if_ne 14 dX9_answer_8 (by decide) ?_ ?_
  · skip
    refine s_bipush (v := -2) dX9_answer_11 (by decide) ?_
    exact s_ireturn rfl rfl rfl dX9_answer_13
  · skip
    refine s_aload_n dX9_answer_14 0 rfl rfl ?_
    refine s_iload_n dX9_answer_15 1 rfl rfl ?_
    refine s_iload_n dX9_answer_16 2 rfl rfl ?_
    refine s_callVpI (As := [.int v1, .int v2]) mf_X9_isWatch vf_X9_isWatch ml_X9_235 (c_X9_isWatch _ E hF σ v1 v2) (m0 hF) k0 (by decide) rfl rfl rfl rfl (Nat.le_of_ble_eq_true rfl) rfl dX9_answer_17 (fun r2 => ?_)
    refine s_if_ne 26 dX9_answer_20 (by decide) ?_ ?_
    · skip
      refine s_bipush (v := -3) dX9_answer_23 (by decide) ?_
      exact s_ireturn rfl rfl rfl dX9_answer_25
    · skip
      refine s_iload_n dX9_answer_26 1 rfl rfl ?_
      refine s_iload_n dX9_answer_27 3 rfl rfl ?_
      refine s_callSpI (As := [.int v1, .int v3]) mf_X9_has vf_X9_has ml_X9_125 (c_X9_has _ E hF σ v1 v3) rfl rfl (Nat.le_of_ble_eq_true rfl) rfl dX9_answer_28 (fun r3 => ?_)
      refine s_if_eq 39 dX9_answer_31 (by decide) ?_ ?_
      · skip
        refine s_aload_n dX9_answer_39 0 rfl rfl ?_
        refine s_getr (b := 25) gf_X9_83 rfl (m0 hF) k0 (ft_of k0 rfl) (hF.2 _ _) rfl dX9_answer_40 ?_
        refine s_iload_n dX9_answer_43 2 rfl rfl ?_
        refine s_aald (m25 hF) k25 (by decide) 4 rfl l25 (fun _ _ => (hF.2 _ _)) dX9_answer_44 (fun j4 hj4 => ?_)
        rw [rA15 hj4]
        refine s_iload_n dX9_answer_45 1 rfl rfl ?_
        refine s_iload_n dX9_answer_46 3 rfl rfl ?_
        refine s_callVwI (As := [.int v1, .int v3]) mf_X2_leastAnswer vf_X2_leastAnswer ml_X9_251 (c_X2_leastAnswer _ E hF σ j4 hj4 v1 v3) (mG hF hj4) (kG hj4) (by decide) rfl rfl rfl rfl (Nat.le_of_ble_eq_true rfl) rfl dX9_answer_47 (fun r5 s6 => ?_)
        exact s_ireturn rfl rfl rfl dX9_answer_50
      · skip
        refine s_bipush (v := -4) dX9_answer_34 (by decide) ?_
        refine s_goto 50 dX9_answer_36 (by decide) ?_
        exact s_ireturn rfl rfl rfl dX9_answer_50
theorem dX9_count_0 : decode cX9_count 0 = .ok (.iload_n 1, 1) := by decide +kernel
theorem dX9_count_1 : decode cX9_count 1 = .ok (.tableswitch 63 0 3 #[31, 39, 47, 55], 31) := by decide +kernel
theorem dX9_count_32 : decode cX9_count 32 = .ok (.aload_n 0, 1) := by decide +kernel
theorem dX9_count_33 : decode cX9_count 33 = .ok (.getfield 14, 3) := by decide +kernel
theorem dX9_count_36 : decode cX9_count 36 = .ok (.invokevirtual 98, 3) := by decide +kernel
theorem dX9_count_39 : decode cX9_count 39 = .ok (.ireturn, 1) := by decide +kernel
theorem dX9_count_40 : decode cX9_count 40 = .ok (.aload_n 0, 1) := by decide +kernel
theorem dX9_count_41 : decode cX9_count 41 = .ok (.getfield 14, 3) := by decide +kernel
theorem dX9_count_44 : decode cX9_count 44 = .ok (.invokevirtual 254, 3) := by decide +kernel
theorem dX9_count_47 : decode cX9_count 47 = .ok (.ireturn, 1) := by decide +kernel
theorem dX9_count_48 : decode cX9_count 48 = .ok (.aload_n 0, 1) := by decide +kernel
theorem dX9_count_49 : decode cX9_count 49 = .ok (.getfield 21, 3) := by decide +kernel
theorem dX9_count_52 : decode cX9_count 52 = .ok (.invokevirtual 91, 3) := by decide +kernel
theorem dX9_count_55 : decode cX9_count 55 = .ok (.ireturn, 1) := by decide +kernel
theorem dX9_count_56 : decode cX9_count 56 = .ok (.aload_n 0, 1) := by decide +kernel
theorem dX9_count_57 : decode cX9_count 57 = .ok (.getfield 46, 3) := by decide +kernel
theorem dX9_count_60 : decode cX9_count 60 = .ok (.invokevirtual 204, 3) := by decide +kernel
theorem dX9_count_63 : decode cX9_count 63 = .ok (.ireturn, 1) := by decide +kernel
theorem dX9_count_64 : decode cX9_count 64 = .ok (.bipush (-3), 2) := by decide +kernel
theorem dX9_count_66 : decode cX9_count 66 = .ok (.ireturn, 1) := by decide +kernel
def f_X9_count (σ : St) (v1 : Int32) : Option Int32 :=
  (if v1 = 0 then
    calP (f_X3_places σ) fun r1 =>
      some r1
     else
    (if v1 = 1 then
      calP (f_X3_pairs σ) fun r2 =>
        some r2
       else
      (if v1 = 2 then
        calP (f_X7_length σ) fun r3 =>
          some r3
         else
        (if v1 = 3 then
          calP (f_X5_gone σ) fun r4 =>
            some r4
           else
          some (-3 : Int32)))))
set_option maxHeartbeats 4000000 in
set_option maxRecDepth 100000 in
theorem c_X9_count (l : Launch) (E : Ev) (hF : Full E) (σ : St) (v1 : Int32) : Ctr l enI (fun _ => σ) E md_X9_count [rV E 0, .int v1] σ (f_X9_count σ v1) := by
  refine ctr_of rfl (Nat.le_of_ble_eq_true rfl) (fun Γ => ?_)
  show Sim _ Γ _ E md_X9_count σ 0 [(0, rV E 0), (1, .int v1)] [] _
  unfold f_X9_count
  refine s_iload_n dX9_count_0 1 rfl rfl ?_
  refine s_tsw4 (tD := 64) (t0 := 32) (t1 := 40) (t2 := 48) (t3 := 56) dX9_count_1 (by decide) (by decide) (by decide) (by decide) (by decide) ?_ ?_ ?_ ?_ ?_
  · skip
    refine s_bipush (v := -3) dX9_count_64 (by decide) ?_
    exact s_ireturn rfl rfl rfl dX9_count_66
  · skip
    refine s_aload_n dX9_count_32 0 rfl rfl ?_
    refine s_getr (b := 1) gf_X9_14 rfl (m0 hF) k0 (ft_of k0 rfl) (hF.2 _ _) rfl dX9_count_33 ?_
    refine s_callVpI (As := []) mf_X3_places vf_X3_places ml_X9_98 (c_X3_places _ E hF σ) (m1 hF) k1 (by decide) rfl rfl rfl rfl (Nat.le_of_ble_eq_true rfl) rfl dX9_count_36 (fun r1 => ?_)
    exact s_ireturn rfl rfl rfl dX9_count_39
  · skip
    refine s_aload_n dX9_count_40 0 rfl rfl ?_
    refine s_getr (b := 1) gf_X9_14 rfl (m0 hF) k0 (ft_of k0 rfl) (hF.2 _ _) rfl dX9_count_41 ?_
    refine s_callVpI (As := []) mf_X3_pairs vf_X3_pairs ml_X9_254 (c_X3_pairs _ E hF σ) (m1 hF) k1 (by decide) rfl rfl rfl rfl (Nat.le_of_ble_eq_true rfl) rfl dX9_count_44 (fun r2 => ?_)
    exact s_ireturn rfl rfl rfl dX9_count_47
  · skip
    refine s_aload_n dX9_count_48 0 rfl rfl ?_
    refine s_getr (b := 6) gf_X9_21 rfl (m0 hF) k0 (ft_of k0 rfl) (hF.2 _ _) rfl dX9_count_49 ?_
    refine s_callVpI (As := []) mf_X7_length vf_X7_length ml_X9_91 (c_X7_length _ E hF σ) (m6 hF) k6 (by decide) rfl rfl rfl rfl (Nat.le_of_ble_eq_true rfl) rfl dX9_count_52 (fun r3 => ?_)
    exact s_ireturn rfl rfl rfl dX9_count_55
  · skip
    refine s_aload_n dX9_count_56 0 rfl rfl ?_
    refine s_getr (b := 13) gf_X9_46 rfl (m0 hF) k0 (ft_of k0 rfl) (hF.2 _ _) rfl dX9_count_57 ?_
    refine s_callVpI (As := []) mf_X5_gone vf_X5_gone ml_X9_204 (c_X5_gone _ E hF σ) (m13 hF) k13 (by decide) rfl rfl rfl rfl (Nat.le_of_ble_eq_true rfl) rfl dX9_count_60 (fun r4 => ?_)
    exact s_ireturn rfl rfl rfl dX9_count_63
