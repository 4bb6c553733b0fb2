theorem dX3_places_0 : decode cX3_places 0 = .ok (.aload_n 0, 1) := by decide +kernel
theorem dX3_places_1 : decode cX3_places 1 = .ok (.getfield 31, 3) := by decide +kernel
theorem dX3_places_4 : decode cX3_places 4 = .ok (.ireturn, 1) := by decide +kernel
def f_X3_places (σ : St) : Option Int32 :=
  some (σ.1 1 0)
set_option maxHeartbeats 4000000 in
set_option maxRecDepth 100000 in
theorem c_X3_places (l : Launch) (E : Ev) (hF : Full E) (σ : St) : Ctr l enI (fun _ => σ) E md_X3_places [rV E 1] σ (f_X3_places σ) := by
  refine ctr_of rfl (Nat.le_of_ble_eq_true rfl) (fun Γ => ?_)
  show Sim _ Γ _ E md_X3_places σ 0 [(0, rV E 1)] [] _
  unfold f_X3_places
  refine s_aload_n dX3_places_0 0 rfl rfl ?_
  refine s_geti gf_X3_31 rfl (m1 hF) k1 (ft_of k1 rfl) dX3_places_1 ?_
  exact s_ireturn rfl rfl rfl dX3_places_4
theorem dX3_changes_0 : decode cX3_changes 0 = .ok (.aload_n 0, 1) := by decide +kernel
theorem dX3_changes_1 : decode cX3_changes 1 = .ok (.getfield 35, 3) := by decide +kernel
theorem dX3_changes_4 : decode cX3_changes 4 = .ok (.ireturn, 1) := by decide +kernel
def f_X3_changes (σ : St) : Option Int32 :=
  some (σ.1 1 1)
set_option maxHeartbeats 4000000 in
set_option maxRecDepth 100000 in
theorem c_X3_changes (l : Launch) (E : Ev) (hF : Full E) (σ : St) : Ctr l enI (fun _ => σ) E md_X3_changes [rV E 1] σ (f_X3_changes σ) := by
  refine ctr_of rfl (Nat.le_of_ble_eq_true rfl) (fun Γ => ?_)
  show Sim _ Γ _ E md_X3_changes σ 0 [(0, rV E 1)] [] _
  unfold f_X3_changes
  refine s_aload_n dX3_changes_0 0 rfl rfl ?_
  refine s_geti gf_X3_35 rfl (m1 hF) k1 (ft_of k1 rfl) dX3_changes_1 ?_
  exact s_ireturn rfl rfl rfl dX3_changes_4
theorem dX3_all_0 : decode cX3_all 0 = .ok (.iconst 1, 1) := by decide +kernel
theorem dX3_all_1 : decode cX3_all 1 = .ok (.aload_n 0, 1) := by decide +kernel
theorem dX3_all_2 : decode cX3_all 2 = .ok (.getfield 31, 3) := by decide +kernel
theorem dX3_all_5 : decode cX3_all 5 = .ok (.ishl, 1) := by decide +kernel
theorem dX3_all_6 : decode cX3_all 6 = .ok (.iconst 1, 1) := by decide +kernel
theorem dX3_all_7 : decode cX3_all 7 = .ok (.isub, 1) := by decide +kernel
theorem dX3_all_8 : decode cX3_all 8 = .ok (.ireturn, 1) := by decide +kernel
def f_X3_all (σ : St) : Option Int32 :=
  some (((1 : Int32) <<< ((σ.1 1 0) &&& 31)) - (1 : Int32))
set_option maxHeartbeats 4000000 in
set_option maxRecDepth 100000 in
theorem c_X3_all (l : Launch) (E : Ev) (hF : Full E) (σ : St) : Ctr l enI (fun _ => σ) E md_X3_all [rV E 1] σ (f_X3_all σ) := by
  refine ctr_of rfl (Nat.le_of_ble_eq_true rfl) (fun Γ => ?_)
  show Sim _ Γ _ E md_X3_all σ 0 [(0, rV E 1)] [] _
  unfold f_X3_all
  refine s_iconst (v := 1) dX3_all_0 (by decide) ?_
  refine s_aload_n dX3_all_1 0 rfl rfl ?_
  refine s_geti gf_X3_31 rfl (m1 hF) k1 (ft_of k1 rfl) dX3_all_2 ?_
  refine s_ishl dX3_all_5 ?_
  refine s_iconst (v := 1) dX3_all_6 (by decide) ?_
  refine s_isub dX3_all_7 ?_
  exact s_ireturn rfl rfl rfl dX3_all_8
theorem dX3_known_0 : decode cX3_known 0 = .ok (.iload_n 1, 1) := by decide +kernel
theorem dX3_known_1 : decode cX3_known 1 = .ok (.ifCond .lt 15, 3) := by decide +kernel
theorem dX3_known_4 : decode cX3_known 4 = .ok (.iload_n 1, 1) := by decide +kernel
theorem dX3_known_5 : decode cX3_known 5 = .ok (.aload_n 0, 1) := by decide +kernel
theorem dX3_known_6 : decode cX3_known 6 = .ok (.getfield 31, 3) := by decide +kernel
theorem dX3_known_9 : decode cX3_known 9 = .ok (.if_icmp .ge 7, 3) := by decide +kernel
theorem dX3_known_12 : decode cX3_known 12 = .ok (.iconst 1, 1) := by decide +kernel
theorem dX3_known_13 : decode cX3_known 13 = .ok (.goto 4, 3) := by decide +kernel
theorem dX3_known_16 : decode cX3_known 16 = .ok (.iconst 0, 1) := by decide +kernel
theorem dX3_known_17 : decode cX3_known 17 = .ok (.ireturn, 1) := by decide +kernel
def f_X3_known (σ : St) (v1 : Int32) : Option Int32 :=
  (if v1 < 0 then
    some (0 : Int32)
     else
    (if v1 < (σ.1 1 0) then
      some (1 : Int32)
       else
      some (0 : Int32)))
set_option maxHeartbeats 4000000 in
set_option maxRecDepth 100000 in
theorem c_X3_known (l : Launch) (E : Ev) (hF : Full E) (σ : St) (v1 : Int32) : Ctr l enI (fun _ => σ) E md_X3_known [rV E 1, .int v1] σ (f_X3_known σ v1) := by
  refine ctr_of rfl (Nat.le_of_ble_eq_true rfl) (fun Γ => ?_)
  show Sim _ Γ _ E md_X3_known σ 0 [(0, rV E 1), (1, .int v1)] [] _
  unfold f_X3_known
  refine s_iload_n dX3_known_0 1 rfl rfl ?_
  refine s_if_lt 16 dX3_known_1 (by decide) ?_ ?_
  · skip
    refine s_iconst (v := 0) dX3_known_16 (by decide) ?_
    exact s_zreturn rfl (by decide) rfl rfl dX3_known_17
  · skip
    refine s_iload_n dX3_known_4 1 rfl rfl ?_
    refine s_aload_n dX3_known_5 0 rfl rfl ?_
    refine s_geti gf_X3_31 rfl (m1 hF) k1 (ft_of k1 rfl) dX3_known_6 ?_
    refine s_icmp_ge 16 dX3_known_9 (by decide) ?_ ?_
    · skip
      refine s_iconst (v := 1) dX3_known_12 (by decide) ?_
      refine s_goto 17 dX3_known_13 (by decide) ?_
      exact s_zreturn rfl (by decide) rfl rfl dX3_known_17
    · skip
      refine s_iconst (v := 0) dX3_known_16 (by decide) ?_
      exact s_zreturn rfl (by decide) rfl rfl dX3_known_17
theorem dX3_holdsAll_0 : decode cX3_holdsAll 0 = .ok (.iload_n 1, 1) := by decide +kernel
theorem dX3_holdsAll_1 : decode cX3_holdsAll 1 = .ok (.aload_n 0, 1) := by decide +kernel
theorem dX3_holdsAll_2 : decode cX3_holdsAll 2 = .ok (.invokevirtual 38, 3) := by decide +kernel
theorem dX3_holdsAll_5 : decode cX3_holdsAll 5 = .ok (.iconst (-1), 1) := by decide +kernel
theorem dX3_holdsAll_6 : decode cX3_holdsAll 6 = .ok (.ixor, 1) := by decide +kernel
theorem dX3_holdsAll_7 : decode cX3_holdsAll 7 = .ok (.iand, 1) := by decide +kernel
theorem dX3_holdsAll_8 : decode cX3_holdsAll 8 = .ok (.ifCond .ne 7, 3) := by decide +kernel
theorem dX3_holdsAll_11 : decode cX3_holdsAll 11 = .ok (.iconst 1, 1) := by decide +kernel
theorem dX3_holdsAll_12 : decode cX3_holdsAll 12 = .ok (.goto 4, 3) := by decide +kernel
theorem dX3_holdsAll_15 : decode cX3_holdsAll 15 = .ok (.iconst 0, 1) := by decide +kernel
theorem dX3_holdsAll_16 : decode cX3_holdsAll 16 = .ok (.ireturn, 1) := by decide +kernel
def f_X3_holdsAll (σ : St) (v1 : Int32) : Option Int32 :=
  calP (f_X3_all σ) fun r1 =>
    (if (v1 &&& (r1 ^^^ (-1 : Int32))) = 0 then
      some (1 : Int32)
       else
      some (0 : Int32))
set_option maxHeartbeats 4000000 in
set_option maxRecDepth 100000 in
theorem c_X3_holdsAll (l : Launch) (E : Ev) (hF : Full E) (σ : St) (v1 : Int32) : Ctr l enI (fun _ => σ) E md_X3_holdsAll [rV E 1, .int v1] σ (f_X3_holdsAll σ v1) := by
  refine ctr_of rfl (Nat.le_of_ble_eq_true rfl) (fun Γ => ?_)
  show Sim _ Γ _ E md_X3_holdsAll σ 0 [(0, rV E 1), (1, .int v1)] [] _
  unfold f_X3_holdsAll
  refine s_iload_n dX3_holdsAll_0 1 rfl rfl ?_
  refine s_aload_n dX3_holdsAll_1 0 rfl rfl ?_
  refine s_callVpI (As := []) mf_X3_all vf_X3_all ml_X3_38 (c_X3_all _ E hF σ) (m1 hF) k1 (by decide) rfl rfl rfl rfl (Nat.le_of_ble_eq_true rfl) rfl dX3_holdsAll_2 (fun r1 => ?_)
  refine s_iconst (v := -1) dX3_holdsAll_5 (by decide) ?_
  refine s_ixor dX3_holdsAll_6 ?_
  refine s_iand dX3_holdsAll_7 ?_
  refine s_if_ne 15 dX3_holdsAll_8 (by decide) ?_ ?_
  · skip
    refine s_iconst (v := 1) dX3_holdsAll_11 (by decide) ?_
    refine s_goto 16 dX3_holdsAll_12 (by decide) ?_
    exact s_zreturn rfl (by decide) rfl rfl dX3_holdsAll_16
  · skip
    refine s_iconst (v := 0) dX3_holdsAll_15 (by decide) ?_
    exact s_zreturn rfl (by decide) rfl rfl dX3_holdsAll_16
theorem dX3_reset_0 : decode cX3_reset 0 = .ok (.aload_n 0, 1) := by decide +kernel
theorem dX3_reset_1 : decode cX3_reset 1 = .ok (.iload_n 1, 1) := by decide +kernel
theorem dX3_reset_2 : decode cX3_reset 2 = .ok (.putfield 31, 3) := by decide +kernel
theorem dX3_reset_5 : decode cX3_reset 5 = .ok (.iconst 0, 1) := by decide +kernel
theorem dX3_reset_6 : decode cX3_reset 6 = .ok (.istore_n 2, 1) := by decide +kernel
theorem dX3_reset_7 : decode cX3_reset 7 = .ok (.iload_n 2, 1) := by decide +kernel
theorem dX3_reset_8 : decode cX3_reset 8 = .ok (.bipush 8, 2) := by decide +kernel
theorem dX3_reset_10 : decode cX3_reset 10 = .ok (.if_icmp .ge 39, 3) := by decide +kernel
theorem dX3_reset_13 : decode cX3_reset 13 = .ok (.aload_n 0, 1) := by decide +kernel
theorem dX3_reset_14 : decode cX3_reset 14 = .ok (.getfield 9, 3) := by decide +kernel
theorem dX3_reset_17 : decode cX3_reset 17 = .ok (.iload_n 2, 1) := by decide +kernel
theorem dX3_reset_18 : decode cX3_reset 18 = .ok (.iload_n 2, 1) := by decide +kernel
theorem dX3_reset_19 : decode cX3_reset 19 = .ok (.iload_n 1, 1) := by decide +kernel
theorem dX3_reset_20 : decode cX3_reset 20 = .ok (.if_icmp .ge 9, 3) := by decide +kernel
theorem dX3_reset_23 : decode cX3_reset 23 = .ok (.iconst 1, 1) := by decide +kernel
theorem dX3_reset_24 : decode cX3_reset 24 = .ok (.iload_n 2, 1) := by decide +kernel
theorem dX3_reset_25 : decode cX3_reset 25 = .ok (.ishl, 1) := by decide +kernel
theorem dX3_reset_26 : decode cX3_reset 26 = .ok (.goto 4, 3) := by decide +kernel
theorem dX3_reset_29 : decode cX3_reset 29 = .ok (.iconst 0, 1) := by decide +kernel
theorem dX3_reset_30 : decode cX3_reset 30 = .ok (.iastore, 1) := by decide +kernel
theorem dX3_reset_31 : decode cX3_reset 31 = .ok (.aload_n 0, 1) := by decide +kernel
theorem dX3_reset_32 : decode cX3_reset 32 = .ok (.getfield 15, 3) := by decide +kernel
theorem dX3_reset_35 : decode cX3_reset 35 = .ok (.iload_n 2, 1) := by decide +kernel
theorem dX3_reset_36 : decode cX3_reset 36 = .ok (.aload_n 0, 1) := by decide +kernel
theorem dX3_reset_37 : decode cX3_reset 37 = .ok (.getfield 9, 3) := by decide +kernel
theorem dX3_reset_40 : decode cX3_reset 40 = .ok (.iload_n 2, 1) := by decide +kernel
theorem dX3_reset_41 : decode cX3_reset 41 = .ok (.iaload, 1) := by decide +kernel
theorem dX3_reset_42 : decode cX3_reset 42 = .ok (.iastore, 1) := by decide +kernel
theorem dX3_reset_43 : decode cX3_reset 43 = .ok (.iinc 2 1, 3) := by decide +kernel
theorem dX3_reset_46 : decode cX3_reset 46 = .ok (.goto (-39), 3) := by decide +kernel
theorem dX3_reset_49 : decode cX3_reset 49 = .ok (.return_, 1) := by decide +kernel
def f_X3_reset (σ : St) (v1 : Int32) : Option (Unit × St) :=
  bd (setI σ 1 0 v1) fun s1 =>
    lo2 FU (fun rec4 (s2 : St) (x3 : Int32) =>
      (if x3 < (8 : Int32) then
        bd (if x3 < v1 then ((1 : Int32) <<< (x3 &&& 31)) else (0 : Int32)) fun x6 =>
          ck x3 8 <|
            bd (setI s2 2 x3.toNatClampNeg x6) fun s8 =>
              ck x3 8 <|
                ck x3 8 <|
                  bd (setI s8 3 x3.toNatClampNeg (s8.1 2 x3.toNatClampNeg)) fun s9 =>
                    rec4 s9 (x3 + 1)
         else
        some ((), s2))) s1 (0 : Int32)
set_option maxHeartbeats 4000000 in
set_option maxRecDepth 100000 in
theorem c_X3_reset (l : Launch) (E : Ev) (hF : Full E) (σ : St) (v1 : Int32) : Ctr l (en2 enV) (fun q => q.2) E md_X3_reset [rV E 1, .int v1] σ (f_X3_reset σ v1) := by
  refine ctr_of rfl (Nat.le_of_ble_eq_true rfl) (fun Γ => ?_)
  show Sim _ Γ _ E md_X3_reset σ 0 [(0, rV E 1), (1, .int v1)] [] _
  unfold f_X3_reset
  refine s_aload_n dX3_reset_0 0 rfl rfl ?_
  refine s_iload_n dX3_reset_1 1 rfl rfl ?_
  refine s_puti gf_X3_31 rfl (m1 hF) k1 (ft_of k1 rfl) dX3_reset_2 (fun s1 => ?_)
  refine s_iconst (v := 0) dX3_reset_5 (by decide) ?_
  refine s_istore_n [(2, .int (0 : Int32)), (0, rV E 1), (1, .int v1)] dX3_reset_6 rfl (by decide) rfl ?_
  refine s_sub (lv' := [(0, rV E 1), (1, .int v1), (2, .int (0 : Int32))]) [1, 2, 0] rfl ?_
  refine s_lo2 (σf := fun s2 x3 => s2) (lvf := fun s2 x3 => [(0, rV E 1), (1, .int v1), (2, .int x3)]) (fun rec4 ih5 s2 x3 => ?_)
  refine s_iload_n dX3_reset_7 2 rfl rfl ?_
  refine s_bipush (v := 8) dX3_reset_8 (by decide) ?_
  refine s_icmp_ge 49 dX3_reset_10 (by decide) ?_ ?_
  · skip
    refine s_aload_n dX3_reset_13 0 rfl rfl ?_
    refine s_getr (b := 2) gf_X3_9 rfl (m1 hF) k1 (ft_of k1 rfl) (hF.2 _ _) rfl dX3_reset_14 ?_
    refine s_iload_n dX3_reset_17 2 rfl rfl ?_
    refine s_iload_n dX3_reset_18 2 rfl rfl ?_
    refine s_iload_n dX3_reset_19 1 rfl rfl ?_
    refine s_bd 30 (fun x6 => [(0, rV E 1), (1, .int v1), (2, .int x3)]) (fun x6 => [.int x6, .int x3, rV E 2]) (fun jk7 => (if x3 < v1 then jk7 ((1 : Int32) <<< (x3 &&& 31)) else jk7 (0 : Int32))) (fun jk7 => (j_ite rfl rfl)) ?_ ?_
    · intro x6
      refine s_iast (m2 hF) k2 l2 dX3_reset_30 (fun s8 => ?_)
      refine s_aload_n dX3_reset_31 0 rfl rfl ?_
      refine s_getr (b := 3) gf_X3_15 rfl (m1 hF) k1 (ft_of k1 rfl) (hF.2 _ _) rfl dX3_reset_32 ?_
      refine s_iload_n dX3_reset_35 2 rfl rfl ?_
      refine s_aload_n dX3_reset_36 0 rfl rfl ?_
      refine s_getr (b := 2) gf_X3_9 rfl (m1 hF) k1 (ft_of k1 rfl) (hF.2 _ _) rfl dX3_reset_37 ?_
      refine s_iload_n dX3_reset_40 2 rfl rfl ?_
      refine s_iald (m2 hF) k2 l2 dX3_reset_41 ?_
      refine s_iast (m3 hF) k3 l3 dX3_reset_42 (fun s9 => ?_)
      refine s_iinc [(2, .int (x3 + 1)), (0, rV E 1), (1, .int v1)] dX3_reset_43 2 rfl rfl (by decide) rfl ?_
      refine s_goto 7 dX3_reset_46 (by decide) ?_
      refine s_sub [1, 2, 0] rfl ?_
      exact ih5 s9 (x3 + 1)
    · intro jk7 hjk7
      refine s_icmp_ge 29 dX3_reset_20 (by decide) ?_ ?_
      · skip
        refine s_iconst (v := 1) dX3_reset_23 (by decide) ?_
        refine s_iload_n dX3_reset_24 2 rfl rfl ?_
        refine s_ishl dX3_reset_25 ?_
        refine s_goto 30 dX3_reset_26 (by decide) ?_
        exact hjk7 ((1 : Int32) <<< (x3 &&& 31))
      · skip
        refine s_iconst (v := 0) dX3_reset_29 (by decide) ?_
        exact hjk7 (0 : Int32)
  · skip
    exact s_return rfl rfl rfl dX3_reset_49
theorem dX3_set_0 : decode cX3_set 0 = .ok (.aload_n 0, 1) := by decide +kernel
theorem dX3_set_1 : decode cX3_set 1 = .ok (.iload_n 1, 1) := by decide +kernel
theorem dX3_set_2 : decode cX3_set 2 = .ok (.invokevirtual 42, 3) := by decide +kernel
theorem dX3_set_5 : decode cX3_set 5 = .ok (.ifCond .eq 16, 3) := by decide +kernel
theorem dX3_set_8 : decode cX3_set 8 = .ok (.aload_n 0, 1) := by decide +kernel
theorem dX3_set_9 : decode cX3_set 9 = .ok (.iload_n 2, 1) := by decide +kernel
theorem dX3_set_10 : decode cX3_set 10 = .ok (.invokevirtual 42, 3) := by decide +kernel
theorem dX3_set_13 : decode cX3_set 13 = .ok (.ifCond .eq 8, 3) := by decide +kernel
theorem dX3_set_16 : decode cX3_set 16 = .ok (.iload_n 1, 1) := by decide +kernel
theorem dX3_set_17 : decode cX3_set 17 = .ok (.iload_n 2, 1) := by decide +kernel
theorem dX3_set_18 : decode cX3_set 18 = .ok (.if_icmp .ne 4, 3) := by decide +kernel
theorem dX3_set_21 : decode cX3_set 21 = .ok (.return_, 1) := by decide +kernel
theorem dX3_set_22 : decode cX3_set 22 = .ok (.iload_n 3, 1) := by decide +kernel
theorem dX3_set_23 : decode cX3_set 23 = .ok (.ifCond .eq 30, 3) := by decide +kernel
theorem dX3_set_26 : decode cX3_set 26 = .ok (.aload_n 0, 1) := by decide +kernel
theorem dX3_set_27 : decode cX3_set 27 = .ok (.getfield 9, 3) := by decide +kernel
theorem dX3_set_30 : decode cX3_set 30 = .ok (.iload_n 1, 1) := by decide +kernel
theorem dX3_set_31 : decode cX3_set 31 = .ok (.dup2, 1) := by decide +kernel
theorem dX3_set_32 : decode cX3_set 32 = .ok (.iaload, 1) := by decide +kernel
theorem dX3_set_33 : decode cX3_set 33 = .ok (.iconst 1, 1) := by decide +kernel
theorem dX3_set_34 : decode cX3_set 34 = .ok (.iload_n 2, 1) := by decide +kernel
theorem dX3_set_35 : decode cX3_set 35 = .ok (.ishl, 1) := by decide +kernel
theorem dX3_set_36 : decode cX3_set 36 = .ok (.ior, 1) := by decide +kernel
theorem dX3_set_37 : decode cX3_set 37 = .ok (.iastore, 1) := by decide +kernel
theorem dX3_set_38 : decode cX3_set 38 = .ok (.aload_n 0, 1) := by decide +kernel
theorem dX3_set_39 : decode cX3_set 39 = .ok (.getfield 15, 3) := by decide +kernel
theorem dX3_set_42 : decode cX3_set 42 = .ok (.iload_n 2, 1) := by decide +kernel
theorem dX3_set_43 : decode cX3_set 43 = .ok (.dup2, 1) := by decide +kernel
theorem dX3_set_44 : decode cX3_set 44 = .ok (.iaload, 1) := by decide +kernel
theorem dX3_set_45 : decode cX3_set 45 = .ok (.iconst 1, 1) := by decide +kernel
theorem dX3_set_46 : decode cX3_set 46 = .ok (.iload_n 1, 1) := by decide +kernel
theorem dX3_set_47 : decode cX3_set 47 = .ok (.ishl, 1) := by decide +kernel
theorem dX3_set_48 : decode cX3_set 48 = .ok (.ior, 1) := by decide +kernel
theorem dX3_set_49 : decode cX3_set 49 = .ok (.iastore, 1) := by decide +kernel
theorem dX3_set_50 : decode cX3_set 50 = .ok (.goto 31, 3) := by decide +kernel
theorem dX3_set_53 : decode cX3_set 53 = .ok (.aload_n 0, 1) := by decide +kernel
theorem dX3_set_54 : decode cX3_set 54 = .ok (.getfield 9, 3) := by decide +kernel
theorem dX3_set_57 : decode cX3_set 57 = .ok (.iload_n 1, 1) := by decide +kernel
theorem dX3_set_58 : decode cX3_set 58 = .ok (.dup2, 1) := by decide +kernel
theorem dX3_set_59 : decode cX3_set 59 = .ok (.iaload, 1) := by decide +kernel
theorem dX3_set_60 : decode cX3_set 60 = .ok (.iconst 1, 1) := by decide +kernel
theorem dX3_set_61 : decode cX3_set 61 = .ok (.iload_n 2, 1) := by decide +kernel
theorem dX3_set_62 : decode cX3_set 62 = .ok (.ishl, 1) := by decide +kernel
theorem dX3_set_63 : decode cX3_set 63 = .ok (.iconst (-1), 1) := by decide +kernel
theorem dX3_set_64 : decode cX3_set 64 = .ok (.ixor, 1) := by decide +kernel
theorem dX3_set_65 : decode cX3_set 65 = .ok (.iand, 1) := by decide +kernel
theorem dX3_set_66 : decode cX3_set 66 = .ok (.iastore, 1) := by decide +kernel
theorem dX3_set_67 : decode cX3_set 67 = .ok (.aload_n 0, 1) := by decide +kernel
theorem dX3_set_68 : decode cX3_set 68 = .ok (.getfield 15, 3) := by decide +kernel
theorem dX3_set_71 : decode cX3_set 71 = .ok (.iload_n 2, 1) := by decide +kernel
theorem dX3_set_72 : decode cX3_set 72 = .ok (.dup2, 1) := by decide +kernel
theorem dX3_set_73 : decode cX3_set 73 = .ok (.iaload, 1) := by decide +kernel
theorem dX3_set_74 : decode cX3_set 74 = .ok (.iconst 1, 1) := by decide +kernel
theorem dX3_set_75 : decode cX3_set 75 = .ok (.iload_n 1, 1) := by decide +kernel
theorem dX3_set_76 : decode cX3_set 76 = .ok (.ishl, 1) := by decide +kernel
theorem dX3_set_77 : decode cX3_set 77 = .ok (.iconst (-1), 1) := by decide +kernel
theorem dX3_set_78 : decode cX3_set 78 = .ok (.ixor, 1) := by decide +kernel
theorem dX3_set_79 : decode cX3_set 79 = .ok (.iand, 1) := by decide +kernel
theorem dX3_set_80 : decode cX3_set 80 = .ok (.iastore, 1) := by decide +kernel
theorem dX3_set_81 : decode cX3_set 81 = .ok (.return_, 1) := by decide +kernel
def f_X3_set (σ : St) (v1 : Int32) (v2 : Int32) (v3 : Int32) : Option (Unit × St) :=
  calP (f_X3_known σ v1) fun r1 =>
    (if r1 = 0 then
      some ((), σ)
       else
      calP (f_X3_known σ v2) fun r2 =>
        (if r2 = 0 then
          some ((), σ)
           else
          (if v1 = v2 then
            some ((), σ)
             else
            (if v3 = 0 then
              ck v1 8 <|
                ck v1 8 <|
                  bd (setI σ 2 v1.toNatClampNeg ((σ.1 2 v1.toNatClampNeg) &&& (((1 : Int32) <<< (v2 &&& 31)) ^^^ (-1 : Int32)))) fun s3 =>
                    ck v2 8 <|
                      ck v2 8 <|
                        bd (setI s3 3 v2.toNatClampNeg ((s3.1 3 v2.toNatClampNeg) &&& (((1 : Int32) <<< (v1 &&& 31)) ^^^ (-1 : Int32)))) fun s4 =>
                          some ((), s4)
               else
              ck v1 8 <|
                ck v1 8 <|
                  bd (setI σ 2 v1.toNatClampNeg ((σ.1 2 v1.toNatClampNeg) ||| ((1 : Int32) <<< (v2 &&& 31)))) fun s5 =>
                    ck v2 8 <|
                      ck v2 8 <|
                        bd (setI s5 3 v2.toNatClampNeg ((s5.1 3 v2.toNatClampNeg) ||| ((1 : Int32) <<< (v1 &&& 31)))) fun s6 =>
                          some ((), s6)))))
set_option maxHeartbeats 4000000 in
set_option maxRecDepth 100000 in
theorem c_X3_set (l : Launch) (E : Ev) (hF : Full E) (σ : St) (v1 : Int32) (v2 : Int32) (v3 : Int32) : Ctr l (en2 enV) (fun q => q.2) E md_X3_set [rV E 1, .int v1, .int v2, .int v3] σ (f_X3_set σ v1 v2 v3) := by
  refine ctr_of rfl (Nat.le_of_ble_eq_true rfl) (fun Γ => ?_)
  show Sim _ Γ _ E md_X3_set σ 0 [(0, rV E 1), (1, .int v1), (2, .int v2), (3, .int v3)] [] _
  unfold f_X3_set
  refine s_aload_n dX3_set_0 0 rfl rfl ?_
  refine s_iload_n dX3_set_1 1 rfl rfl ?_
  refine s_callVpI (As := [.int v1]) mf_X3_known vf_X3_known ml_X3_42 (c_X3_known _ E hF σ v1) (m1 hF) k1 (by decide) rfl rfl rfl rfl (Nat.le_of_ble_eq_true rfl) rfl dX3_set_2 (fun r1 => ?_)
  refine s_if_eq 21 dX3_set_5 (by decide) ?_ ?_
  · skip
    exact s_return rfl rfl rfl dX3_set_21
  · skip
    refine s_aload_n dX3_set_8 0 rfl rfl ?_
    refine s_iload_n dX3_set_9 2 rfl rfl ?_
    refine s_callVpI (As := [.int v2]) mf_X3_known vf_X3_known ml_X3_42 (c_X3_known _ E hF σ v2) (m1 hF) k1 (by decide) rfl rfl rfl rfl (Nat.le_of_ble_eq_true rfl) rfl dX3_set_10 (fun r2 => ?_)
    refine s_if_eq 21 dX3_set_13 (by decide) ?_ ?_
    · skip
      exact s_return rfl rfl rfl dX3_set_21
    · skip
      refine s_iload_n dX3_set_16 1 rfl rfl ?_
      refine s_iload_n dX3_set_17 2 rfl rfl ?_
      refine s_icmp_ne 22 dX3_set_18 (by decide) ?_ ?_
      · skip
        exact s_return rfl rfl rfl dX3_set_21
      · skip
        refine s_iload_n dX3_set_22 3 rfl rfl ?_
        refine s_if_eq 53 dX3_set_23 (by decide) ?_ ?_
        · skip
          refine s_aload_n dX3_set_53 0 rfl rfl ?_
          refine s_getr (b := 2) gf_X3_9 rfl (m1 hF) k1 (ft_of k1 rfl) (hF.2 _ _) rfl dX3_set_54 ?_
          refine s_iload_n dX3_set_57 1 rfl rfl ?_
          refine s_dup2 dX3_set_58 rfl rfl ?_
          refine s_iald (m2 hF) k2 l2 dX3_set_59 ?_
          refine s_iconst (v := 1) dX3_set_60 (by decide) ?_
          refine s_iload_n dX3_set_61 2 rfl rfl ?_
          refine s_ishl dX3_set_62 ?_
          refine s_iconst (v := -1) dX3_set_63 (by decide) ?_
          refine s_ixor dX3_set_64 ?_
          refine s_iand dX3_set_65 ?_
          refine s_iast (m2 hF) k2 l2 dX3_set_66 (fun s3 => ?_)
          refine s_aload_n dX3_set_67 0 rfl rfl ?_
          refine s_getr (b := 3) gf_X3_15 rfl (m1 hF) k1 (ft_of k1 rfl) (hF.2 _ _) rfl dX3_set_68 ?_
          refine s_iload_n dX3_set_71 2 rfl rfl ?_
          refine s_dup2 dX3_set_72 rfl rfl ?_
          refine s_iald (m3 hF) k3 l3 dX3_set_73 ?_
          refine s_iconst (v := 1) dX3_set_74 (by decide) ?_
          refine s_iload_n dX3_set_75 1 rfl rfl ?_
          refine s_ishl dX3_set_76 ?_
          refine s_iconst (v := -1) dX3_set_77 (by decide) ?_
          refine s_ixor dX3_set_78 ?_
          refine s_iand dX3_set_79 ?_
          refine s_iast (m3 hF) k3 l3 dX3_set_80 (fun s4 => ?_)
          exact s_return rfl rfl rfl dX3_set_81
        · skip
          refine s_aload_n dX3_set_26 0 rfl rfl ?_
          refine s_getr (b := 2) gf_X3_9 rfl (m1 hF) k1 (ft_of k1 rfl) (hF.2 _ _) rfl dX3_set_27 ?_
          refine s_iload_n dX3_set_30 1 rfl rfl ?_
          refine s_dup2 dX3_set_31 rfl rfl ?_
          refine s_iald (m2 hF) k2 l2 dX3_set_32 ?_
          refine s_iconst (v := 1) dX3_set_33 (by decide) ?_
          refine s_iload_n dX3_set_34 2 rfl rfl ?_
          refine s_ishl dX3_set_35 ?_
          refine s_ior dX3_set_36 ?_
          refine s_iast (m2 hF) k2 l2 dX3_set_37 (fun s5 => ?_)
          refine s_aload_n dX3_set_38 0 rfl rfl ?_
          refine s_getr (b := 3) gf_X3_15 rfl (m1 hF) k1 (ft_of k1 rfl) (hF.2 _ _) rfl dX3_set_39 ?_
          refine s_iload_n dX3_set_42 2 rfl rfl ?_
          refine s_dup2 dX3_set_43 rfl rfl ?_
          refine s_iald (m3 hF) k3 l3 dX3_set_44 ?_
          refine s_iconst (v := 1) dX3_set_45 (by decide) ?_
          refine s_iload_n dX3_set_46 1 rfl rfl ?_
          refine s_ishl dX3_set_47 ?_
          refine s_ior dX3_set_48 ?_
          refine s_iast (m3 hF) k3 l3 dX3_set_49 (fun s6 => ?_)
          refine s_goto 81 dX3_set_50 (by decide) ?_
          exact s_return rfl rfl rfl dX3_set_81
theorem dX3_settle_0 : decode cX3_settle 0 = .ok (.aload_n 0, 1) := by decide +kernel
theorem dX3_settle_1 : decode cX3_settle 1 = .ok (.dup, 1) := by decide +kernel
theorem dX3_settle_2 : decode cX3_settle 2 = .ok (.getfield 35, 3) := by decide +kernel
theorem dX3_settle_5 : decode cX3_settle 5 = .ok (.iconst 1, 1) := by decide +kernel
theorem dX3_settle_6 : decode cX3_settle 6 = .ok (.iadd, 1) := by decide +kernel
theorem dX3_settle_7 : decode cX3_settle 7 = .ok (.putfield 35, 3) := by decide +kernel
theorem dX3_settle_10 : decode cX3_settle 10 = .ok (.iconst 0, 1) := by decide +kernel
theorem dX3_settle_11 : decode cX3_settle 11 = .ok (.istore_n 1, 1) := by decide +kernel
theorem dX3_settle_12 : decode cX3_settle 12 = .ok (.iload_n 1, 1) := by decide +kernel
theorem dX3_settle_13 : decode cX3_settle 13 = .ok (.bipush 8, 2) := by decide +kernel
theorem dX3_settle_15 : decode cX3_settle 15 = .ok (.if_icmp .ge 77, 3) := by decide +kernel
theorem dX3_settle_18 : decode cX3_settle 18 = .ok (.iconst 1, 1) := by decide +kernel
theorem dX3_settle_19 : decode cX3_settle 19 = .ok (.iload_n 1, 1) := by decide +kernel
theorem dX3_settle_20 : decode cX3_settle 20 = .ok (.ishl, 1) := by decide +kernel
theorem dX3_settle_21 : decode cX3_settle 21 = .ok (.istore_n 2, 1) := by decide +kernel
theorem dX3_settle_22 : decode cX3_settle 22 = .ok (.iload_n 2, 1) := by decide +kernel
theorem dX3_settle_23 : decode cX3_settle 23 = .ok (.istore_n 3, 1) := by decide +kernel
theorem dX3_settle_24 : decode cX3_settle 24 = .ok (.iload_n 3, 1) := by decide +kernel
theorem dX3_settle_25 : decode cX3_settle 25 = .ok (.iconst 2, 1) := by decide +kernel
theorem dX3_settle_26 : decode cX3_settle 26 = .ok (.iload_n 2, 1) := by decide +kernel
theorem dX3_settle_27 : decode cX3_settle 27 = .ok (.imul, 1) := by decide +kernel
theorem dX3_settle_28 : decode cX3_settle 28 = .ok (.if_icmp .ge 58, 3) := by decide +kernel
theorem dX3_settle_31 : decode cX3_settle 31 = .ok (.iload_n 3, 1) := by decide +kernel
theorem dX3_settle_32 : decode cX3_settle 32 = .ok (.sipush 256, 3) := by decide +kernel
theorem dX3_settle_35 : decode cX3_settle 35 = .ok (.if_icmp .ge 51, 3) := by decide +kernel
theorem dX3_settle_38 : decode cX3_settle 38 = .ok (.aload_n 0, 1) := by decide +kernel
theorem dX3_settle_39 : decode cX3_settle 39 = .ok (.getfield 18, 3) := by decide +kernel
theorem dX3_settle_42 : decode cX3_settle 42 = .ok (.iload_n 3, 1) := by decide +kernel
theorem dX3_settle_43 : decode cX3_settle 43 = .ok (.aload_n 0, 1) := by decide +kernel
theorem dX3_settle_44 : decode cX3_settle 44 = .ok (.getfield 18, 3) := by decide +kernel
theorem dX3_settle_47 : decode cX3_settle 47 = .ok (.iload_n 3, 1) := by decide +kernel
theorem dX3_settle_48 : decode cX3_settle 48 = .ok (.iload_n 2, 1) := by decide +kernel
theorem dX3_settle_49 : decode cX3_settle 49 = .ok (.isub, 1) := by decide +kernel
theorem dX3_settle_50 : decode cX3_settle 50 = .ok (.iaload, 1) := by decide +kernel
theorem dX3_settle_51 : decode cX3_settle 51 = .ok (.aload_n 0, 1) := by decide +kernel
theorem dX3_settle_52 : decode cX3_settle 52 = .ok (.getfield 9, 3) := by decide +kernel
theorem dX3_settle_55 : decode cX3_settle 55 = .ok (.iload_n 1, 1) := by decide +kernel
theorem dX3_settle_56 : decode cX3_settle 56 = .ok (.iaload, 1) := by decide +kernel
theorem dX3_settle_57 : decode cX3_settle 57 = .ok (.ior, 1) := by decide +kernel
theorem dX3_settle_58 : decode cX3_settle 58 = .ok (.iastore, 1) := by decide +kernel
theorem dX3_settle_59 : decode cX3_settle 59 = .ok (.aload_n 0, 1) := by decide +kernel
theorem dX3_settle_60 : decode cX3_settle 60 = .ok (.getfield 21, 3) := by decide +kernel
theorem dX3_settle_63 : decode cX3_settle 63 = .ok (.iload_n 3, 1) := by decide +kernel
theorem dX3_settle_64 : decode cX3_settle 64 = .ok (.aload_n 0, 1) := by decide +kernel
theorem dX3_settle_65 : decode cX3_settle 65 = .ok (.getfield 21, 3) := by decide +kernel
theorem dX3_settle_68 : decode cX3_settle 68 = .ok (.iload_n 3, 1) := by decide +kernel
theorem dX3_settle_69 : decode cX3_settle 69 = .ok (.iload_n 2, 1) := by decide +kernel
theorem dX3_settle_70 : decode cX3_settle 70 = .ok (.isub, 1) := by decide +kernel
theorem dX3_settle_71 : decode cX3_settle 71 = .ok (.iaload, 1) := by decide +kernel
theorem dX3_settle_72 : decode cX3_settle 72 = .ok (.aload_n 0, 1) := by decide +kernel
theorem dX3_settle_73 : decode cX3_settle 73 = .ok (.getfield 15, 3) := by decide +kernel
theorem dX3_settle_76 : decode cX3_settle 76 = .ok (.iload_n 1, 1) := by decide +kernel
theorem dX3_settle_77 : decode cX3_settle 77 = .ok (.iaload, 1) := by decide +kernel
theorem dX3_settle_78 : decode cX3_settle 78 = .ok (.ior, 1) := by decide +kernel
theorem dX3_settle_79 : decode cX3_settle 79 = .ok (.iastore, 1) := by decide +kernel
theorem dX3_settle_80 : decode cX3_settle 80 = .ok (.iinc 3 1, 3) := by decide +kernel
theorem dX3_settle_83 : decode cX3_settle 83 = .ok (.goto (-59), 3) := by decide +kernel
theorem dX3_settle_86 : decode cX3_settle 86 = .ok (.iinc 1 1, 3) := by decide +kernel
theorem dX3_settle_89 : decode cX3_settle 89 = .ok (.goto (-77), 3) := by decide +kernel
theorem dX3_settle_92 : decode cX3_settle 92 = .ok (.return_, 1) := by decide +kernel
def f_X3_settle (σ : St) : Option (Unit × St) :=
  bd (setI σ 1 1 ((σ.1 1 1) + (1 : Int32))) fun s1 =>
    lo2 FU (fun rec4 (s2 : St) (x3 : Int32) =>
      (if x3 < (8 : Int32) then
        bd ((1 : Int32) <<< (x3 &&& 31)) fun x6 =>
          lo2 FU (fun rec9 (s7 : St) (x8 : Int32) =>
            (if x8 < ((2 : Int32) * x6) then
              (if x8 < (256 : Int32) then
                ck (x8 - x6) 256 <|
                  ck x3 8 <|
                    ck x8 256 <|
                      bd (setI s7 4 x8.toNatClampNeg ((s7.1 4 (x8 - x6).toNatClampNeg) ||| (s7.1 2 x3.toNatClampNeg))) fun s11 =>
                        ck (x8 - x6) 256 <|
                          ck x3 8 <|
                            ck x8 256 <|
                              bd (setI s11 5 x8.toNatClampNeg ((s11.1 5 (x8 - x6).toNatClampNeg) ||| (s11.1 3 x3.toNatClampNeg))) fun s12 =>
                                rec9 s12 (x8 + 1)
                 else
                rec4 s7 (x3 + 1))
               else
              rec4 s7 (x3 + 1))) s2 x6
         else
        some ((), s2))) s1 (0 : Int32)
set_option maxHeartbeats 4000000 in
set_option maxRecDepth 100000 in
theorem c_X3_settle (l : Launch) (E : Ev) (hF : Full E) (σ : St) : Ctr l (en2 enV) (fun q => q.2) E md_X3_settle [rV E 1] σ (f_X3_settle σ) := by
  refine ctr_of rfl (Nat.le_of_ble_eq_true rfl) (fun Γ => ?_)
  show Sim _ Γ _ E md_X3_settle σ 0 [(0, rV E 1)] [] _
  unfold f_X3_settle
  refine s_aload_n dX3_settle_0 0 rfl rfl ?_
  refine s_dup dX3_settle_1 rfl ?_
  refine s_geti gf_X3_35 rfl (m1 hF) k1 (ft_of k1 rfl) dX3_settle_2 ?_
  refine s_iconst (v := 1) dX3_settle_5 (by decide) ?_
  refine s_iadd dX3_settle_6 ?_
  refine s_puti gf_X3_35 rfl (m1 hF) k1 (ft_of k1 rfl) dX3_settle_7 (fun s1 => ?_)
  refine s_iconst (v := 0) dX3_settle_10 (by decide) ?_
  refine s_istore_n [(1, .int (0 : Int32)), (0, rV E 1)] dX3_settle_11 rfl (by decide) rfl ?_
  refine s_sub (lv' := [(0, rV E 1), (1, .int (0 : Int32))]) [1, 0] rfl ?_
  refine s_lo2 (σf := fun s2 x3 => s2) (lvf := fun s2 x3 => [(0, rV E 1), (1, .int x3)]) (fun rec4 ih5 s2 x3 => ?_)
  refine s_iload_n dX3_settle_12 1 rfl rfl ?_
  refine s_bipush (v := 8) dX3_settle_13 (by decide) ?_
  refine s_icmp_ge 92 dX3_settle_15 (by decide) ?_ ?_
  · skip
    refine s_iconst (v := 1) dX3_settle_18 (by decide) ?_
    refine s_iload_n dX3_settle_19 1 rfl rfl ?_
    refine s_ishl dX3_settle_20 ?_
    refine s_istore_nB (fun x6 => [(2, .int x6), (0, rV E 1), (1, .int x3)]) dX3_settle_21 rfl (by decide) (fun _ => rfl) (fun x6 => ?_)
    refine s_iload_n dX3_settle_22 0 rfl rfl ?_
    refine s_istore_n [(3, .int x6), (2, .int x6), (0, rV E 1), (1, .int x3)] dX3_settle_23 rfl (by decide) rfl ?_
    refine s_sub (lv' := [(0, rV E 1), (1, .int x3), (2, .int x6), (3, .int x6)]) [2, 3, 1, 0] rfl ?_
    refine s_lo2 (σf := fun s7 x8 => s7) (lvf := fun s7 x8 => [(0, rV E 1), (1, .int x3), (2, .int x6), (3, .int x8)]) (fun rec9 ih10 s7 x8 => ?_)
    refine s_iload_n dX3_settle_24 3 rfl rfl ?_
    refine s_iconst (v := 2) dX3_settle_25 (by decide) ?_
    refine s_iload_n dX3_settle_26 2 rfl rfl ?_
    refine s_imul dX3_settle_27 ?_
    refine s_icmp_ge 86 dX3_settle_28 (by decide) ?_ ?_
    · skip
      refine s_iload_n dX3_settle_31 3 rfl rfl ?_
      refine s_sipush (v := 256) dX3_settle_32 (by decide) ?_
      refine s_icmp_ge 86 dX3_settle_35 (by decide) ?_ ?_
      · skip
        refine s_aload_n dX3_settle_38 0 rfl rfl ?_
        refine s_getr (b := 4) gf_X3_18 rfl (m1 hF) k1 (ft_of k1 rfl) (hF.2 _ _) rfl dX3_settle_39 ?_
        refine s_iload_n dX3_settle_42 3 rfl rfl ?_
        refine s_aload_n dX3_settle_43 0 rfl rfl ?_
        refine s_getr (b := 4) gf_X3_18 rfl (m1 hF) k1 (ft_of k1 rfl) (hF.2 _ _) rfl dX3_settle_44 ?_
        refine s_iload_n dX3_settle_47 3 rfl rfl ?_
        refine s_iload_n dX3_settle_48 2 rfl rfl ?_
        refine s_isub dX3_settle_49 ?_
        refine s_iald (m4 hF) k4 l4 dX3_settle_50 ?_
        refine s_aload_n dX3_settle_51 0 rfl rfl ?_
        refine s_getr (b := 2) gf_X3_9 rfl (m1 hF) k1 (ft_of k1 rfl) (hF.2 _ _) rfl dX3_settle_52 ?_
        refine s_iload_n dX3_settle_55 1 rfl rfl ?_
        refine s_iald (m2 hF) k2 l2 dX3_settle_56 ?_
        refine s_ior dX3_settle_57 ?_
        refine s_iast (m4 hF) k4 l4 dX3_settle_58 (fun s11 => ?_)
        refine s_aload_n dX3_settle_59 0 rfl rfl ?_
        refine s_getr (b := 5) gf_X3_21 rfl (m1 hF) k1 (ft_of k1 rfl) (hF.2 _ _) rfl dX3_settle_60 ?_
        refine s_iload_n dX3_settle_63 3 rfl rfl ?_
        refine s_aload_n dX3_settle_64 0 rfl rfl ?_
        refine s_getr (b := 5) gf_X3_21 rfl (m1 hF) k1 (ft_of k1 rfl) (hF.2 _ _) rfl dX3_settle_65 ?_
        refine s_iload_n dX3_settle_68 3 rfl rfl ?_
        refine s_iload_n dX3_settle_69 2 rfl rfl ?_
        refine s_isub dX3_settle_70 ?_
        refine s_iald (m5 hF) k5 l5 dX3_settle_71 ?_
        refine s_aload_n dX3_settle_72 0 rfl rfl ?_
        refine s_getr (b := 3) gf_X3_15 rfl (m1 hF) k1 (ft_of k1 rfl) (hF.2 _ _) rfl dX3_settle_73 ?_
        refine s_iload_n dX3_settle_76 1 rfl rfl ?_
        refine s_iald (m3 hF) k3 l3 dX3_settle_77 ?_
        refine s_ior dX3_settle_78 ?_
        refine s_iast (m5 hF) k5 l5 dX3_settle_79 (fun s12 => ?_)
        refine s_iinc [(3, .int (x8 + 1)), (0, rV E 1), (1, .int x3), (2, .int x6)] dX3_settle_80 3 rfl rfl (by decide) rfl ?_
        refine s_goto 24 dX3_settle_83 (by decide) ?_
        refine s_sub [1, 2, 3, 0] rfl ?_
        exact ih10 s12 (x8 + 1)
      · skip
        refine s_iinc [(1, .int (x3 + 1)), (0, rV E 1), (2, .int x6), (3, .int x8)] dX3_settle_86 1 rfl rfl (by decide) rfl ?_
        refine s_goto 12 dX3_settle_89 (by decide) ?_
        refine s_sub [1, 0] rfl ?_
        exact ih5 s7 (x3 + 1)
    · skip
      refine s_iinc [(1, .int (x3 + 1)), (0, rV E 1), (2, .int x6), (3, .int x8)] dX3_settle_86 1 rfl rfl (by decide) rfl ?_
      refine s_goto 12 dX3_settle_89 (by decide) ?_
      refine s_sub [1, 0] rfl ?_
      exact ih5 s7 (x3 + 1)
  · skip
    exact s_return rfl rfl rfl dX3_settle_92
theorem dX3_outOf_0 : decode cX3_outOf 0 = .ok (.aload_n 0, 1) := by decide +kernel
theorem dX3_outOf_1 : decode cX3_outOf 1 = .ok (.iload_n 1, 1) := by decide +kernel
theorem dX3_outOf_2 : decode cX3_outOf 2 = .ok (.invokevirtual 42, 3) := by decide +kernel
theorem dX3_outOf_5 : decode cX3_outOf 5 = .ok (.ifCond .eq 12, 3) := by decide +kernel
theorem dX3_outOf_8 : decode cX3_outOf 8 = .ok (.aload_n 0, 1) := by decide +kernel
theorem dX3_outOf_9 : decode cX3_outOf 9 = .ok (.getfield 9, 3) := by decide +kernel
theorem dX3_outOf_12 : decode cX3_outOf 12 = .ok (.iload_n 1, 1) := by decide +kernel
theorem dX3_outOf_13 : decode cX3_outOf 13 = .ok (.iaload, 1) := by decide +kernel
theorem dX3_outOf_14 : decode cX3_outOf 14 = .ok (.goto 4, 3) := by decide +kernel
theorem dX3_outOf_17 : decode cX3_outOf 17 = .ok (.iconst 0, 1) := by decide +kernel
theorem dX3_outOf_18 : decode cX3_outOf 18 = .ok (.ireturn, 1) := by decide +kernel
def f_X3_outOf (σ : St) (v1 : Int32) : Option Int32 :=
  calP (f_X3_known σ v1) fun r1 =>
    (if r1 = 0 then
      some (0 : Int32)
       else
      ck v1 8 <|
        some (σ.1 2 v1.toNatClampNeg))
set_option maxHeartbeats 4000000 in
set_option maxRecDepth 100000 in
theorem c_X3_outOf (l : Launch) (E : Ev) (hF : Full E) (σ : St) (v1 : Int32) : Ctr l enI (fun _ => σ) E md_X3_outOf [rV E 1, .int v1] σ (f_X3_outOf σ v1) := by
  refine ctr_of rfl (Nat.le_of_ble_eq_true rfl) (fun Γ => ?_)
  show Sim _ Γ _ E md_X3_outOf σ 0 [(0, rV E 1), (1, .int v1)] [] _
  unfold f_X3_outOf
  refine s_aload_n dX3_outOf_0 0 rfl rfl ?_
  refine s_iload_n dX3_outOf_1 1 rfl rfl ?_
  refine s_callVpI (As := [.int v1]) mf_X3_known vf_X3_known ml_X3_42 (c_X3_known _ E hF σ v1) (m1 hF) k1 (by decide) rfl rfl rfl rfl (Nat.le_of_ble_eq_true rfl) rfl dX3_outOf_2 (fun r1 => ?_)
  refine s_if_eq 17 dX3_outOf_5 (by decide) ?_ ?_
  · skip
    refine s_iconst (v := 0) dX3_outOf_17 (by decide) ?_
    exact s_ireturn rfl rfl rfl dX3_outOf_18
  · skip
    refine s_aload_n dX3_outOf_8 0 rfl rfl ?_
    refine s_getr (b := 2) gf_X3_9 rfl (m1 hF) k1 (ft_of k1 rfl) (hF.2 _ _) rfl dX3_outOf_9 ?_
    refine s_iload_n dX3_outOf_12 1 rfl rfl ?_
    refine s_iald (m2 hF) k2 l2 dX3_outOf_13 ?_
    refine s_goto 18 dX3_outOf_14 (by decide) ?_
    exact s_ireturn rfl rfl rfl dX3_outOf_18
theorem dX3_bothWays_0 : decode cX3_bothWays 0 = .ok (.aload_n 0, 1) := by decide +kernel
theorem dX3_bothWays_1 : decode cX3_bothWays 1 = .ok (.iload_n 1, 1) := by decide +kernel
theorem dX3_bothWays_2 : decode cX3_bothWays 2 = .ok (.invokevirtual 42, 3) := by decide +kernel
theorem dX3_bothWays_5 : decode cX3_bothWays 5 = .ok (.ifCond .eq 19, 3) := by decide +kernel
theorem dX3_bothWays_8 : decode cX3_bothWays 8 = .ok (.aload_n 0, 1) := by decide +kernel
theorem dX3_bothWays_9 : decode cX3_bothWays 9 = .ok (.getfield 9, 3) := by decide +kernel
theorem dX3_bothWays_12 : decode cX3_bothWays 12 = .ok (.iload_n 1, 1) := by decide +kernel
theorem dX3_bothWays_13 : decode cX3_bothWays 13 = .ok (.iaload, 1) := by decide +kernel
theorem dX3_bothWays_14 : decode cX3_bothWays 14 = .ok (.aload_n 0, 1) := by decide +kernel
theorem dX3_bothWays_15 : decode cX3_bothWays 15 = .ok (.getfield 15, 3) := by decide +kernel
theorem dX3_bothWays_18 : decode cX3_bothWays 18 = .ok (.iload_n 1, 1) := by decide +kernel
theorem dX3_bothWays_19 : decode cX3_bothWays 19 = .ok (.iaload, 1) := by decide +kernel
theorem dX3_bothWays_20 : decode cX3_bothWays 20 = .ok (.iand, 1) := by decide +kernel
theorem dX3_bothWays_21 : decode cX3_bothWays 21 = .ok (.goto 4, 3) := by decide +kernel
theorem dX3_bothWays_24 : decode cX3_bothWays 24 = .ok (.iconst 0, 1) := by decide +kernel
theorem dX3_bothWays_25 : decode cX3_bothWays 25 = .ok (.ireturn, 1) := by decide +kernel
def f_X3_bothWays (σ : St) (v1 : Int32) : Option Int32 :=
  calP (f_X3_known σ v1) fun r1 =>
    (if r1 = 0 then
      some (0 : Int32)
       else
      ck v1 8 <|
        ck v1 8 <|
          some ((σ.1 2 v1.toNatClampNeg) &&& (σ.1 3 v1.toNatClampNeg)))
set_option maxHeartbeats 4000000 in
set_option maxRecDepth 100000 in
theorem c_X3_bothWays (l : Launch) (E : Ev) (hF : Full E) (σ : St) (v1 : Int32) : Ctr l enI (fun _ => σ) E md_X3_bothWays [rV E 1, .int v1] σ (f_X3_bothWays σ v1) := by
  refine ctr_of rfl (Nat.le_of_ble_eq_true rfl) (fun Γ => ?_)
  show Sim _ Γ _ E md_X3_bothWays σ 0 [(0, rV E 1), (1, .int v1)] [] _
  unfold f_X3_bothWays
  refine s_aload_n dX3_bothWays_0 0 rfl rfl ?_
  refine s_iload_n dX3_bothWays_1 1 rfl rfl ?_
  refine s_callVpI (As := [.int v1]) mf_X3_known vf_X3_known ml_X3_42 (c_X3_known _ E hF σ v1) (m1 hF) k1 (by decide) rfl rfl rfl rfl (Nat.le_of_ble_eq_true rfl) rfl dX3_bothWays_2 (fun r1 => ?_)
  refine s_if_eq 24 dX3_bothWays_5 (by decide) ?_ ?_
  · skip
    refine s_iconst (v := 0) dX3_bothWays_24 (by decide) ?_
    exact s_ireturn rfl rfl rfl dX3_bothWays_25
  · skip
    refine s_aload_n dX3_bothWays_8 0 rfl rfl ?_
    refine s_getr (b := 2) gf_X3_9 rfl (m1 hF) k1 (ft_of k1 rfl) (hF.2 _ _) rfl dX3_bothWays_9 ?_
    refine s_iload_n dX3_bothWays_12 1 rfl rfl ?_
    refine s_iald (m2 hF) k2 l2 dX3_bothWays_13 ?_
    refine s_aload_n dX3_bothWays_14 0 rfl rfl ?_
    refine s_getr (b := 3) gf_X3_15 rfl (m1 hF) k1 (ft_of k1 rfl) (hF.2 _ _) rfl dX3_bothWays_15 ?_
    refine s_iload_n dX3_bothWays_18 1 rfl rfl ?_
    refine s_iald (m3 hF) k3 l3 dX3_bothWays_19 ?_
    refine s_iand dX3_bothWays_20 ?_
    refine s_goto 25 dX3_bothWays_21 (by decide) ?_
    exact s_ireturn rfl rfl rfl dX3_bothWays_25
theorem dX3_aheadOf_0 : decode cX3_aheadOf 0 = .ok (.aload_n 0, 1) := by decide +kernel
theorem dX3_aheadOf_1 : decode cX3_aheadOf 1 = .ok (.getfield 18, 3) := by decide +kernel
theorem dX3_aheadOf_4 : decode cX3_aheadOf 4 = .ok (.iload_n 1, 1) := by decide +kernel
theorem dX3_aheadOf_5 : decode cX3_aheadOf 5 = .ok (.sipush 255, 3) := by decide +kernel
theorem dX3_aheadOf_8 : decode cX3_aheadOf 8 = .ok (.iand, 1) := by decide +kernel
theorem dX3_aheadOf_9 : decode cX3_aheadOf 9 = .ok (.iaload, 1) := by decide +kernel
theorem dX3_aheadOf_10 : decode cX3_aheadOf 10 = .ok (.ireturn, 1) := by decide +kernel
def f_X3_aheadOf (σ : St) (v1 : Int32) : Option Int32 :=
  ck (v1 &&& (255 : Int32)) 256 <|
    some (σ.1 4 (v1 &&& (255 : Int32)).toNatClampNeg)
set_option maxHeartbeats 4000000 in
set_option maxRecDepth 100000 in
theorem c_X3_aheadOf (l : Launch) (E : Ev) (hF : Full E) (σ : St) (v1 : Int32) : Ctr l enI (fun _ => σ) E md_X3_aheadOf [rV E 1, .int v1] σ (f_X3_aheadOf σ v1) := by
  refine ctr_of rfl (Nat.le_of_ble_eq_true rfl) (fun Γ => ?_)
  show Sim _ Γ _ E md_X3_aheadOf σ 0 [(0, rV E 1), (1, .int v1)] [] _
  unfold f_X3_aheadOf
  refine s_aload_n dX3_aheadOf_0 0 rfl rfl ?_
  refine s_getr (b := 4) gf_X3_18 rfl (m1 hF) k1 (ft_of k1 rfl) (hF.2 _ _) rfl dX3_aheadOf_1 ?_
  refine s_iload_n dX3_aheadOf_4 1 rfl rfl ?_
  refine s_sipush (v := 255) dX3_aheadOf_5 (by decide) ?_
  refine s_iand dX3_aheadOf_8 ?_
  refine s_iald (m4 hF) k4 l4 dX3_aheadOf_9 ?_
  exact s_ireturn rfl rfl rfl dX3_aheadOf_10
theorem dX3_behindOf_0 : decode cX3_behindOf 0 = .ok (.aload_n 0, 1) := by decide +kernel
theorem dX3_behindOf_1 : decode cX3_behindOf 1 = .ok (.getfield 21, 3) := by decide +kernel
theorem dX3_behindOf_4 : decode cX3_behindOf 4 = .ok (.iload_n 1, 1) := by decide +kernel
theorem dX3_behindOf_5 : decode cX3_behindOf 5 = .ok (.sipush 255, 3) := by decide +kernel
theorem dX3_behindOf_8 : decode cX3_behindOf 8 = .ok (.iand, 1) := by decide +kernel
theorem dX3_behindOf_9 : decode cX3_behindOf 9 = .ok (.iaload, 1) := by decide +kernel
theorem dX3_behindOf_10 : decode cX3_behindOf 10 = .ok (.ireturn, 1) := by decide +kernel
def f_X3_behindOf (σ : St) (v1 : Int32) : Option Int32 :=
  ck (v1 &&& (255 : Int32)) 256 <|
    some (σ.1 5 (v1 &&& (255 : Int32)).toNatClampNeg)
set_option maxHeartbeats 4000000 in
set_option maxRecDepth 100000 in
theorem c_X3_behindOf (l : Launch) (E : Ev) (hF : Full E) (σ : St) (v1 : Int32) : Ctr l enI (fun _ => σ) E md_X3_behindOf [rV E 1, .int v1] σ (f_X3_behindOf σ v1) := by
  refine ctr_of rfl (Nat.le_of_ble_eq_true rfl) (fun Γ => ?_)
  show Sim _ Γ _ E md_X3_behindOf σ 0 [(0, rV E 1), (1, .int v1)] [] _
  unfold f_X3_behindOf
  refine s_aload_n dX3_behindOf_0 0 rfl rfl ?_
  refine s_getr (b := 5) gf_X3_21 rfl (m1 hF) k1 (ft_of k1 rfl) (hF.2 _ _) rfl dX3_behindOf_1 ?_
  refine s_iload_n dX3_behindOf_4 1 rfl rfl ?_
  refine s_sipush (v := 255) dX3_behindOf_5 (by decide) ?_
  refine s_iand dX3_behindOf_8 ?_
  refine s_iald (m5 hF) k5 l5 dX3_behindOf_9 ?_
  exact s_ireturn rfl rfl rfl dX3_behindOf_10
theorem dX3_around_0 : decode cX3_around 0 = .ok (.aload_n 0, 1) := by decide +kernel
theorem dX3_around_1 : decode cX3_around 1 = .ok (.getfield 18, 3) := by decide +kernel
theorem dX3_around_4 : decode cX3_around 4 = .ok (.iload_n 1, 1) := by decide +kernel
theorem dX3_around_5 : decode cX3_around 5 = .ok (.sipush 255, 3) := by decide +kernel
theorem dX3_around_8 : decode cX3_around 8 = .ok (.iand, 1) := by decide +kernel
theorem dX3_around_9 : decode cX3_around 9 = .ok (.iaload, 1) := by decide +kernel
theorem dX3_around_10 : decode cX3_around 10 = .ok (.aload_n 0, 1) := by decide +kernel
theorem dX3_around_11 : decode cX3_around 11 = .ok (.getfield 21, 3) := by decide +kernel
theorem dX3_around_14 : decode cX3_around 14 = .ok (.iload_n 1, 1) := by decide +kernel
theorem dX3_around_15 : decode cX3_around 15 = .ok (.sipush 255, 3) := by decide +kernel
theorem dX3_around_18 : decode cX3_around 18 = .ok (.iand, 1) := by decide +kernel
theorem dX3_around_19 : decode cX3_around 19 = .ok (.iaload, 1) := by decide +kernel
theorem dX3_around_20 : decode cX3_around 20 = .ok (.ior, 1) := by decide +kernel
theorem dX3_around_21 : decode cX3_around 21 = .ok (.ireturn, 1) := by decide +kernel
def f_X3_around (σ : St) (v1 : Int32) : Option Int32 :=
  ck (v1 &&& (255 : Int32)) 256 <|
    ck (v1 &&& (255 : Int32)) 256 <|
      some ((σ.1 4 (v1 &&& (255 : Int32)).toNatClampNeg) ||| (σ.1 5 (v1 &&& (255 : Int32)).toNatClampNeg))
set_option maxHeartbeats 4000000 in
set_option maxRecDepth 100000 in
theorem c_X3_around (l : Launch) (E : Ev) (hF : Full E) (σ : St) (v1 : Int32) : Ctr l enI (fun _ => σ) E md_X3_around [rV E 1, .int v1] σ (f_X3_around σ v1) := by
  refine ctr_of rfl (Nat.le_of_ble_eq_true rfl) (fun Γ => ?_)
  show Sim _ Γ _ E md_X3_around σ 0 [(0, rV E 1), (1, .int v1)] [] _
  unfold f_X3_around
  refine s_aload_n dX3_around_0 0 rfl rfl ?_
  refine s_getr (b := 4) gf_X3_18 rfl (m1 hF) k1 (ft_of k1 rfl) (hF.2 _ _) rfl dX3_around_1 ?_
  refine s_iload_n dX3_around_4 1 rfl rfl ?_
  refine s_sipush (v := 255) dX3_around_5 (by decide) ?_
  refine s_iand dX3_around_8 ?_
  refine s_iald (m4 hF) k4 l4 dX3_around_9 ?_
  refine s_aload_n dX3_around_10 0 rfl rfl ?_
  refine s_getr (b := 5) gf_X3_21 rfl (m1 hF) k1 (ft_of k1 rfl) (hF.2 _ _) rfl dX3_around_11 ?_
  refine s_iload_n dX3_around_14 1 rfl rfl ?_
  refine s_sipush (v := 255) dX3_around_15 (by decide) ?_
  refine s_iand dX3_around_18 ?_
  refine s_iald (m5 hF) k5 l5 dX3_around_19 ?_
  refine s_ior dX3_around_20 ?_
  exact s_ireturn rfl rfl rfl dX3_around_21
theorem dX3_leftBehind_0 : decode cX3_leftBehind 0 = .ok (.aload_n 0, 1) := by decide +kernel
theorem dX3_leftBehind_1 : decode cX3_leftBehind 1 = .ok (.iload_n 2, 1) := by decide +kernel
theorem dX3_leftBehind_2 : decode cX3_leftBehind 2 = .ok (.iload_n 1, 1) := by decide +kernel
theorem dX3_leftBehind_3 : decode cX3_leftBehind 3 = .ok (.iconst (-1), 1) := by decide +kernel
theorem dX3_leftBehind_4 : decode cX3_leftBehind 4 = .ok (.ixor, 1) := by decide +kernel
theorem dX3_leftBehind_5 : decode cX3_leftBehind 5 = .ok (.iand, 1) := by decide +kernel
theorem dX3_leftBehind_6 : decode cX3_leftBehind 6 = .ok (.invokevirtual 46, 3) := by decide +kernel
theorem dX3_leftBehind_9 : decode cX3_leftBehind 9 = .ok (.iload_n 1, 1) := by decide +kernel
theorem dX3_leftBehind_10 : decode cX3_leftBehind 10 = .ok (.iconst (-1), 1) := by decide +kernel
theorem dX3_leftBehind_11 : decode cX3_leftBehind 11 = .ok (.ixor, 1) := by decide +kernel
theorem dX3_leftBehind_12 : decode cX3_leftBehind 12 = .ok (.iand, 1) := by decide +kernel
theorem dX3_leftBehind_13 : decode cX3_leftBehind 13 = .ok (.ireturn, 1) := by decide +kernel
def f_X3_leftBehind (σ : St) (v1 : Int32) (v2 : Int32) : Option Int32 :=
  calP (f_X3_aheadOf σ (v2 &&& (v1 ^^^ (-1 : Int32)))) fun r1 =>
    some (r1 &&& (v1 ^^^ (-1 : Int32)))
set_option maxHeartbeats 4000000 in
set_option maxRecDepth 100000 in
theorem c_X3_leftBehind (l : Launch) (E : Ev) (hF : Full E) (σ : St) (v1 : Int32) (v2 : Int32) : Ctr l enI (fun _ => σ) E md_X3_leftBehind [rV E 1, .int v1, .int v2] σ (f_X3_leftBehind σ v1 v2) := by
  refine ctr_of rfl (Nat.le_of_ble_eq_true rfl) (fun Γ => ?_)
  show Sim _ Γ _ E md_X3_leftBehind σ 0 [(0, rV E 1), (1, .int v1), (2, .int v2)] [] _
  unfold f_X3_leftBehind
  refine s_aload_n dX3_leftBehind_0 0 rfl rfl ?_
  refine s_iload_n dX3_leftBehind_1 2 rfl rfl ?_
  refine s_iload_n dX3_leftBehind_2 1 rfl rfl ?_
  refine s_iconst (v := -1) dX3_leftBehind_3 (by decide) ?_
  refine s_ixor dX3_leftBehind_4 ?_
  refine s_iand dX3_leftBehind_5 ?_
  refine s_callVpI (As := [.int (v2 &&& (v1 ^^^ (-1 : Int32)))]) mf_X3_aheadOf vf_X3_aheadOf ml_X3_46 (c_X3_aheadOf _ E hF σ (v2 &&& (v1 ^^^ (-1 : Int32)))) (m1 hF) k1 (by decide) rfl rfl rfl rfl (Nat.le_of_ble_eq_true rfl) rfl dX3_leftBehind_6 (fun r1 => ?_)
  refine s_iload_n dX3_leftBehind_9 1 rfl rfl ?_
  refine s_iconst (v := -1) dX3_leftBehind_10 (by decide) ?_
  refine s_ixor dX3_leftBehind_11 ?_
  refine s_iand dX3_leftBehind_12 ?_
  exact s_ireturn rfl rfl rfl dX3_leftBehind_13
theorem dX9_has_0 : decode cX9_has 0 = .ok (.iload_n 0, 1) := by decide +kernel
theorem dX9_has_1 : decode cX9_has 1 = .ok (.iload_n 1, 1) := by decide +kernel
theorem dX9_has_2 : decode cX9_has 2 = .ok (.ishr, 1) := by decide +kernel
theorem dX9_has_3 : decode cX9_has 3 = .ok (.iconst 1, 1) := by decide +kernel
theorem dX9_has_4 : decode cX9_has 4 = .ok (.iand, 1) := by decide +kernel
theorem dX9_has_5 : decode cX9_has 5 = .ok (.ifCond .eq 7, 3) := by decide +kernel
theorem dX9_has_8 : decode cX9_has 8 = .ok (.iconst 1, 1) := by decide +kernel
theorem dX9_has_9 : decode cX9_has 9 = .ok (.goto 4, 3) := by decide +kernel
theorem dX9_has_12 : decode cX9_has 12 = .ok (.iconst 0, 1) := by decide +kernel
theorem dX9_has_13 : decode cX9_has 13 = .ok (.ireturn, 1) := by decide +kernel
def f_X9_has (σ : St) (v0 : Int32) (v1 : Int32) : Option Int32 :=
  (if ((v0 >>> (v1 &&& 31)) &&& (1 : Int32)) = 0 then
    some (0 : Int32)
     else
    some (1 : Int32))
set_option maxHeartbeats 4000000 in
set_option maxRecDepth 100000 in
theorem c_X9_has (l : Launch) (E : Ev) (hF : Full E) (σ : St) (v0 : Int32) (v1 : Int32) : Ctr l enI (fun _ => σ) E md_X9_has [.int v0, .int v1] σ (f_X9_has σ v0 v1) := by
  refine ctr_of rfl (Nat.le_of_ble_eq_true rfl) (fun Γ => ?_)
  show Sim _ Γ _ E md_X9_has σ 0 [(0, .int v0), (1, .int v1)] [] _
  unfold f_X9_has
  refine s_iload_n dX9_has_0 0 rfl rfl ?_
  refine s_iload_n dX9_has_1 1 rfl rfl ?_
  refine s_ishr dX9_has_2 ?_
  refine s_iconst (v := 1) dX9_has_3 (by decide) ?_
  refine s_iand dX9_has_4 ?_
  refine s_if_eq 12 dX9_has_5 (by decide) ?_ ?_
  · skip
    refine s_iconst (v := 0) dX9_has_12 (by decide) ?_
    exact s_zreturn rfl (by decide) rfl rfl dX9_has_13
  · skip
    refine s_iconst (v := 1) dX9_has_8 (by decide) ?_
    refine s_goto 13 dX9_has_9 (by decide) ?_
    exact s_zreturn rfl (by decide) rfl rfl dX9_has_13
theorem dX3_distance_0 : decode cX3_distance 0 = .ok (.iconst 1, 1) := by decide +kernel
theorem dX3_distance_1 : decode cX3_distance 1 = .ok (.iload_n 1, 1) := by decide +kernel
theorem dX3_distance_2 : decode cX3_distance 2 = .ok (.ishl, 1) := by decide +kernel
theorem dX3_distance_3 : decode cX3_distance 3 = .ok (.istore_n 3, 1) := by decide +kernel
theorem dX3_distance_4 : decode cX3_distance 4 = .ok (.iconst 0, 1) := by decide +kernel
theorem dX3_distance_5 : decode cX3_distance 5 = .ok (.istore 4, 2) := by decide +kernel
theorem dX3_distance_7 : decode cX3_distance 7 = .ok (.iload 4, 2) := by decide +kernel
theorem dX3_distance_9 : decode cX3_distance 9 = .ok (.bipush 8, 2) := by decide +kernel
theorem dX3_distance_11 : decode cX3_distance 11 = .ok (.if_icmp .ge 26, 3) := by decide +kernel
theorem dX3_distance_14 : decode cX3_distance 14 = .ok (.iload_n 3, 1) := by decide +kernel
theorem dX3_distance_15 : decode cX3_distance 15 = .ok (.iload_n 2, 1) := by decide +kernel
theorem dX3_distance_16 : decode cX3_distance 16 = .ok (.invokestatic 50, 3) := by decide +kernel
theorem dX3_distance_19 : decode cX3_distance 19 = .ok (.ifCond .eq 6, 3) := by decide +kernel
theorem dX3_distance_22 : decode cX3_distance 22 = .ok (.iload 4, 2) := by decide +kernel
theorem dX3_distance_24 : decode cX3_distance 24 = .ok (.ireturn, 1) := by decide +kernel
theorem dX3_distance_25 : decode cX3_distance 25 = .ok (.aload_n 0, 1) := by decide +kernel
theorem dX3_distance_26 : decode cX3_distance 26 = .ok (.iload_n 3, 1) := by decide +kernel
theorem dX3_distance_27 : decode cX3_distance 27 = .ok (.invokevirtual 46, 3) := by decide +kernel
theorem dX3_distance_30 : decode cX3_distance 30 = .ok (.istore_n 3, 1) := by decide +kernel
theorem dX3_distance_31 : decode cX3_distance 31 = .ok (.iinc 4 1, 3) := by decide +kernel
theorem dX3_distance_34 : decode cX3_distance 34 = .ok (.goto (-27), 3) := by decide +kernel
theorem dX3_distance_37 : decode cX3_distance 37 = .ok (.iconst (-1), 1) := by decide +kernel
theorem dX3_distance_38 : decode cX3_distance 38 = .ok (.ireturn, 1) := by decide +kernel
def f_X3_distance (σ : St) (v1 : Int32) (v2 : Int32) : Option Int32 :=
  bd ((1 : Int32) <<< (v1 &&& 31)) fun x1 =>
    lo2 FU (fun rec4 (x2 : Int32) (x3 : Int32) =>
      (if x3 < (8 : Int32) then
        calP (f_X9_has σ x2 v2) fun r6 =>
          (if r6 = 0 then
            calP (f_X3_aheadOf σ x2) fun r7 =>
              rec4 r7 (x3 + 1)
             else
            some x3)
         else
        some (-1 : Int32))) x1 (0 : Int32)
set_option maxHeartbeats 4000000 in
set_option maxRecDepth 100000 in
theorem c_X3_distance (l : Launch) (E : Ev) (hF : Full E) (σ : St) (v1 : Int32) (v2 : Int32) : Ctr l enI (fun _ => σ) E md_X3_distance [rV E 1, .int v1, .int v2] σ (f_X3_distance σ v1 v2) := by
  refine ctr_of rfl (Nat.le_of_ble_eq_true rfl) (fun Γ => ?_)
  show Sim _ Γ _ E md_X3_distance σ 0 [(0, rV E 1), (1, .int v1), (2, .int v2)] [] _
  unfold f_X3_distance
  refine s_iconst (v := 1) dX3_distance_0 (by decide) ?_
  refine s_iload_n dX3_distance_1 1 rfl rfl ?_
  refine s_ishl dX3_distance_2 ?_
  refine s_istore_nB (fun x1 => [(3, .int x1), (0, rV E 1), (1, .int v1), (2, .int v2)]) dX3_distance_3 rfl (by decide) (fun _ => rfl) (fun x1 => ?_)
  refine s_iconst (v := 0) dX3_distance_4 (by decide) ?_
  refine s_istore [(4, .int (0 : Int32)), (3, .int x1), (0, rV E 1), (1, .int v1), (2, .int v2)] dX3_distance_5 (by decide) rfl ?_
  refine s_sub (lv' := [(0, rV E 1), (2, .int v2), (3, .int x1), (4, .int (0 : Int32))]) [2, 4, 1, 0] rfl ?_
  refine s_lo2 (σf := fun x2 x3 => σ) (lvf := fun x2 x3 => [(0, rV E 1), (2, .int v2), (3, .int x2), (4, .int x3)]) (fun rec4 ih5 x2 x3 => ?_)
  refine s_iload dX3_distance_7 3 rfl ?_
  refine s_bipush (v := 8) dX3_distance_9 (by decide) ?_
  refine s_icmp_ge 37 dX3_distance_11 (by decide) ?_ ?_
  · skip
    refine s_iload_n dX3_distance_14 2 rfl rfl ?_
    refine s_iload_n dX3_distance_15 1 rfl rfl ?_
    refine s_callNpI (As := [.int x2, .int v2]) (host := "RunnerNet") mf_X9_has vf_X9_has (nl_of 2 rfl) (c_X9_has _ E hF σ x2 v2) rfl rfl (Nat.le_of_ble_eq_true rfl) rfl dX3_distance_16 (fun r6 => ?_)
    refine s_if_eq 25 dX3_distance_19 (by decide) ?_ ?_
    · skip
      refine s_aload_n dX3_distance_25 0 rfl rfl ?_
      refine s_iload_n dX3_distance_26 2 rfl rfl ?_
      refine s_callVpI (As := [.int x2]) mf_X3_aheadOf vf_X3_aheadOf ml_X3_46 (c_X3_aheadOf _ E hF σ x2) (m1 hF) k1 (by decide) rfl rfl rfl rfl (Nat.le_of_ble_eq_true rfl) rfl dX3_distance_27 (fun r7 => ?_)
      refine s_istore_n [(3, .int r7), (0, rV E 1), (2, .int v2), (4, .int x3)] dX3_distance_30 rfl (by decide) rfl ?_
      refine s_iinc [(4, .int (x3 + 1)), (3, .int r7), (0, rV E 1), (2, .int v2)] dX3_distance_31 3 rfl rfl (by decide) rfl ?_
      refine s_goto 7 dX3_distance_34 (by decide) ?_
      refine s_sub [2, 3, 1, 0] rfl ?_
      exact ih5 r7 (x3 + 1)
    · skip
      refine s_iload dX3_distance_22 3 rfl ?_
      exact s_ireturn rfl rfl rfl dX3_distance_24
  · skip
    refine s_iconst (v := -1) dX3_distance_37 (by decide) ?_
    exact s_ireturn rfl rfl rfl dX3_distance_38
theorem dJ6_bitCount_0f7a4_0 : decode cJ6_bitCount_0f7a4 0 = .ok (.iload_n 0, 1) := by decide +kernel
theorem dJ6_bitCount_0f7a4_1 : decode cJ6_bitCount_0f7a4 1 = .ok (.iload_n 0, 1) := by decide +kernel
theorem dJ6_bitCount_0f7a4_2 : decode cJ6_bitCount_0f7a4 2 = .ok (.iconst 1, 1) := by decide +kernel
theorem dJ6_bitCount_0f7a4_3 : decode cJ6_bitCount_0f7a4 3 = .ok (.iushr, 1) := by decide +kernel
theorem dJ6_bitCount_0f7a4_4 : decode cJ6_bitCount_0f7a4 4 = .ok (.ldc_w 265, 3) := by decide +kernel
theorem dJ6_bitCount_0f7a4_7 : decode cJ6_bitCount_0f7a4 7 = .ok (.iand, 1) := by decide +kernel
theorem dJ6_bitCount_0f7a4_8 : decode cJ6_bitCount_0f7a4 8 = .ok (.isub, 1) := by decide +kernel
theorem dJ6_bitCount_0f7a4_9 : decode cJ6_bitCount_0f7a4 9 = .ok (.istore_n 0, 1) := by decide +kernel
theorem dJ6_bitCount_0f7a4_10 : decode cJ6_bitCount_0f7a4 10 = .ok (.iload_n 0, 1) := by decide +kernel
theorem dJ6_bitCount_0f7a4_11 : decode cJ6_bitCount_0f7a4 11 = .ok (.ldc_w 266, 3) := by decide +kernel
theorem dJ6_bitCount_0f7a4_14 : decode cJ6_bitCount_0f7a4 14 = .ok (.iand, 1) := by decide +kernel
theorem dJ6_bitCount_0f7a4_15 : decode cJ6_bitCount_0f7a4 15 = .ok (.iload_n 0, 1) := by decide +kernel
theorem dJ6_bitCount_0f7a4_16 : decode cJ6_bitCount_0f7a4 16 = .ok (.iconst 2, 1) := by decide +kernel
theorem dJ6_bitCount_0f7a4_17 : decode cJ6_bitCount_0f7a4 17 = .ok (.iushr, 1) := by decide +kernel
theorem dJ6_bitCount_0f7a4_18 : decode cJ6_bitCount_0f7a4 18 = .ok (.ldc_w 266, 3) := by decide +kernel
theorem dJ6_bitCount_0f7a4_21 : decode cJ6_bitCount_0f7a4 21 = .ok (.iand, 1) := by decide +kernel
theorem dJ6_bitCount_0f7a4_22 : decode cJ6_bitCount_0f7a4 22 = .ok (.iadd, 1) := by decide +kernel
theorem dJ6_bitCount_0f7a4_23 : decode cJ6_bitCount_0f7a4 23 = .ok (.istore_n 0, 1) := by decide +kernel
theorem dJ6_bitCount_0f7a4_24 : decode cJ6_bitCount_0f7a4 24 = .ok (.iload_n 0, 1) := by decide +kernel
theorem dJ6_bitCount_0f7a4_25 : decode cJ6_bitCount_0f7a4 25 = .ok (.iload_n 0, 1) := by decide +kernel
theorem dJ6_bitCount_0f7a4_26 : decode cJ6_bitCount_0f7a4 26 = .ok (.iconst 4, 1) := by decide +kernel
theorem dJ6_bitCount_0f7a4_27 : decode cJ6_bitCount_0f7a4 27 = .ok (.iushr, 1) := by decide +kernel
theorem dJ6_bitCount_0f7a4_28 : decode cJ6_bitCount_0f7a4 28 = .ok (.iadd, 1) := by decide +kernel
theorem dJ6_bitCount_0f7a4_29 : decode cJ6_bitCount_0f7a4 29 = .ok (.ldc_w 267, 3) := by decide +kernel
theorem dJ6_bitCount_0f7a4_32 : decode cJ6_bitCount_0f7a4 32 = .ok (.iand, 1) := by decide +kernel
theorem dJ6_bitCount_0f7a4_33 : decode cJ6_bitCount_0f7a4 33 = .ok (.istore_n 0, 1) := by decide +kernel
theorem dJ6_bitCount_0f7a4_34 : decode cJ6_bitCount_0f7a4 34 = .ok (.iload_n 0, 1) := by decide +kernel
theorem dJ6_bitCount_0f7a4_35 : decode cJ6_bitCount_0f7a4 35 = .ok (.iload_n 0, 1) := by decide +kernel
theorem dJ6_bitCount_0f7a4_36 : decode cJ6_bitCount_0f7a4 36 = .ok (.bipush 8, 2) := by decide +kernel
theorem dJ6_bitCount_0f7a4_38 : decode cJ6_bitCount_0f7a4 38 = .ok (.iushr, 1) := by decide +kernel
theorem dJ6_bitCount_0f7a4_39 : decode cJ6_bitCount_0f7a4 39 = .ok (.iadd, 1) := by decide +kernel
theorem dJ6_bitCount_0f7a4_40 : decode cJ6_bitCount_0f7a4 40 = .ok (.istore_n 0, 1) := by decide +kernel
theorem dJ6_bitCount_0f7a4_41 : decode cJ6_bitCount_0f7a4 41 = .ok (.iload_n 0, 1) := by decide +kernel
theorem dJ6_bitCount_0f7a4_42 : decode cJ6_bitCount_0f7a4 42 = .ok (.iload_n 0, 1) := by decide +kernel
theorem dJ6_bitCount_0f7a4_43 : decode cJ6_bitCount_0f7a4 43 = .ok (.bipush 16, 2) := by decide +kernel
theorem dJ6_bitCount_0f7a4_45 : decode cJ6_bitCount_0f7a4 45 = .ok (.iushr, 1) := by decide +kernel
theorem dJ6_bitCount_0f7a4_46 : decode cJ6_bitCount_0f7a4 46 = .ok (.iadd, 1) := by decide +kernel
theorem dJ6_bitCount_0f7a4_47 : decode cJ6_bitCount_0f7a4 47 = .ok (.istore_n 0, 1) := by decide +kernel
theorem dJ6_bitCount_0f7a4_48 : decode cJ6_bitCount_0f7a4 48 = .ok (.iload_n 0, 1) := by decide +kernel
theorem dJ6_bitCount_0f7a4_49 : decode cJ6_bitCount_0f7a4 49 = .ok (.bipush 63, 2) := by decide +kernel
theorem dJ6_bitCount_0f7a4_51 : decode cJ6_bitCount_0f7a4 51 = .ok (.iand, 1) := by decide +kernel
theorem dJ6_bitCount_0f7a4_52 : decode cJ6_bitCount_0f7a4 52 = .ok (.ireturn, 1) := by decide +kernel
def f_J6_bitCount_0f7a4 (σ : St) (v0 : Int32) : Option Int32 :=
  bd (v0 - ((v0.toUInt32 >>> ((1 : Int32).toUInt32 &&& Int32.toUInt32 31)).toInt32 &&& (1431655765 : Int32))) fun x1 =>
    bd ((x1 &&& (858993459 : Int32)) + ((x1.toUInt32 >>> ((2 : Int32).toUInt32 &&& Int32.toUInt32 31)).toInt32 &&& (858993459 : Int32))) fun x2 =>
      bd ((x2 + (x2.toUInt32 >>> ((4 : Int32).toUInt32 &&& Int32.toUInt32 31)).toInt32) &&& (252645135 : Int32)) fun x3 =>
        bd (x3 + (x3.toUInt32 >>> ((8 : Int32).toUInt32 &&& Int32.toUInt32 31)).toInt32) fun x4 =>
          bd (x4 + (x4.toUInt32 >>> ((16 : Int32).toUInt32 &&& Int32.toUInt32 31)).toInt32) fun x5 =>
            some (x5 &&& (63 : Int32))
set_option maxHeartbeats 4000000 in
set_option maxRecDepth 100000 in
theorem c_J6_bitCount_0f7a4 (l : Launch) (E : Ev) (hF : Full E) (σ : St) (v0 : Int32) : Ctr l enI (fun _ => σ) E md_J6_bitCount_0f7a4 [.int v0] σ (f_J6_bitCount_0f7a4 σ v0) := by
  refine ctr_of rfl (Nat.le_of_ble_eq_true rfl) (fun Γ => ?_)
  show Sim _ Γ _ E md_J6_bitCount_0f7a4 σ 0 [(0, .int v0)] [] _
  unfold f_J6_bitCount_0f7a4
  refine s_iload_n dJ6_bitCount_0f7a4_0 0 rfl rfl ?_
  refine s_iload_n dJ6_bitCount_0f7a4_1 0 rfl rfl ?_
  refine s_iconst (v := 1) dJ6_bitCount_0f7a4_2 (by decide) ?_
  refine s_iushr dJ6_bitCount_0f7a4_3 rfl ?_
  refine s_ldcw (v := 1431655765) rfl w_706 dJ6_bitCount_0f7a4_4 ?_
  refine s_iand dJ6_bitCount_0f7a4_7 ?_
  refine s_isub dJ6_bitCount_0f7a4_8 ?_
  refine s_istore_nB (fun x1 => [(0, .int x1)]) dJ6_bitCount_0f7a4_9 rfl (by decide) (fun _ => rfl) (fun x1 => ?_)
  refine s_iload_n dJ6_bitCount_0f7a4_10 0 rfl rfl ?_
  refine s_ldcw (v := 858993459) rfl w_707 dJ6_bitCount_0f7a4_11 ?_
  refine s_iand dJ6_bitCount_0f7a4_14 ?_
  refine s_iload_n dJ6_bitCount_0f7a4_15 0 rfl rfl ?_
  refine s_iconst (v := 2) dJ6_bitCount_0f7a4_16 (by decide) ?_
  refine s_iushr dJ6_bitCount_0f7a4_17 rfl ?_
  refine s_ldcw (v := 858993459) rfl w_707 dJ6_bitCount_0f7a4_18 ?_
  refine s_iand dJ6_bitCount_0f7a4_21 ?_
  refine s_iadd dJ6_bitCount_0f7a4_22 ?_
  refine s_istore_nB (fun x2 => [(0, .int x2)]) dJ6_bitCount_0f7a4_23 rfl (by decide) (fun _ => rfl) (fun x2 => ?_)
  refine s_iload_n dJ6_bitCount_0f7a4_24 0 rfl rfl ?_
  refine s_iload_n dJ6_bitCount_0f7a4_25 0 rfl rfl ?_
  refine s_iconst (v := 4) dJ6_bitCount_0f7a4_26 (by decide) ?_
  refine s_iushr dJ6_bitCount_0f7a4_27 rfl ?_
  refine s_iadd dJ6_bitCount_0f7a4_28 ?_
  refine s_ldcw (v := 252645135) rfl w_708 dJ6_bitCount_0f7a4_29 ?_
  refine s_iand dJ6_bitCount_0f7a4_32 ?_
  refine s_istore_nB (fun x3 => [(0, .int x3)]) dJ6_bitCount_0f7a4_33 rfl (by decide) (fun _ => rfl) (fun x3 => ?_)
  refine s_iload_n dJ6_bitCount_0f7a4_34 0 rfl rfl ?_
  refine s_iload_n dJ6_bitCount_0f7a4_35 0 rfl rfl ?_
  refine s_bipush (v := 8) dJ6_bitCount_0f7a4_36 (by decide) ?_
  refine s_iushr dJ6_bitCount_0f7a4_38 rfl ?_
  refine s_iadd dJ6_bitCount_0f7a4_39 ?_
  refine s_istore_nB (fun x4 => [(0, .int x4)]) dJ6_bitCount_0f7a4_40 rfl (by decide) (fun _ => rfl) (fun x4 => ?_)
  refine s_iload_n dJ6_bitCount_0f7a4_41 0 rfl rfl ?_
  refine s_iload_n dJ6_bitCount_0f7a4_42 0 rfl rfl ?_
  refine s_bipush (v := 16) dJ6_bitCount_0f7a4_43 (by decide) ?_
  refine s_iushr dJ6_bitCount_0f7a4_45 rfl ?_
  refine s_iadd dJ6_bitCount_0f7a4_46 ?_
  refine s_istore_nB (fun x5 => [(0, .int x5)]) dJ6_bitCount_0f7a4_47 rfl (by decide) (fun _ => rfl) (fun x5 => ?_)
  refine s_iload_n dJ6_bitCount_0f7a4_48 0 rfl rfl ?_
  refine s_bipush (v := 63) dJ6_bitCount_0f7a4_49 (by decide) ?_
  refine s_iand dJ6_bitCount_0f7a4_51 ?_
  exact s_ireturn rfl rfl rfl dJ6_bitCount_0f7a4_52
theorem dX3_pairs_0 : decode cX3_pairs 0 = .ok (.iconst 0, 1) := by decide +kernel
theorem dX3_pairs_1 : decode cX3_pairs 1 = .ok (.istore_n 1, 1) := by decide +kernel
theorem dX3_pairs_2 : decode cX3_pairs 2 = .ok (.iconst 0, 1) := by decide +kernel
theorem dX3_pairs_3 : decode cX3_pairs 3 = .ok (.istore_n 2, 1) := by decide +kernel
theorem dX3_pairs_4 : decode cX3_pairs 4 = .ok (.iload_n 2, 1) := by decide +kernel
theorem dX3_pairs_5 : decode cX3_pairs 5 = .ok (.aload_n 0, 1) := by decide +kernel
theorem dX3_pairs_6 : decode cX3_pairs 6 = .ok (.getfield 31, 3) := by decide +kernel
theorem dX3_pairs_9 : decode cX3_pairs 9 = .ok (.if_icmp .ge 29, 3) := by decide +kernel
theorem dX3_pairs_12 : decode cX3_pairs 12 = .ok (.iload_n 2, 1) := by decide +kernel
theorem dX3_pairs_13 : decode cX3_pairs 13 = .ok (.bipush 8, 2) := by decide +kernel
theorem dX3_pairs_15 : decode cX3_pairs 15 = .ok (.if_icmp .ge 23, 3) := by decide +kernel
theorem dX3_pairs_18 : decode cX3_pairs 18 = .ok (.iload_n 1, 1) := by decide +kernel
theorem dX3_pairs_19 : decode cX3_pairs 19 = .ok (.aload_n 0, 1) := by decide +kernel
theorem dX3_pairs_20 : decode cX3_pairs 20 = .ok (.getfield 9, 3) := by decide +kernel
theorem dX3_pairs_23 : decode cX3_pairs 23 = .ok (.iload_n 2, 1) := by decide +kernel
theorem dX3_pairs_24 : decode cX3_pairs 24 = .ok (.iaload, 1) := by decide +kernel
theorem dX3_pairs_25 : decode cX3_pairs 25 = .ok (.invokestatic 54, 3) := by decide +kernel
theorem dX3_pairs_28 : decode cX3_pairs 28 = .ok (.iconst 1, 1) := by decide +kernel
theorem dX3_pairs_29 : decode cX3_pairs 29 = .ok (.isub, 1) := by decide +kernel
theorem dX3_pairs_30 : decode cX3_pairs 30 = .ok (.iadd, 1) := by decide +kernel
theorem dX3_pairs_31 : decode cX3_pairs 31 = .ok (.istore_n 1, 1) := by decide +kernel
theorem dX3_pairs_32 : decode cX3_pairs 32 = .ok (.iinc 2 1, 3) := by decide +kernel
theorem dX3_pairs_35 : decode cX3_pairs 35 = .ok (.goto (-31), 3) := by decide +kernel
theorem dX3_pairs_38 : decode cX3_pairs 38 = .ok (.iload_n 1, 1) := by decide +kernel
theorem dX3_pairs_39 : decode cX3_pairs 39 = .ok (.ireturn, 1) := by decide +kernel
def f_X3_pairs (σ : St) : Option Int32 :=
  lo2 FU (fun rec3 (x1 : Int32) (x2 : Int32) =>
    (if x2 < (σ.1 1 0) then
      (if x2 < (8 : Int32) then
        ck x2 8 <|
          calP (f_J6_bitCount_0f7a4 σ (σ.1 2 x2.toNatClampNeg)) fun r5 =>
            bd (x1 + (r5 - (1 : Int32))) fun x6 =>
              rec3 x6 (x2 + 1)
         else
        some x1)
       else
      some x1)) (0 : Int32) (0 : Int32)
set_option maxHeartbeats 4000000 in
set_option maxRecDepth 100000 in
theorem c_X3_pairs (l : Launch) (E : Ev) (hF : Full E) (σ : St) : Ctr l enI (fun _ => σ) E md_X3_pairs [rV E 1] σ (f_X3_pairs σ) := by
  refine ctr_of rfl (Nat.le_of_ble_eq_true rfl) (fun Γ => ?_)
  show Sim _ Γ _ E md_X3_pairs σ 0 [(0, rV E 1)] [] _
  unfold f_X3_pairs
  refine s_iconst (v := 0) dX3_pairs_0 (by decide) ?_
  refine s_istore_n [(1, .int (0 : Int32)), (0, rV E 1)] dX3_pairs_1 rfl (by decide) rfl ?_
  refine s_iconst (v := 0) dX3_pairs_2 (by decide) ?_
  refine s_istore_n [(2, .int (0 : Int32)), (1, .int (0 : Int32)), (0, rV E 1)] dX3_pairs_3 rfl (by decide) rfl ?_
  refine s_sub (lv' := [(0, rV E 1), (1, .int (0 : Int32)), (2, .int (0 : Int32))]) [2, 1, 0] rfl ?_
  refine s_lo2 (σf := fun x1 x2 => σ) (lvf := fun x1 x2 => [(0, rV E 1), (1, .int x1), (2, .int x2)]) (fun rec3 ih4 x1 x2 => ?_)
  refine s_iload_n dX3_pairs_4 2 rfl rfl ?_
  refine s_aload_n dX3_pairs_5 0 rfl rfl ?_
  refine s_geti gf_X3_31 rfl (m1 hF) k1 (ft_of k1 rfl) dX3_pairs_6 ?_
  refine s_icmp_ge 38 dX3_pairs_9 (by decide) ?_ ?_
  · skip
    refine s_iload_n dX3_pairs_12 2 rfl rfl ?_
    refine s_bipush (v := 8) dX3_pairs_13 (by decide) ?_
    refine s_icmp_ge 38 dX3_pairs_15 (by decide) ?_ ?_
    · skip
      refine s_iload_n dX3_pairs_18 1 rfl rfl ?_
      refine s_aload_n dX3_pairs_19 0 rfl rfl ?_
      refine s_getr (b := 2) gf_X3_9 rfl (m1 hF) k1 (ft_of k1 rfl) (hF.2 _ _) rfl dX3_pairs_20 ?_
      refine s_iload_n dX3_pairs_23 2 rfl rfl ?_
      refine s_iald (m2 hF) k2 l2 dX3_pairs_24 ?_
      refine s_callSpI (As := [.int (σ.1 2 x2.toNatClampNeg)]) mf_J6_bitCount_0f7a4 vf_J6_bitCount_0f7a4 ml_X3_54 (c_J6_bitCount_0f7a4 _ E hF σ (σ.1 2 x2.toNatClampNeg)) rfl rfl (Nat.le_of_ble_eq_true rfl) rfl dX3_pairs_25 (fun r5 => ?_)
      refine s_iconst (v := 1) dX3_pairs_28 (by decide) ?_
      refine s_isub dX3_pairs_29 ?_
      refine s_iadd dX3_pairs_30 ?_
      refine s_istore_nB (fun x6 => [(1, .int x6), (0, rV E 1), (2, .int x2)]) dX3_pairs_31 rfl (by decide) (fun _ => rfl) (fun x6 => ?_)
      refine s_iinc [(2, .int (x2 + 1)), (1, .int x6), (0, rV E 1)] dX3_pairs_32 2 rfl rfl (by decide) rfl ?_
      refine s_goto 4 dX3_pairs_35 (by decide) ?_
      refine s_sub [2, 1, 0] rfl ?_
      exact ih4 x6 (x2 + 1)
    · skip
      refine s_iload_n dX3_pairs_38 1 rfl rfl ?_
      exact s_ireturn rfl rfl rfl dX3_pairs_39
  · skip
    refine s_iload_n dX3_pairs_38 1 rfl rfl ?_
    exact s_ireturn rfl rfl rfl dX3_pairs_39
