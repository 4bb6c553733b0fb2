theorem dX2_isSafe_0 : decode cX2_isSafe 0 = .ok (.iload_n 1, 1) := by decide +kernel
theorem dX2_isSafe_1 : decode cX2_isSafe 1 = .ok (.ifCond .lt 35, 3) := by decide +kernel
theorem dX2_isSafe_4 : decode cX2_isSafe 4 = .ok (.iload_n 1, 1) := by decide +kernel
theorem dX2_isSafe_5 : decode cX2_isSafe 5 = .ok (.sipush 256, 3) := by decide +kernel
theorem dX2_isSafe_8 : decode cX2_isSafe 8 = .ok (.if_icmp .ge 28, 3) := by decide +kernel
theorem dX2_isSafe_11 : decode cX2_isSafe 11 = .ok (.aload_n 0, 1) := by decide +kernel
theorem dX2_isSafe_12 : decode cX2_isSafe 12 = .ok (.getfield 15, 3) := by decide +kernel
theorem dX2_isSafe_15 : decode cX2_isSafe 15 = .ok (.iload_n 1, 1) := by decide +kernel
theorem dX2_isSafe_16 : decode cX2_isSafe 16 = .ok (.bipush 6, 2) := by decide +kernel
theorem dX2_isSafe_18 : decode cX2_isSafe 18 = .ok (.ishr, 1) := by decide +kernel
theorem dX2_isSafe_19 : decode cX2_isSafe 19 = .ok (.laload, 1) := by decide +kernel
theorem dX2_isSafe_20 : decode cX2_isSafe 20 = .ok (.iload_n 1, 1) := by decide +kernel
theorem dX2_isSafe_21 : decode cX2_isSafe 21 = .ok (.bipush 63, 2) := by decide +kernel
theorem dX2_isSafe_23 : decode cX2_isSafe 23 = .ok (.iand, 1) := by decide +kernel
theorem dX2_isSafe_24 : decode cX2_isSafe 24 = .ok (.lshr, 1) := by decide +kernel
theorem dX2_isSafe_25 : decode cX2_isSafe 25 = .ok (.lconst 1, 1) := by decide +kernel
theorem dX2_isSafe_26 : decode cX2_isSafe 26 = .ok (.land, 1) := by decide +kernel
theorem dX2_isSafe_27 : decode cX2_isSafe 27 = .ok (.lconst 0, 1) := by decide +kernel
theorem dX2_isSafe_28 : decode cX2_isSafe 28 = .ok (.lcmp, 1) := by decide +kernel
theorem dX2_isSafe_29 : decode cX2_isSafe 29 = .ok (.ifCond .eq 7, 3) := by decide +kernel
theorem dX2_isSafe_32 : decode cX2_isSafe 32 = .ok (.iconst 1, 1) := by decide +kernel
theorem dX2_isSafe_33 : decode cX2_isSafe 33 = .ok (.goto 4, 3) := by decide +kernel
theorem dX2_isSafe_36 : decode cX2_isSafe 36 = .ok (.iconst 0, 1) := by decide +kernel
theorem dX2_isSafe_37 : decode cX2_isSafe 37 = .ok (.ireturn, 1) := by decide +kernel
def f_X2_isSafe (σ : St) (g : Nat) (v1 : Int32) : Option Int32 :=
  (if v1 < 0 then
    some (0 : Int32)
     else
    (if v1 < (256 : Int32) then
      ck (v1 >>> ((6 : Int32) &&& 31)) 4 <|
        (if (lg_cmp (((σ.2 (28 + 3 * g) (v1 >>> ((6 : Int32) &&& 31)).toNatClampNeg) >>> ((v1 &&& (63 : Int32)).toInt64 &&& 63)) &&& (1 : Int64)) (0 : Int64)) = 0 then
          some (0 : Int32)
           else
          some (1 : Int32))
       else
      some (0 : Int32)))
set_option maxHeartbeats 4000000 in
set_option maxRecDepth 100000 in
theorem c_X2_isSafe (l : Launch) (E : Ev) (hF : Full E) (σ : St) (g : Nat) (hg : g < 2) (v1 : Int32) : Ctr l enI (fun _ => σ) E md_X2_isSafe [rV E (26 + 3 * g), .int v1] σ (f_X2_isSafe σ g v1) := by
  refine ctr_of rfl (Nat.le_of_ble_eq_true rfl) (fun Γ => ?_)
  show Sim _ Γ _ E md_X2_isSafe σ 0 [(0, rV E (26 + 3 * g)), (1, .int v1)] [] _
  unfold f_X2_isSafe
  refine s_iload_n dX2_isSafe_0 1 rfl rfl ?_
  refine s_if_lt 36 dX2_isSafe_1 (by decide) ?_ ?_
  · skip
    refine s_iconst (v := 0) dX2_isSafe_36 (by decide) ?_
    exact s_zreturn rfl (by decide) rfl rfl dX2_isSafe_37
  · skip
    refine s_iload_n dX2_isSafe_4 1 rfl rfl ?_
    refine s_sipush (v := 256) dX2_isSafe_5 (by decide) ?_
    refine s_icmp_ge 36 dX2_isSafe_8 (by decide) ?_ ?_
    · skip
      refine s_aload_n dX2_isSafe_11 0 rfl rfl ?_
      refine s_getr (b := (28 + 3 * g)) gf_X2_15 rfl (mG hF hg) (kG hg) (ft_of (kG hg) rfl) (hF.2 _ _) (rG3 hg) dX2_isSafe_12 ?_
      refine s_iload_n dX2_isSafe_15 1 rfl rfl ?_
      refine s_bipush (v := 6) dX2_isSafe_16 (by decide) ?_
      refine s_ishr dX2_isSafe_18 ?_
      refine s_lald (mG2 hF hg) (kG2 hg) (lG2 hg) dX2_isSafe_19 ?_
      refine s_iload_n dX2_isSafe_20 1 rfl rfl ?_
      refine s_bipush (v := 63) dX2_isSafe_21 (by decide) ?_
      refine s_iand dX2_isSafe_23 ?_
      refine s_lshr dX2_isSafe_24 rfl ?_
      refine s_lconst (v := 1) dX2_isSafe_25 (by decide) ?_
      refine s_land dX2_isSafe_26 ?_
      refine s_lconst (v := 0) dX2_isSafe_27 (by decide) ?_
      refine s_lcmp dX2_isSafe_28 ?_
      refine s_if_eq 36 dX2_isSafe_29 (by decide) ?_ ?_
      · skip
        refine s_iconst (v := 0) dX2_isSafe_36 (by decide) ?_
        exact s_zreturn rfl (by decide) rfl rfl dX2_isSafe_37
      · skip
        refine s_iconst (v := 1) dX2_isSafe_32 (by decide) ?_
        refine s_goto 37 dX2_isSafe_33 (by decide) ?_
        exact s_zreturn rfl (by decide) rfl rfl dX2_isSafe_37
    · skip
      refine s_iconst (v := 0) dX2_isSafe_36 (by decide) ?_
      exact s_zreturn rfl (by decide) rfl rfl dX2_isSafe_37
theorem dX2_having_0 : decode cX2_having 0 = .ok (.iload_n 0, 1) := by decide +kernel
theorem dX2_having_1 : decode cX2_having 1 = .ok (.ifCond .lt 21, 3) := by decide +kernel
theorem dX2_having_4 : decode cX2_having 4 = .ok (.iload_n 0, 1) := by decide +kernel
theorem dX2_having_5 : decode cX2_having 5 = .ok (.getstatic 61, 3) := by decide +kernel
theorem dX2_having_8 : decode cX2_having 8 = .ok (.arraylength, 1) := by decide +kernel
theorem dX2_having_9 : decode cX2_having 9 = .ok (.if_icmp .ge 13, 3) := by decide +kernel
theorem dX2_having_12 : decode cX2_having 12 = .ok (.getstatic 61, 3) := by decide +kernel
theorem dX2_having_15 : decode cX2_having 15 = .ok (.iload_n 0, 1) := by decide +kernel
theorem dX2_having_16 : decode cX2_having 16 = .ok (.laload, 1) := by decide +kernel
theorem dX2_having_17 : decode cX2_having 17 = .ok (.ldc2_w 64, 3) := by decide +kernel
theorem dX2_having_20 : decode cX2_having 20 = .ok (.lxor, 1) := by decide +kernel
theorem dX2_having_21 : decode cX2_having 21 = .ok (.lreturn, 1) := by decide +kernel
theorem dX2_having_22 : decode cX2_having 22 = .ok (.iload_n 1, 1) := by decide +kernel
theorem dX2_having_23 : decode cX2_having 23 = .ok (.iload_n 0, 1) := by decide +kernel
theorem dX2_having_24 : decode cX2_having 24 = .ok (.getstatic 61, 3) := by decide +kernel
theorem dX2_having_27 : decode cX2_having 27 = .ok (.arraylength, 1) := by decide +kernel
theorem dX2_having_28 : decode cX2_having 28 = .ok (.isub, 1) := by decide +kernel
theorem dX2_having_29 : decode cX2_having 29 = .ok (.ishr, 1) := by decide +kernel
theorem dX2_having_30 : decode cX2_having 30 = .ok (.iconst 1, 1) := by decide +kernel
theorem dX2_having_31 : decode cX2_having 31 = .ok (.iand, 1) := by decide +kernel
theorem dX2_having_32 : decode cX2_having 32 = .ok (.ifCond .eq 9, 3) := by decide +kernel
theorem dX2_having_35 : decode cX2_having 35 = .ok (.ldc2_w 64, 3) := by decide +kernel
theorem dX2_having_38 : decode cX2_having 38 = .ok (.goto 4, 3) := by decide +kernel
theorem dX2_having_41 : decode cX2_having 41 = .ok (.lconst 0, 1) := by decide +kernel
theorem dX2_having_42 : decode cX2_having 42 = .ok (.lreturn, 1) := by decide +kernel
def f_X2_having (σ : St) (v0 : Int32) (v1 : Int32) : Option Int64 :=
  jn0 (fun jk1 =>
    (if v0 < 0 then
      jk1
       else
      (if v0 < (6 : Int32) then
        ck v0 6 <|
          some ((lackV v0.toNatClampNeg) ^^^ (-1 : Int64))
         else
        jk1)))
    (
    (if ((v1 >>> ((v0 - (6 : Int32)) &&& 31)) &&& (1 : Int32)) = 0 then
        some (0 : Int64)
         else
        some (-1 : Int64)))
set_option maxHeartbeats 4000000 in
set_option maxRecDepth 100000 in
theorem c_X2_having (l : Launch) (E : Ev) (hF : Full E) (σ : St) (v0 : Int32) (v1 : Int32) : Ctr l enL (fun _ => σ) E md_X2_having [.int v0, .int v1] σ (f_X2_having σ v0 v1) := by
  refine ctr_of rfl (Nat.le_of_ble_eq_true rfl) (fun Γ => ?_)
  show Sim _ Γ _ E md_X2_having σ 0 [(0, .int v0), (1, .int v1)] [] _
  unfold f_X2_having
  refine s_iload_n dX2_having_0 0 rfl rfl ?_
  refine s_jn0 σ 22 [(0, .int v0), (1, .int v1)] [] ?_ ?_
  · skip
    refine s_iload_n dX2_having_22 1 rfl rfl ?_
    refine s_iload_n dX2_having_23 0 rfl rfl ?_
    refine s_getK rfl w_991 dX2_having_24 ?_
    refine s_lenK dX2_having_27 ?_
    refine s_isub dX2_having_28 ?_
    refine s_ishr dX2_having_29 ?_
    refine s_iconst (v := 1) dX2_having_30 (by decide) ?_
    refine s_iand dX2_having_31 ?_
    refine s_if_eq 41 dX2_having_32 (by decide) ?_ ?_
    · skip
      refine s_lconst (v := 0) dX2_having_41 (by decide) ?_
      exact s_lreturn rfl rfl rfl dX2_having_42
    · skip
      refine s_ldc2 (v := -1) rfl w_993 dX2_having_35 ?_
      refine s_goto 42 dX2_having_38 (by decide) ?_
      exact s_lreturn rfl rfl rfl dX2_having_42
  · intro jk1 hjk1
    refine s_if_lt 22 dX2_having_1 (by decide) ?_ ?_
    · skip
      exact hjk1
    · skip
      refine s_iload_n dX2_having_4 0 rfl rfl ?_
      refine s_getK rfl w_991 dX2_having_5 ?_
      refine s_lenK dX2_having_8 ?_
      refine s_icmp_ge 22 dX2_having_9 (by decide) ?_ ?_
      · skip
        refine s_getK rfl w_991 dX2_having_12 ?_
        refine s_iload_n dX2_having_15 0 rfl rfl ?_
        refine s_ldK dX2_having_16 ?_
        refine s_ldc2 (v := -1) rfl w_993 dX2_having_17 ?_
        refine s_lxor dX2_having_20 ?_
        exact s_lreturn rfl rfl rfl dX2_having_21
      · skip
        exact hjk1
theorem dX2_answersIn_0 : decode cX2_answersIn 0 = .ok (.iload_n 1, 1) := by decide +kernel
theorem dX2_answersIn_1 : decode cX2_answersIn 1 = .ok (.ifCond .lt 19, 3) := by decide +kernel
theorem dX2_answersIn_4 : decode cX2_answersIn 4 = .ok (.iload_n 1, 1) := by decide +kernel
theorem dX2_answersIn_5 : decode cX2_answersIn 5 = .ok (.sipush 256, 3) := by decide +kernel
theorem dX2_answersIn_8 : decode cX2_answersIn 8 = .ok (.if_icmp .ge 12, 3) := by decide +kernel
theorem dX2_answersIn_11 : decode cX2_answersIn 11 = .ok (.iload_n 3, 1) := by decide +kernel
theorem dX2_answersIn_12 : decode cX2_answersIn 12 = .ok (.ifCond .lt 8, 3) := by decide +kernel
theorem dX2_answersIn_15 : decode cX2_answersIn 15 = .ok (.iload_n 3, 1) := by decide +kernel
theorem dX2_answersIn_16 : decode cX2_answersIn 16 = .ok (.iconst 4, 1) := by decide +kernel
theorem dX2_answersIn_17 : decode cX2_answersIn 17 = .ok (.if_icmp .lt 5, 3) := by decide +kernel
theorem dX2_answersIn_20 : decode cX2_answersIn 20 = .ok (.lconst 0, 1) := by decide +kernel
theorem dX2_answersIn_21 : decode cX2_answersIn 21 = .ok (.lreturn, 1) := by decide +kernel
theorem dX2_answersIn_22 : decode cX2_answersIn 22 = .ok (.aload_n 0, 1) := by decide +kernel
theorem dX2_answersIn_23 : decode cX2_answersIn 23 = .ok (.getfield 11, 3) := by decide +kernel
theorem dX2_answersIn_26 : decode cX2_answersIn 26 = .ok (.iload_n 1, 1) := by decide +kernel
theorem dX2_answersIn_27 : decode cX2_answersIn 27 = .ok (.iconst 4, 1) := by decide +kernel
theorem dX2_answersIn_28 : decode cX2_answersIn 28 = .ok (.imul, 1) := by decide +kernel
theorem dX2_answersIn_29 : decode cX2_answersIn 29 = .ok (.iload_n 3, 1) := by decide +kernel
theorem dX2_answersIn_30 : decode cX2_answersIn 30 = .ok (.iadd, 1) := by decide +kernel
theorem dX2_answersIn_31 : decode cX2_answersIn 31 = .ok (.laload, 1) := by decide +kernel
theorem dX2_answersIn_32 : decode cX2_answersIn 32 = .ok (.aload_n 0, 1) := by decide +kernel
theorem dX2_answersIn_33 : decode cX2_answersIn 33 = .ok (.getfield 15, 3) := by decide +kernel
theorem dX2_answersIn_36 : decode cX2_answersIn 36 = .ok (.iload_n 3, 1) := by decide +kernel
theorem dX2_answersIn_37 : decode cX2_answersIn 37 = .ok (.laload, 1) := by decide +kernel
theorem dX2_answersIn_38 : decode cX2_answersIn 38 = .ok (.land, 1) := by decide +kernel
theorem dX2_answersIn_39 : decode cX2_answersIn 39 = .ok (.iload_n 2, 1) := by decide +kernel
theorem dX2_answersIn_40 : decode cX2_answersIn 40 = .ok (.iload_n 3, 1) := by decide +kernel
theorem dX2_answersIn_41 : decode cX2_answersIn 41 = .ok (.invokestatic 57, 3) := by decide +kernel
theorem dX2_answersIn_44 : decode cX2_answersIn 44 = .ok (.land, 1) := by decide +kernel
theorem dX2_answersIn_45 : decode cX2_answersIn 45 = .ok (.lreturn, 1) := by decide +kernel
def f_X2_answersIn (σ : St) (g : Nat) (v1 : Int32) (v2 : Int32) (v3 : Int32) : Option Int64 :=
  (if v1 < 0 then
    some (0 : Int64)
     else
    (if v1 < (256 : Int32) then
      (if v3 < 0 then
        some (0 : Int64)
         else
        (if v3 < (4 : Int32) then
          ck ((v1 * (4 : Int32)) + v3) 1024 <|
            ck v3 4 <|
              calP (f_X2_having σ v2 v3) fun r1 =>
                some (((σ.2 (27 + 3 * g) ((v1 * (4 : Int32)) + v3).toNatClampNeg) &&& (σ.2 (28 + 3 * g) v3.toNatClampNeg)) &&& r1)
           else
          some (0 : Int64)))
       else
      some (0 : Int64)))
set_option maxHeartbeats 4000000 in
set_option maxRecDepth 100000 in
theorem c_X2_answersIn (l : Launch) (E : Ev) (hF : Full E) (σ : St) (g : Nat) (hg : g < 2) (v1 : Int32) (v2 : Int32) (v3 : Int32) : Ctr l enL (fun _ => σ) E md_X2_answersIn [rV E (26 + 3 * g), .int v1, .int v2, .int v3] σ (f_X2_answersIn σ g v1 v2 v3) := by
  refine ctr_of rfl (Nat.le_of_ble_eq_true rfl) (fun Γ => ?_)
  show Sim _ Γ _ E md_X2_answersIn σ 0 [(0, rV E (26 + 3 * g)), (1, .int v1), (2, .int v2), (3, .int v3)] [] _
  unfold f_X2_answersIn
  refine s_iload_n dX2_answersIn_0 1 rfl rfl ?_
  refine s_if_lt 20 dX2_answersIn_1 (by decide) ?_ ?_
  · skip
    refine s_lconst (v := 0) dX2_answersIn_20 (by decide) ?_
    exact s_lreturn rfl rfl rfl dX2_answersIn_21
  · skip
    refine s_iload_n dX2_answersIn_4 1 rfl rfl ?_
    refine s_sipush (v := 256) dX2_answersIn_5 (by decide) ?_
    refine s_icmp_ge 20 dX2_answersIn_8 (by decide) ?_ ?_
    · skip
      refine s_iload_n dX2_answersIn_11 3 rfl rfl ?_
      refine s_if_lt 20 dX2_answersIn_12 (by decide) ?_ ?_
      · skip
        refine s_lconst (v := 0) dX2_answersIn_20 (by decide) ?_
        exact s_lreturn rfl rfl rfl dX2_answersIn_21
      · skip
        refine s_iload_n dX2_answersIn_15 3 rfl rfl ?_
        refine s_iconst (v := 4) dX2_answersIn_16 (by decide) ?_
        refine s_icmp_lt 22 dX2_answersIn_17 (by decide) ?_ ?_
        · skip
          refine s_aload_n dX2_answersIn_22 0 rfl rfl ?_
          refine s_getr (b := (27 + 3 * g)) gf_X2_11 rfl (mG hF hg) (kG hg) (ft_of (kG hg) rfl) (hF.2 _ _) (rG2 hg) dX2_answersIn_23 ?_
          refine s_iload_n dX2_answersIn_26 1 rfl rfl ?_
          refine s_iconst (v := 4) dX2_answersIn_27 (by decide) ?_
          refine s_imul dX2_answersIn_28 ?_
          refine s_iload_n dX2_answersIn_29 3 rfl rfl ?_
          refine s_iadd dX2_answersIn_30 ?_
          refine s_lald (mG1 hF hg) (kG1 hg) (lG1 hg) dX2_answersIn_31 ?_
          refine s_aload_n dX2_answersIn_32 0 rfl rfl ?_
          refine s_getr (b := (28 + 3 * g)) gf_X2_15 rfl (mG hF hg) (kG hg) (ft_of (kG hg) rfl) (hF.2 _ _) (rG3 hg) dX2_answersIn_33 ?_
          refine s_iload_n dX2_answersIn_36 3 rfl rfl ?_
          refine s_lald (mG2 hF hg) (kG2 hg) (lG2 hg) dX2_answersIn_37 ?_
          refine s_land dX2_answersIn_38 ?_
          refine s_iload_n dX2_answersIn_39 2 rfl rfl ?_
          refine s_iload_n dX2_answersIn_40 3 rfl rfl ?_
          refine s_callSpL (As := [.int v2, .int v3]) mf_X2_having vf_X2_having ml_X2_57 (c_X2_having _ E hF σ v2 v3) rfl rfl (Nat.le_of_ble_eq_true rfl) rfl dX2_answersIn_41 (fun r1 => ?_)
          refine s_land dX2_answersIn_44 ?_
          exact s_lreturn rfl rfl rfl dX2_answersIn_45
        · skip
          refine s_lconst (v := 0) dX2_answersIn_20 (by decide) ?_
          exact s_lreturn rfl rfl rfl dX2_answersIn_21
    · skip
      refine s_lconst (v := 0) dX2_answersIn_20 (by decide) ?_
      exact s_lreturn rfl rfl rfl dX2_answersIn_21
theorem dX2_answersAll_0 : decode cX2_answersAll 0 = .ok (.iconst 0, 1) := by decide +kernel
theorem dX2_answersAll_1 : decode cX2_answersAll 1 = .ok (.istore_n 2, 1) := by decide +kernel
theorem dX2_answersAll_2 : decode cX2_answersAll 2 = .ok (.iload_n 2, 1) := by decide +kernel
theorem dX2_answersAll_3 : decode cX2_answersAll 3 = .ok (.aload_n 0, 1) := by decide +kernel
theorem dX2_answersAll_4 : decode cX2_answersAll 4 = .ok (.getfield 18, 3) := by decide +kernel
theorem dX2_answersAll_7 : decode cX2_answersAll 7 = .ok (.invokevirtual 92, 3) := by decide +kernel
theorem dX2_answersAll_10 : decode cX2_answersAll 10 = .ok (.if_icmp .ge 59, 3) := by decide +kernel
theorem dX2_answersAll_13 : decode cX2_answersAll 13 = .ok (.iload_n 1, 1) := by decide +kernel
theorem dX2_answersAll_14 : decode cX2_answersAll 14 = .ok (.iload_n 2, 1) := by decide +kernel
theorem dX2_answersAll_15 : decode cX2_answersAll 15 = .ok (.invokestatic 95, 3) := by decide +kernel
theorem dX2_answersAll_18 : decode cX2_answersAll 18 = .ok (.istore_n 3, 1) := by decide +kernel
theorem dX2_answersAll_19 : decode cX2_answersAll 19 = .ok (.iconst 0, 1) := by decide +kernel
theorem dX2_answersAll_20 : decode cX2_answersAll 20 = .ok (.istore 4, 2) := by decide +kernel
theorem dX2_answersAll_22 : decode cX2_answersAll 22 = .ok (.iload 4, 2) := by decide +kernel
theorem dX2_answersAll_24 : decode cX2_answersAll 24 = .ok (.iconst 4, 1) := by decide +kernel
theorem dX2_answersAll_25 : decode cX2_answersAll 25 = .ok (.if_icmp .ge 32, 3) := by decide +kernel
theorem dX2_answersAll_28 : decode cX2_answersAll 28 = .ok (.iload_n 3, 1) := by decide +kernel
theorem dX2_answersAll_29 : decode cX2_answersAll 29 = .ok (.ifCond .ne 28, 3) := by decide +kernel
theorem dX2_answersAll_32 : decode cX2_answersAll 32 = .ok (.aload_n 0, 1) := by decide +kernel
theorem dX2_answersAll_33 : decode cX2_answersAll 33 = .ok (.iload_n 1, 1) := by decide +kernel
theorem dX2_answersAll_34 : decode cX2_answersAll 34 = .ok (.iload_n 2, 1) := by decide +kernel
theorem dX2_answersAll_35 : decode cX2_answersAll 35 = .ok (.iload 4, 2) := by decide +kernel
theorem dX2_answersAll_37 : decode cX2_answersAll 37 = .ok (.invokevirtual 48, 3) := by decide +kernel
theorem dX2_answersAll_40 : decode cX2_answersAll 40 = .ok (.lconst 0, 1) := by decide +kernel
theorem dX2_answersAll_41 : decode cX2_answersAll 41 = .ok (.lcmp, 1) := by decide +kernel
theorem dX2_answersAll_42 : decode cX2_answersAll 42 = .ok (.ifCond .eq 7, 3) := by decide +kernel
theorem dX2_answersAll_45 : decode cX2_answersAll 45 = .ok (.iconst 1, 1) := by decide +kernel
theorem dX2_answersAll_46 : decode cX2_answersAll 46 = .ok (.goto 4, 3) := by decide +kernel
theorem dX2_answersAll_49 : decode cX2_answersAll 49 = .ok (.iconst 0, 1) := by decide +kernel
theorem dX2_answersAll_50 : decode cX2_answersAll 50 = .ok (.istore_n 3, 1) := by decide +kernel
theorem dX2_answersAll_51 : decode cX2_answersAll 51 = .ok (.iinc 4 1, 3) := by decide +kernel
theorem dX2_answersAll_54 : decode cX2_answersAll 54 = .ok (.goto (-32), 3) := by decide +kernel
theorem dX2_answersAll_57 : decode cX2_answersAll 57 = .ok (.iload_n 3, 1) := by decide +kernel
theorem dX2_answersAll_58 : decode cX2_answersAll 58 = .ok (.ifCond .ne 5, 3) := by decide +kernel
theorem dX2_answersAll_61 : decode cX2_answersAll 61 = .ok (.iconst 0, 1) := by decide +kernel
theorem dX2_answersAll_62 : decode cX2_answersAll 62 = .ok (.ireturn, 1) := by decide +kernel
theorem dX2_answersAll_63 : decode cX2_answersAll 63 = .ok (.iinc 2 1, 3) := by decide +kernel
theorem dX2_answersAll_66 : decode cX2_answersAll 66 = .ok (.goto (-64), 3) := by decide +kernel
theorem dX2_answersAll_69 : decode cX2_answersAll 69 = .ok (.iconst 1, 1) := by decide +kernel
theorem dX2_answersAll_70 : decode cX2_answersAll 70 = .ok (.ireturn, 1) := by decide +kernel
def f_X2_answersAll (σ : St) (g : Nat) (v1 : Int32) : Option Int32 :=
  lo1 FU (fun rec2 (x1 : Int32) =>
    calP (f_X3_places σ) fun r4 =>
      (if x1 < r4 then
        calP (f_X9_has σ v1 x1) fun r5 =>
          lo2 FU (fun rec8 (x6 : Int32) (x7 : Int32) =>
            jn0 (fun jk10 =>
              (if x7 < (4 : Int32) then
                (if x6 = 0 then
                  calP (f_X2_answersIn σ g v1 x1 x7) fun r11 =>
                    (if (lg_cmp r11 (0 : Int64)) = 0 then
                      rec8 (0 : Int32) (x7 + 1)
                       else
                      rec8 (1 : Int32) (x7 + 1))
                   else
                  jk10)
                 else
                jk10))
              (
              (if x6 = 0 then
                  some (0 : Int32)
                   else
                  rec2 (x1 + 1)))) r5 (0 : Int32)
         else
        some (1 : Int32))) (0 : Int32)
set_option maxHeartbeats 4000000 in
set_option maxRecDepth 100000 in
theorem c_X2_answersAll (l : Launch) (E : Ev) (hF : Full E) (σ : St) (g : Nat) (hg : g < 2) (v1 : Int32) : Ctr l enI (fun _ => σ) E md_X2_answersAll [rV E (26 + 3 * g), .int v1] σ (f_X2_answersAll σ g v1) := by
  refine ctr_of rfl (Nat.le_of_ble_eq_true rfl) (fun Γ => ?_)
  show Sim _ Γ _ E md_X2_answersAll σ 0 [(0, rV E (26 + 3 * g)), (1, .int v1)] [] _
  unfold f_X2_answersAll
  refine s_iconst (v := 0) dX2_answersAll_0 (by decide) ?_
  refine s_istore_n [(2, .int (0 : Int32)), (0, rV E (26 + 3 * g)), (1, .int v1)] dX2_answersAll_1 rfl (by decide) rfl ?_
  refine s_sub (lv' := [(0, rV E (26 + 3 * g)), (1, .int v1), (2, .int (0 : Int32))]) [1, 2, 0] rfl ?_
  refine s_lo1 (σf := fun x1 => σ) (lvf := fun x1 => [(0, rV E (26 + 3 * g)), (1, .int v1), (2, .int x1)]) (fun rec2 ih3 x1 => ?_)
  refine s_iload_n dX2_answersAll_2 2 rfl rfl ?_
  refine s_aload_n dX2_answersAll_3 0 rfl rfl ?_
  refine s_getr (b := 1) gf_X2_18 rfl (mG hF hg) (kG hg) (ft_of (kG hg) rfl) (hF.2 _ _) (rG0 hg) dX2_answersAll_4 ?_
  refine s_callVpI (As := []) mf_X3_places vf_X3_places ml_X2_92 (c_X3_places _ E hF σ) (m1 hF) k1 (by decide) rfl rfl rfl rfl (Nat.le_of_ble_eq_true rfl) rfl dX2_answersAll_7 (fun r4 => ?_)
  refine s_icmp_ge 69 dX2_answersAll_10 (by decide) ?_ ?_
  · skip
    refine s_iload_n dX2_answersAll_13 1 rfl rfl ?_
    refine s_iload_n dX2_answersAll_14 2 rfl rfl ?_
    refine s_callNpI (As := [.int v1, .int x1]) (host := "RunnerNet") mf_X9_has vf_X9_has (nl_of 8 rfl) (c_X9_has _ E hF σ v1 x1) rfl rfl (Nat.le_of_ble_eq_true rfl) rfl dX2_answersAll_15 (fun r5 => ?_)
    refine s_istore_n [(3, .int r5), (0, rV E (26 + 3 * g)), (1, .int v1), (2, .int x1)] dX2_answersAll_18 rfl (by decide) rfl ?_
    refine s_iconst (v := 0) dX2_answersAll_19 (by decide) ?_
    refine s_istore [(4, .int (0 : Int32)), (3, .int r5), (0, rV E (26 + 3 * g)), (1, .int v1), (2, .int x1)] dX2_answersAll_20 (by decide) rfl ?_
    refine s_sub (lv' := [(0, rV E (26 + 3 * g)), (1, .int v1), (2, .int x1), (3, .int r5), (4, .int (0 : Int32))]) [2, 3, 4, 1, 0] rfl ?_
    refine s_lo2 (σf := fun x6 x7 => σ) (lvf := fun x6 x7 => [(0, rV E (26 + 3 * g)), (1, .int v1), (2, .int x1), (3, .int x6), (4, .int x7)]) (fun rec8 ih9 x6 x7 => ?_)
    refine s_iload dX2_answersAll_22 4 rfl ?_
    refine s_iconst (v := 4) dX2_answersAll_24 (by decide) ?_
    refine s_jn0 σ 57 [(0, rV E (26 + 3 * g)), (1, .int v1), (2, .int x1), (3, .int x6)] [] ?_ ?_
    · skip
      refine s_iload_n dX2_answersAll_57 3 rfl rfl ?_
      refine s_if_ne 63 dX2_answersAll_58 (by decide) ?_ ?_
      · skip
        refine s_iconst (v := 0) dX2_answersAll_61 (by decide) ?_
        exact s_zreturn rfl (by decide) rfl rfl dX2_answersAll_62
      · skip
        refine s_iinc [(2, .int (x1 + 1)), (0, rV E (26 + 3 * g)), (1, .int v1), (3, .int x6)] dX2_answersAll_63 2 rfl rfl (by decide) rfl ?_
        refine s_goto 2 dX2_answersAll_66 (by decide) ?_
        refine s_sub [1, 2, 0] rfl ?_
        exact ih3 (x1 + 1)
    · intro jk10 hjk10
      refine s_icmp_ge 57 dX2_answersAll_25 (by decide) ?_ ?_
      · skip
        refine s_iload_n dX2_answersAll_28 3 rfl rfl ?_
        refine s_if_ne 57 dX2_answersAll_29 (by decide) ?_ ?_
        · skip
          refine s_aload_n dX2_answersAll_32 0 rfl rfl ?_
          refine s_iload_n dX2_answersAll_33 1 rfl rfl ?_
          refine s_iload_n dX2_answersAll_34 2 rfl rfl ?_
          refine s_iload dX2_answersAll_35 4 rfl ?_
          refine s_callVpL (As := [.int v1, .int x1, .int x7]) mf_X2_answersIn vf_X2_answersIn ml_X2_48 (c_X2_answersIn _ E hF σ g hg v1 x1 x7) (mG hF hg) (kG hg) (by decide) rfl rfl rfl rfl (Nat.le_of_ble_eq_true rfl) rfl dX2_answersAll_37 (fun r11 => ?_)
          refine s_lconst (v := 0) dX2_answersAll_40 (by decide) ?_
          refine s_lcmp dX2_answersAll_41 ?_
          refine s_if_eq 49 dX2_answersAll_42 (by decide) ?_ ?_
          · skip
            refine s_iconst (v := 0) dX2_answersAll_49 (by decide) ?_
            refine s_istore_n [(3, .int (0 : Int32)), (0, rV E (26 + 3 * g)), (1, .int v1), (2, .int x1), (4, .int x7)] dX2_answersAll_50 rfl (by decide) rfl ?_
            refine s_iinc [(4, .int (x7 + 1)), (3, .int (0 : Int32)), (0, rV E (26 + 3 * g)), (1, .int v1), (2, .int x1)] dX2_answersAll_51 4 rfl rfl (by decide) rfl ?_
            refine s_goto 22 dX2_answersAll_54 (by decide) ?_
            refine s_sub [2, 3, 4, 1, 0] rfl ?_
            exact ih9 (0 : Int32) (x7 + 1)
          · skip
            refine s_iconst (v := 1) dX2_answersAll_45 (by decide) ?_
            refine s_goto 50 dX2_answersAll_46 (by decide) ?_
            refine s_istore_n [(3, .int (1 : Int32)), (0, rV E (26 + 3 * g)), (1, .int v1), (2, .int x1), (4, .int x7)] dX2_answersAll_50 rfl (by decide) rfl ?_
            refine s_iinc [(4, .int (x7 + 1)), (3, .int (1 : Int32)), (0, rV E (26 + 3 * g)), (1, .int v1), (2, .int x1)] dX2_answersAll_51 4 rfl rfl (by decide) rfl ?_
            refine s_goto 22 dX2_answersAll_54 (by decide) ?_
            refine s_sub [2, 3, 4, 1, 0] rfl ?_
            exact ih9 (1 : Int32) (x7 + 1)
        · skip
          refine s_sub [0, 1, 2, 3] rfl ?_
          exact hjk10
      · skip
        refine s_sub [0, 1, 2, 3] rfl ?_
        exact hjk10
  · skip
    refine s_iconst (v := 1) dX2_answersAll_69 (by decide) ?_
    exact s_zreturn rfl (by decide) rfl rfl dX2_answersAll_70
theorem dX2_dropUnsafe_0 : decode cX2_dropUnsafe 0 = .ok (.iconst 0, 1) := by decide +kernel
theorem dX2_dropUnsafe_1 : decode cX2_dropUnsafe 1 = .ok (.istore_n 1, 1) := by decide +kernel
theorem dX2_dropUnsafe_2 : decode cX2_dropUnsafe 2 = .ok (.iconst 1, 1) := by decide +kernel
theorem dX2_dropUnsafe_3 : decode cX2_dropUnsafe 3 = .ok (.istore_n 2, 1) := by decide +kernel
theorem dX2_dropUnsafe_4 : decode cX2_dropUnsafe 4 = .ok (.iload_n 2, 1) := by decide +kernel
theorem dX2_dropUnsafe_5 : decode cX2_dropUnsafe 5 = .ok (.aload_n 0, 1) := by decide +kernel
theorem dX2_dropUnsafe_6 : decode cX2_dropUnsafe 6 = .ok (.getfield 18, 3) := by decide +kernel
theorem dX2_dropUnsafe_9 : decode cX2_dropUnsafe 9 = .ok (.invokevirtual 36, 3) := by decide +kernel
theorem dX2_dropUnsafe_12 : decode cX2_dropUnsafe 12 = .ok (.if_icmp .gt 56, 3) := by decide +kernel
theorem dX2_dropUnsafe_15 : decode cX2_dropUnsafe 15 = .ok (.iload_n 2, 1) := by decide +kernel
theorem dX2_dropUnsafe_16 : decode cX2_dropUnsafe 16 = .ok (.sipush 256, 3) := by decide +kernel
theorem dX2_dropUnsafe_19 : decode cX2_dropUnsafe 19 = .ok (.if_icmp .ge 49, 3) := by decide +kernel
theorem dX2_dropUnsafe_22 : decode cX2_dropUnsafe 22 = .ok (.aload_n 0, 1) := by decide +kernel
theorem dX2_dropUnsafe_23 : decode cX2_dropUnsafe 23 = .ok (.iload_n 2, 1) := by decide +kernel
theorem dX2_dropUnsafe_24 : decode cX2_dropUnsafe 24 = .ok (.invokevirtual 32, 3) := by decide +kernel
theorem dX2_dropUnsafe_27 : decode cX2_dropUnsafe 27 = .ok (.ifCond .eq 35, 3) := by decide +kernel
theorem dX2_dropUnsafe_30 : decode cX2_dropUnsafe 30 = .ok (.aload_n 0, 1) := by decide +kernel
theorem dX2_dropUnsafe_31 : decode cX2_dropUnsafe 31 = .ok (.iload_n 2, 1) := by decide +kernel
theorem dX2_dropUnsafe_32 : decode cX2_dropUnsafe 32 = .ok (.invokevirtual 89, 3) := by decide +kernel
theorem dX2_dropUnsafe_35 : decode cX2_dropUnsafe 35 = .ok (.ifCond .ne 27, 3) := by decide +kernel
theorem dX2_dropUnsafe_38 : decode cX2_dropUnsafe 38 = .ok (.aload_n 0, 1) := by decide +kernel
theorem dX2_dropUnsafe_39 : decode cX2_dropUnsafe 39 = .ok (.getfield 15, 3) := by decide +kernel
theorem dX2_dropUnsafe_42 : decode cX2_dropUnsafe 42 = .ok (.iload_n 2, 1) := by decide +kernel
theorem dX2_dropUnsafe_43 : decode cX2_dropUnsafe 43 = .ok (.bipush 6, 2) := by decide +kernel
theorem dX2_dropUnsafe_45 : decode cX2_dropUnsafe 45 = .ok (.ishr, 1) := by decide +kernel
theorem dX2_dropUnsafe_46 : decode cX2_dropUnsafe 46 = .ok (.dup2, 1) := by decide +kernel
theorem dX2_dropUnsafe_47 : decode cX2_dropUnsafe 47 = .ok (.laload, 1) := by decide +kernel
theorem dX2_dropUnsafe_48 : decode cX2_dropUnsafe 48 = .ok (.lconst 1, 1) := by decide +kernel
theorem dX2_dropUnsafe_49 : decode cX2_dropUnsafe 49 = .ok (.iload_n 2, 1) := by decide +kernel
theorem dX2_dropUnsafe_50 : decode cX2_dropUnsafe 50 = .ok (.bipush 63, 2) := by decide +kernel
theorem dX2_dropUnsafe_52 : decode cX2_dropUnsafe 52 = .ok (.iand, 1) := by decide +kernel
theorem dX2_dropUnsafe_53 : decode cX2_dropUnsafe 53 = .ok (.lshl, 1) := by decide +kernel
theorem dX2_dropUnsafe_54 : decode cX2_dropUnsafe 54 = .ok (.ldc2_w 64, 3) := by decide +kernel
theorem dX2_dropUnsafe_57 : decode cX2_dropUnsafe 57 = .ok (.lxor, 1) := by decide +kernel
theorem dX2_dropUnsafe_58 : decode cX2_dropUnsafe 58 = .ok (.land, 1) := by decide +kernel
theorem dX2_dropUnsafe_59 : decode cX2_dropUnsafe 59 = .ok (.lastore, 1) := by decide +kernel
theorem dX2_dropUnsafe_60 : decode cX2_dropUnsafe 60 = .ok (.iconst 1, 1) := by decide +kernel
theorem dX2_dropUnsafe_61 : decode cX2_dropUnsafe 61 = .ok (.istore_n 1, 1) := by decide +kernel
theorem dX2_dropUnsafe_62 : decode cX2_dropUnsafe 62 = .ok (.iinc 2 1, 3) := by decide +kernel
theorem dX2_dropUnsafe_65 : decode cX2_dropUnsafe 65 = .ok (.goto (-61), 3) := by decide +kernel
theorem dX2_dropUnsafe_68 : decode cX2_dropUnsafe 68 = .ok (.iload_n 1, 1) := by decide +kernel
theorem dX2_dropUnsafe_69 : decode cX2_dropUnsafe 69 = .ok (.ireturn, 1) := by decide +kernel
def f_X2_dropUnsafe (σ : St) (g : Nat) : Option (Int32 × St) :=
  lo3 FU (fun rec4 (s1 : St) (x2 : Int32) (x3 : Int32) =>
    calP (f_X3_all s1) fun r6 =>
      (if r6 < x3 then
        ckZ x2 <|
          some (x2, s1)
         else
        (if x3 < (256 : Int32) then
          calP (f_X2_isSafe s1 g x3) fun r8 =>
            (if r8 = 0 then
              rec4 s1 x2 (x3 + 1)
               else
              calP (f_X2_answersAll s1 g x3) fun r9 =>
                (if r9 = 0 then
                  ck (x3 >>> ((6 : Int32) &&& 31)) 4 <|
                    ck (x3 >>> ((6 : Int32) &&& 31)) 4 <|
                      bd (setL s1 (28 + 3 * g) (x3 >>> ((6 : Int32) &&& 31)).toNatClampNeg ((s1.2 (28 + 3 * g) (x3 >>> ((6 : Int32) &&& 31)).toNatClampNeg) &&& (((1 : Int64) <<< ((x3 &&& (63 : Int32)).toInt64 &&& 63)) ^^^ (-1 : Int64)))) fun s10 =>
                        rec4 s10 (1 : Int32) (x3 + 1)
                   else
                  rec4 s1 x2 (x3 + 1)))
           else
          ckZ x2 <|
            some (x2, s1)))) σ (0 : Int32) (1 : Int32)
set_option maxHeartbeats 4000000 in
set_option maxRecDepth 100000 in
theorem c_X2_dropUnsafe (l : Launch) (E : Ev) (hF : Full E) (σ : St) (g : Nat) (hg : g < 2) : Ctr l (en2 enI) (fun q => q.2) E md_X2_dropUnsafe [rV E (26 + 3 * g)] σ (f_X2_dropUnsafe σ g) := by
  refine ctr_of rfl (Nat.le_of_ble_eq_true rfl) (fun Γ => ?_)
  show Sim _ Γ _ E md_X2_dropUnsafe σ 0 [(0, rV E (26 + 3 * g))] [] _
  unfold f_X2_dropUnsafe
  refine s_iconst (v := 0) dX2_dropUnsafe_0 (by decide) ?_
  refine s_istore_n [(1, .int (0 : Int32)), (0, rV E (26 + 3 * g))] dX2_dropUnsafe_1 rfl (by decide) rfl ?_
  refine s_iconst (v := 1) dX2_dropUnsafe_2 (by decide) ?_
  refine s_istore_n [(2, .int (1 : Int32)), (1, .int (0 : Int32)), (0, rV E (26 + 3 * g))] dX2_dropUnsafe_3 rfl (by decide) rfl ?_
  refine s_sub (lv' := [(0, rV E (26 + 3 * g)), (1, .int (0 : Int32)), (2, .int (1 : Int32))]) [2, 1, 0] rfl ?_
  refine s_lo3 (σf := fun s1 x2 x3 => s1) (lvf := fun s1 x2 x3 => [(0, rV E (26 + 3 * g)), (1, .int x2), (2, .int x3)]) (fun rec4 ih5 s1 x2 x3 => ?_)
  refine s_iload_n dX2_dropUnsafe_4 2 rfl rfl ?_
  refine s_aload_n dX2_dropUnsafe_5 0 rfl rfl ?_
  refine s_getr (b := 1) gf_X2_18 rfl (mG hF hg) (kG hg) (ft_of (kG hg) rfl) (hF.2 _ _) (rG0 hg) dX2_dropUnsafe_6 ?_
  refine s_callVpI (As := []) mf_X3_all vf_X3_all ml_X2_36 (c_X3_all _ E hF s1) (m1 hF) k1 (by decide) rfl rfl rfl rfl (Nat.le_of_ble_eq_true rfl) rfl dX2_dropUnsafe_9 (fun r6 => ?_)
  refine s_icmp_gt 68 dX2_dropUnsafe_12 (by decide) ?_ ?_
  · skip
    refine s_iload_n dX2_dropUnsafe_68 1 rfl rfl ?_
    refine s_ckZ (fun hz7 => ?_)
    exact s_zreturn rfl hz7 rfl rfl dX2_dropUnsafe_69
  · skip
    refine s_iload_n dX2_dropUnsafe_15 2 rfl rfl ?_
    refine s_sipush (v := 256) dX2_dropUnsafe_16 (by decide) ?_
    refine s_icmp_ge 68 dX2_dropUnsafe_19 (by decide) ?_ ?_
    · skip
      refine s_aload_n dX2_dropUnsafe_22 0 rfl rfl ?_
      refine s_iload_n dX2_dropUnsafe_23 2 rfl rfl ?_
      refine s_callVpI (As := [.int x3]) mf_X2_isSafe vf_X2_isSafe ml_X2_32 (c_X2_isSafe _ E hF s1 g hg x3) (mG hF hg) (kG hg) (by decide) rfl rfl rfl rfl (Nat.le_of_ble_eq_true rfl) rfl dX2_dropUnsafe_24 (fun r8 => ?_)
      refine s_if_eq 62 dX2_dropUnsafe_27 (by decide) ?_ ?_
      · skip
        refine s_iinc [(2, .int (x3 + 1)), (0, rV E (26 + 3 * g)), (1, .int x2)] dX2_dropUnsafe_62 2 rfl rfl (by decide) rfl ?_
        refine s_goto 4 dX2_dropUnsafe_65 (by decide) ?_
        refine s_sub [1, 2, 0] rfl ?_
        exact ih5 s1 x2 (x3 + 1)
      · skip
        refine s_aload_n dX2_dropUnsafe_30 0 rfl rfl ?_
        refine s_iload_n dX2_dropUnsafe_31 2 rfl rfl ?_
        refine s_callVpI (As := [.int x3]) mf_X2_answersAll vf_X2_answersAll ml_X2_89 (c_X2_answersAll _ E hF s1 g hg x3) (mG hF hg) (kG hg) (by decide) rfl rfl rfl rfl (Nat.le_of_ble_eq_true rfl) rfl dX2_dropUnsafe_32 (fun r9 => ?_)
        refine s_if_ne 62 dX2_dropUnsafe_35 (by decide) ?_ ?_
        · skip
          refine s_aload_n dX2_dropUnsafe_38 0 rfl rfl ?_
          refine s_getr (b := (28 + 3 * g)) gf_X2_15 rfl (mG hF hg) (kG hg) (ft_of (kG hg) rfl) (hF.2 _ _) (rG3 hg) dX2_dropUnsafe_39 ?_
          refine s_iload_n dX2_dropUnsafe_42 2 rfl rfl ?_
          refine s_bipush (v := 6) dX2_dropUnsafe_43 (by decide) ?_
          refine s_ishr dX2_dropUnsafe_45 ?_
          refine s_dup2 dX2_dropUnsafe_46 rfl rfl ?_
          refine s_lald (mG2 hF hg) (kG2 hg) (lG2 hg) dX2_dropUnsafe_47 ?_
          refine s_lconst (v := 1) dX2_dropUnsafe_48 (by decide) ?_
          refine s_iload_n dX2_dropUnsafe_49 2 rfl rfl ?_
          refine s_bipush (v := 63) dX2_dropUnsafe_50 (by decide) ?_
          refine s_iand dX2_dropUnsafe_52 ?_
          refine s_lshl dX2_dropUnsafe_53 rfl ?_
          refine s_ldc2 (v := -1) rfl w_993 dX2_dropUnsafe_54 ?_
          refine s_lxor dX2_dropUnsafe_57 ?_
          refine s_land dX2_dropUnsafe_58 ?_
          refine s_last (mG2 hF hg) (kG2 hg) (lG2 hg) dX2_dropUnsafe_59 (fun s10 => ?_)
          refine s_iconst (v := 1) dX2_dropUnsafe_60 (by decide) ?_
          refine s_istore_n [(1, .int (1 : Int32)), (0, rV E (26 + 3 * g)), (2, .int x3)] dX2_dropUnsafe_61 rfl (by decide) rfl ?_
          refine s_iinc [(2, .int (x3 + 1)), (1, .int (1 : Int32)), (0, rV E (26 + 3 * g))] dX2_dropUnsafe_62 2 rfl rfl (by decide) rfl ?_
          refine s_goto 4 dX2_dropUnsafe_65 (by decide) ?_
          refine s_sub [2, 1, 0] rfl ?_
          exact ih5 s10 (1 : Int32) (x3 + 1)
        · skip
          refine s_iinc [(2, .int (x3 + 1)), (0, rV E (26 + 3 * g)), (1, .int x2)] dX2_dropUnsafe_62 2 rfl rfl (by decide) rfl ?_
          refine s_goto 4 dX2_dropUnsafe_65 (by decide) ?_
          refine s_sub [1, 2, 0] rfl ?_
          exact ih5 s1 x2 (x3 + 1)
    · skip
      refine s_iload_n dX2_dropUnsafe_68 1 rfl rfl ?_
      refine s_ckZ (fun hz11 => ?_)
      exact s_zreturn rfl hz11 rfl rfl dX2_dropUnsafe_69
theorem dX2_put_0 : decode cX2_put 0 = .ok (.iload_n 1, 1) := by decide +kernel
theorem dX2_put_1 : decode cX2_put 1 = .ok (.iload_n 2, 1) := by decide +kernel
theorem dX2_put_2 : decode cX2_put 2 = .ok (.bipush 6, 2) := by decide +kernel
theorem dX2_put_4 : decode cX2_put 4 = .ok (.ishr, 1) := by decide +kernel
theorem dX2_put_5 : decode cX2_put 5 = .ok (.iadd, 1) := by decide +kernel
theorem dX2_put_6 : decode cX2_put 6 = .ok (.istore_n 3, 1) := by decide +kernel
theorem dX2_put_7 : decode cX2_put 7 = .ok (.iload_n 3, 1) := by decide +kernel
theorem dX2_put_8 : decode cX2_put 8 = .ok (.ifCond .lt 21, 3) := by decide +kernel
theorem dX2_put_11 : decode cX2_put 11 = .ok (.iload_n 3, 1) := by decide +kernel
theorem dX2_put_12 : decode cX2_put 12 = .ok (.aload_n 0, 1) := by decide +kernel
theorem dX2_put_13 : decode cX2_put 13 = .ok (.arraylength, 1) := by decide +kernel
theorem dX2_put_14 : decode cX2_put 14 = .ok (.if_icmp .ge 15, 3) := by decide +kernel
theorem dX2_put_17 : decode cX2_put 17 = .ok (.aload_n 0, 1) := by decide +kernel
theorem dX2_put_18 : decode cX2_put 18 = .ok (.iload_n 3, 1) := by decide +kernel
theorem dX2_put_19 : decode cX2_put 19 = .ok (.dup2, 1) := by decide +kernel
theorem dX2_put_20 : decode cX2_put 20 = .ok (.laload, 1) := by decide +kernel
theorem dX2_put_21 : decode cX2_put 21 = .ok (.lconst 1, 1) := by decide +kernel
theorem dX2_put_22 : decode cX2_put 22 = .ok (.iload_n 2, 1) := by decide +kernel
theorem dX2_put_23 : decode cX2_put 23 = .ok (.bipush 63, 2) := by decide +kernel
theorem dX2_put_25 : decode cX2_put 25 = .ok (.iand, 1) := by decide +kernel
theorem dX2_put_26 : decode cX2_put 26 = .ok (.lshl, 1) := by decide +kernel
theorem dX2_put_27 : decode cX2_put 27 = .ok (.lor, 1) := by decide +kernel
theorem dX2_put_28 : decode cX2_put 28 = .ok (.lastore, 1) := by decide +kernel
theorem dX2_put_29 : decode cX2_put 29 = .ok (.return_, 1) := by decide +kernel
def f_X2_put (σ : St) (a : Nat) (v1 : Int32) (v2 : Int32) : Option (Unit × St) :=
  bd (v1 + (v2 >>> ((6 : Int32) &&& 31))) fun x1 =>
    (if x1 < 0 then
      some ((), σ)
       else
      (if x1 < (nI (ln a)) then
        ck x1 (ln a) <|
          ck x1 (ln a) <|
            bd (setL σ a x1.toNatClampNeg ((σ.2 a x1.toNatClampNeg) ||| ((1 : Int64) <<< ((v2 &&& (63 : Int32)).toInt64 &&& 63)))) fun s2 =>
              some ((), s2)
         else
        some ((), σ)))
set_option maxHeartbeats 4000000 in
set_option maxRecDepth 100000 in
theorem c_X2_put (l : Launch) (E : Ev) (hF : Full E) (σ : St) (a : Nat) (hm : a ∈ E.2.2.2.1) (hkd : kd a = 12) (v1 : Int32) (v2 : Int32) : Ctr l (en2 enV) (fun q => q.2) E md_X2_put [rV E a, .int v1, .int v2] σ (f_X2_put σ a v1 v2) := by
  refine ctr_of rfl (Nat.le_of_ble_eq_true rfl) (fun Γ => ?_)
  show Sim _ Γ _ E md_X2_put σ 0 [(0, rV E a), (1, .int v1), (2, .int v2)] [] _
  unfold f_X2_put
  refine s_iload_n dX2_put_0 1 rfl rfl ?_
  refine s_iload_n dX2_put_1 2 rfl rfl ?_
  refine s_bipush (v := 6) dX2_put_2 (by decide) ?_
  refine s_ishr dX2_put_4 ?_
  refine s_iadd dX2_put_5 ?_
  refine s_istore_nB (fun x1 => [(3, .int x1), (0, rV E a), (1, .int v1), (2, .int v2)]) dX2_put_6 rfl (by decide) (fun _ => rfl) (fun x1 => ?_)
  refine s_iload_n dX2_put_7 0 rfl rfl ?_
  refine s_if_lt 29 dX2_put_8 (by decide) ?_ ?_
  · skip
    exact s_return rfl rfl rfl dX2_put_29
  · skip
    refine s_iload_n dX2_put_11 0 rfl rfl ?_
    refine s_aload_n dX2_put_12 1 rfl rfl ?_
    refine s_alen (n := nI (ln a)) hm hkd (by decide) (by decide) (by rw [show ln a = ln a from rfl]; rfl) dX2_put_13 ?_
    refine s_icmp_ge 29 dX2_put_14 (by decide) ?_ ?_
    · skip
      refine s_aload_n dX2_put_17 1 rfl rfl ?_
      refine s_iload_n dX2_put_18 0 rfl rfl ?_
      refine s_dup2 dX2_put_19 rfl rfl ?_
      refine s_lald hm hkd rfl dX2_put_20 ?_
      refine s_lconst (v := 1) dX2_put_21 (by decide) ?_
      refine s_iload_n dX2_put_22 3 rfl rfl ?_
      refine s_bipush (v := 63) dX2_put_23 (by decide) ?_
      refine s_iand dX2_put_25 ?_
      refine s_lshl dX2_put_26 rfl ?_
      refine s_lor dX2_put_27 ?_
      refine s_last hm hkd rfl dX2_put_28 (fun s2 => ?_)
      exact s_return rfl rfl rfl dX2_put_29
    · skip
      exact s_return rfl rfl rfl dX2_put_29
theorem dX2_moveAlone_0 : decode cX2_moveAlone 0 = .ok (.iconst 1, 1) := by decide +kernel
theorem dX2_moveAlone_1 : decode cX2_moveAlone 1 = .ok (.istore_n 1, 1) := by decide +kernel
theorem dX2_moveAlone_2 : decode cX2_moveAlone 2 = .ok (.iload_n 1, 1) := by decide +kernel
theorem dX2_moveAlone_3 : decode cX2_moveAlone 3 = .ok (.aload_n 0, 1) := by decide +kernel
theorem dX2_moveAlone_4 : decode cX2_moveAlone 4 = .ok (.getfield 18, 3) := by decide +kernel
theorem dX2_moveAlone_7 : decode cX2_moveAlone 7 = .ok (.invokevirtual 36, 3) := by decide +kernel
theorem dX2_moveAlone_10 : decode cX2_moveAlone 10 = .ok (.if_icmp .gt 105, 3) := by decide +kernel
theorem dX2_moveAlone_13 : decode cX2_moveAlone 13 = .ok (.iconst 0, 1) := by decide +kernel
theorem dX2_moveAlone_14 : decode cX2_moveAlone 14 = .ok (.istore_n 2, 1) := by decide +kernel
theorem dX2_moveAlone_15 : decode cX2_moveAlone 15 = .ok (.iload_n 2, 1) := by decide +kernel
theorem dX2_moveAlone_16 : decode cX2_moveAlone 16 = .ok (.aload_n 0, 1) := by decide +kernel
theorem dX2_moveAlone_17 : decode cX2_moveAlone 17 = .ok (.getfield 18, 3) := by decide +kernel
theorem dX2_moveAlone_20 : decode cX2_moveAlone 20 = .ok (.invokevirtual 92, 3) := by decide +kernel
theorem dX2_moveAlone_23 : decode cX2_moveAlone 23 = .ok (.if_icmp .ge 86, 3) := by decide +kernel
theorem dX2_moveAlone_26 : decode cX2_moveAlone 26 = .ok (.iload_n 1, 1) := by decide +kernel
theorem dX2_moveAlone_27 : decode cX2_moveAlone 27 = .ok (.iload_n 2, 1) := by decide +kernel
theorem dX2_moveAlone_28 : decode cX2_moveAlone 28 = .ok (.invokestatic 95, 3) := by decide +kernel
theorem dX2_moveAlone_31 : decode cX2_moveAlone 31 = .ok (.ifCond .eq 18, 3) := by decide +kernel
theorem dX2_moveAlone_34 : decode cX2_moveAlone 34 = .ok (.aload_n 0, 1) := by decide +kernel
theorem dX2_moveAlone_35 : decode cX2_moveAlone 35 = .ok (.getfield 18, 3) := by decide +kernel
theorem dX2_moveAlone_38 : decode cX2_moveAlone 38 = .ok (.iload_n 2, 1) := by decide +kernel
theorem dX2_moveAlone_39 : decode cX2_moveAlone 39 = .ok (.invokevirtual 99, 3) := by decide +kernel
theorem dX2_moveAlone_42 : decode cX2_moveAlone 42 = .ok (.iload_n 1, 1) := by decide +kernel
theorem dX2_moveAlone_43 : decode cX2_moveAlone 43 = .ok (.iconst (-1), 1) := by decide +kernel
theorem dX2_moveAlone_44 : decode cX2_moveAlone 44 = .ok (.ixor, 1) := by decide +kernel
theorem dX2_moveAlone_45 : decode cX2_moveAlone 45 = .ok (.iand, 1) := by decide +kernel
theorem dX2_moveAlone_46 : decode cX2_moveAlone 46 = .ok (.goto 4, 3) := by decide +kernel
theorem dX2_moveAlone_49 : decode cX2_moveAlone 49 = .ok (.iconst 0, 1) := by decide +kernel
theorem dX2_moveAlone_50 : decode cX2_moveAlone 50 = .ok (.istore_n 3, 1) := by decide +kernel
theorem dX2_moveAlone_51 : decode cX2_moveAlone 51 = .ok (.iconst 0, 1) := by decide +kernel
theorem dX2_moveAlone_52 : decode cX2_moveAlone 52 = .ok (.istore 4, 2) := by decide +kernel
theorem dX2_moveAlone_54 : decode cX2_moveAlone 54 = .ok (.iload 4, 2) := by decide +kernel
theorem dX2_moveAlone_56 : decode cX2_moveAlone 56 = .ok (.aload_n 0, 1) := by decide +kernel
theorem dX2_moveAlone_57 : decode cX2_moveAlone 57 = .ok (.getfield 18, 3) := by decide +kernel
theorem dX2_moveAlone_60 : decode cX2_moveAlone 60 = .ok (.invokevirtual 92, 3) := by decide +kernel
theorem dX2_moveAlone_63 : decode cX2_moveAlone 63 = .ok (.if_icmp .ge 40, 3) := by decide +kernel
theorem dX2_moveAlone_66 : decode cX2_moveAlone 66 = .ok (.iload_n 3, 1) := by decide +kernel
theorem dX2_moveAlone_67 : decode cX2_moveAlone 67 = .ok (.iload 4, 2) := by decide +kernel
theorem dX2_moveAlone_69 : decode cX2_moveAlone 69 = .ok (.invokestatic 95, 3) := by decide +kernel
theorem dX2_moveAlone_72 : decode cX2_moveAlone 72 = .ok (.ifCond .eq 25, 3) := by decide +kernel
theorem dX2_moveAlone_75 : decode cX2_moveAlone 75 = .ok (.aload_n 0, 1) := by decide +kernel
theorem dX2_moveAlone_76 : decode cX2_moveAlone 76 = .ok (.getfield 11, 3) := by decide +kernel
theorem dX2_moveAlone_79 : decode cX2_moveAlone 79 = .ok (.iload_n 1, 1) := by decide +kernel
theorem dX2_moveAlone_80 : decode cX2_moveAlone 80 = .ok (.iconst 4, 1) := by decide +kernel
theorem dX2_moveAlone_81 : decode cX2_moveAlone 81 = .ok (.imul, 1) := by decide +kernel
theorem dX2_moveAlone_82 : decode cX2_moveAlone 82 = .ok (.iload_n 1, 1) := by decide +kernel
theorem dX2_moveAlone_83 : decode cX2_moveAlone 83 = .ok (.iconst 1, 1) := by decide +kernel
theorem dX2_moveAlone_84 : decode cX2_moveAlone 84 = .ok (.iload_n 2, 1) := by decide +kernel
theorem dX2_moveAlone_85 : decode cX2_moveAlone 85 = .ok (.ishl, 1) := by decide +kernel
theorem dX2_moveAlone_86 : decode cX2_moveAlone 86 = .ok (.iconst (-1), 1) := by decide +kernel
theorem dX2_moveAlone_87 : decode cX2_moveAlone 87 = .ok (.ixor, 1) := by decide +kernel
theorem dX2_moveAlone_88 : decode cX2_moveAlone 88 = .ok (.iand, 1) := by decide +kernel
theorem dX2_moveAlone_89 : decode cX2_moveAlone 89 = .ok (.iconst 1, 1) := by decide +kernel
theorem dX2_moveAlone_90 : decode cX2_moveAlone 90 = .ok (.iload 4, 2) := by decide +kernel
theorem dX2_moveAlone_92 : decode cX2_moveAlone 92 = .ok (.ishl, 1) := by decide +kernel
theorem dX2_moveAlone_93 : decode cX2_moveAlone 93 = .ok (.ior, 1) := by decide +kernel
theorem dX2_moveAlone_94 : decode cX2_moveAlone 94 = .ok (.invokestatic 81, 3) := by decide +kernel
theorem dX2_moveAlone_97 : decode cX2_moveAlone 97 = .ok (.iinc 4 1, 3) := by decide +kernel
theorem dX2_moveAlone_100 : decode cX2_moveAlone 100 = .ok (.goto (-46), 3) := by decide +kernel
theorem dX2_moveAlone_103 : decode cX2_moveAlone 103 = .ok (.iinc 2 1, 3) := by decide +kernel
theorem dX2_moveAlone_106 : decode cX2_moveAlone 106 = .ok (.goto (-91), 3) := by decide +kernel
theorem dX2_moveAlone_109 : decode cX2_moveAlone 109 = .ok (.iinc 1 1, 3) := by decide +kernel
theorem dX2_moveAlone_112 : decode cX2_moveAlone 112 = .ok (.goto (-110), 3) := by decide +kernel
theorem dX2_moveAlone_115 : decode cX2_moveAlone 115 = .ok (.return_, 1) := by decide +kernel
def f_X2_moveAlone (σ : St) (g : Nat) : Option (Unit × St) :=
  lo2 FU (fun rec3 (s1 : St) (x2 : Int32) =>
    calP (f_X3_all s1) fun r5 =>
      (if r5 < x2 then
        some ((), s1)
         else
        lo2 FU (fun rec8 (s6 : St) (x7 : Int32) =>
          calP (f_X3_places s6) fun r10 =>
            (if x7 < r10 then
              calP (f_X9_has s6 x2 x7) fun r11 =>
                jn1 (fun jk13 =>
                  (if r11 = 0 then
                    jk13 (0 : Int32)
                     else
                    calP (f_X3_outOf s6 x7) fun r21 =>
                      jk13 (r21 &&& (x2 ^^^ (-1 : Int32)))))
                  (fun (x12 : Int32) => 
                  lo2 FU (fun rec16 (s14 : St) (x15 : Int32) =>
                      calP (f_X3_places s14) fun r18 =>
                        (if x15 < r18 then
                          calP (f_X9_has s14 x12 x15) fun r19 =>
                            (if r19 = 0 then
                              rec16 s14 (x15 + 1)
                               else
                              cal (f_X2_put s14 (27 + 3 * g) (x2 * (4 : Int32)) ((x2 &&& (((1 : Int32) <<< (x7 &&& 31)) ^^^ (-1 : Int32))) ||| ((1 : Int32) <<< (x15 &&& 31)))) fun _ s20 =>
                                rec16 s20 (x15 + 1))
                           else
                          rec8 s14 (x7 + 1))) s6 (0 : Int32))
               else
              rec3 s6 (x2 + 1))) s1 (0 : Int32))) σ (1 : Int32)
set_option maxHeartbeats 4000000 in
set_option maxRecDepth 100000 in
theorem c_X2_moveAlone (l : Launch) (E : Ev) (hF : Full E) (σ : St) (g : Nat) (hg : g < 2) : Ctr l (en2 enV) (fun q => q.2) E md_X2_moveAlone [rV E (26 + 3 * g)] σ (f_X2_moveAlone σ g) := by
  refine ctr_of rfl (Nat.le_of_ble_eq_true rfl) (fun Γ => ?_)
  show Sim _ Γ _ E md_X2_moveAlone σ 0 [(0, rV E (26 + 3 * g))] [] _
  unfold f_X2_moveAlone
  refine s_iconst (v := 1) dX2_moveAlone_0 (by decide) ?_
  refine s_istore_n [(1, .int (1 : Int32)), (0, rV E (26 + 3 * g))] dX2_moveAlone_1 rfl (by decide) rfl ?_
  refine s_sub (lv' := [(0, rV E (26 + 3 * g)), (1, .int (1 : Int32))]) [1, 0] rfl ?_
  refine s_lo2 (σf := fun s1 x2 => s1) (lvf := fun s1 x2 => [(0, rV E (26 + 3 * g)), (1, .int x2)]) (fun rec3 ih4 s1 x2 => ?_)
  refine s_iload_n dX2_moveAlone_2 1 rfl rfl ?_
  refine s_aload_n dX2_moveAlone_3 0 rfl rfl ?_
  refine s_getr (b := 1) gf_X2_18 rfl (mG hF hg) (kG hg) (ft_of (kG hg) rfl) (hF.2 _ _) (rG0 hg) dX2_moveAlone_4 ?_
  refine s_callVpI (As := []) mf_X3_all vf_X3_all ml_X2_36 (c_X3_all _ E hF s1) (m1 hF) k1 (by decide) rfl rfl rfl rfl (Nat.le_of_ble_eq_true rfl) rfl dX2_moveAlone_7 (fun r5 => ?_)
  refine s_icmp_gt 115 dX2_moveAlone_10 (by decide) ?_ ?_
  · skip
    exact s_return rfl rfl rfl dX2_moveAlone_115
  · skip
    refine s_iconst (v := 0) dX2_moveAlone_13 (by decide) ?_
    refine s_istore_n [(2, .int (0 : Int32)), (0, rV E (26 + 3 * g)), (1, .int x2)] dX2_moveAlone_14 rfl (by decide) rfl ?_
    refine s_sub (lv' := [(0, rV E (26 + 3 * g)), (1, .int x2), (2, .int (0 : Int32))]) [1, 2, 0] rfl ?_
    refine s_lo2 (σf := fun s6 x7 => s6) (lvf := fun s6 x7 => [(0, rV E (26 + 3 * g)), (1, .int x2), (2, .int x7)]) (fun rec8 ih9 s6 x7 => ?_)
    refine s_iload_n dX2_moveAlone_15 2 rfl rfl ?_
    refine s_aload_n dX2_moveAlone_16 0 rfl rfl ?_
    refine s_getr (b := 1) gf_X2_18 rfl (mG hF hg) (kG hg) (ft_of (kG hg) rfl) (hF.2 _ _) (rG0 hg) dX2_moveAlone_17 ?_
    refine s_callVpI (As := []) mf_X3_places vf_X3_places ml_X2_92 (c_X3_places _ E hF s6) (m1 hF) k1 (by decide) rfl rfl rfl rfl (Nat.le_of_ble_eq_true rfl) rfl dX2_moveAlone_20 (fun r10 => ?_)
    refine s_icmp_ge 109 dX2_moveAlone_23 (by decide) ?_ ?_
    · skip
      refine s_iload_n dX2_moveAlone_26 1 rfl rfl ?_
      refine s_iload_n dX2_moveAlone_27 2 rfl rfl ?_
      refine s_callNpI (As := [.int x2, .int x7]) (host := "RunnerNet") mf_X9_has vf_X9_has (nl_of 8 rfl) (c_X9_has _ E hF s6 x2 x7) rfl rfl (Nat.le_of_ble_eq_true rfl) rfl dX2_moveAlone_28 (fun r11 => ?_)
      refine s_jn1 50 (fun x12 => s6) (fun x12 => [(0, rV E (26 + 3 * g)), (1, .int x2), (2, .int x7)]) (fun x12 => [.int x12]) ?_ ?_
      · intro x12
        refine s_istore_n [(3, .int x12), (0, rV E (26 + 3 * g)), (1, .int x2), (2, .int x7)] dX2_moveAlone_50 rfl (by decide) rfl ?_
        refine s_iconst (v := 0) dX2_moveAlone_51 (by decide) ?_
        refine s_istore [(4, .int (0 : Int32)), (3, .int x12), (0, rV E (26 + 3 * g)), (1, .int x2), (2, .int x7)] dX2_moveAlone_52 (by decide) rfl ?_
        refine s_sub (lv' := [(0, rV E (26 + 3 * g)), (1, .int x2), (2, .int x7), (3, .int x12), (4, .int (0 : Int32))]) [2, 3, 4, 1, 0] rfl ?_
        refine s_lo2 (σf := fun s14 x15 => s14) (lvf := fun s14 x15 => [(0, rV E (26 + 3 * g)), (1, .int x2), (2, .int x7), (3, .int x12), (4, .int x15)]) (fun rec16 ih17 s14 x15 => ?_)
        refine s_iload dX2_moveAlone_54 4 rfl ?_
        refine s_aload_n dX2_moveAlone_56 0 rfl rfl ?_
        refine s_getr (b := 1) gf_X2_18 rfl (mG hF hg) (kG hg) (ft_of (kG hg) rfl) (hF.2 _ _) (rG0 hg) dX2_moveAlone_57 ?_
        refine s_callVpI (As := []) mf_X3_places vf_X3_places ml_X2_92 (c_X3_places _ E hF s14) (m1 hF) k1 (by decide) rfl rfl rfl rfl (Nat.le_of_ble_eq_true rfl) rfl dX2_moveAlone_60 (fun r18 => ?_)
        refine s_icmp_ge 103 dX2_moveAlone_63 (by decide) ?_ ?_
        · skip
          refine s_iload_n dX2_moveAlone_66 3 rfl rfl ?_
          refine s_iload dX2_moveAlone_67 4 rfl ?_
          refine s_callNpI (As := [.int x12, .int x15]) (host := "RunnerNet") mf_X9_has vf_X9_has (nl_of 8 rfl) (c_X9_has _ E hF s14 x12 x15) rfl rfl (Nat.le_of_ble_eq_true rfl) rfl dX2_moveAlone_69 (fun r19 => ?_)
          refine s_if_eq 97 dX2_moveAlone_72 (by decide) ?_ ?_
          · skip
            refine s_iinc [(4, .int (x15 + 1)), (0, rV E (26 + 3 * g)), (1, .int x2), (2, .int x7), (3, .int x12)] dX2_moveAlone_97 4 rfl rfl (by decide) rfl ?_
            refine s_goto 54 dX2_moveAlone_100 (by decide) ?_
            refine s_sub [1, 2, 3, 4, 0] rfl ?_
            exact ih17 s14 (x15 + 1)
          · skip
            refine s_aload_n dX2_moveAlone_75 0 rfl rfl ?_
            refine s_getr (b := (27 + 3 * g)) gf_X2_11 rfl (mG hF hg) (kG hg) (ft_of (kG hg) rfl) (hF.2 _ _) (rG2 hg) dX2_moveAlone_76 ?_
            refine s_iload_n dX2_moveAlone_79 1 rfl rfl ?_
            refine s_iconst (v := 4) dX2_moveAlone_80 (by decide) ?_
            refine s_imul dX2_moveAlone_81 ?_
            refine s_iload_n dX2_moveAlone_82 1 rfl rfl ?_
            refine s_iconst (v := 1) dX2_moveAlone_83 (by decide) ?_
            refine s_iload_n dX2_moveAlone_84 2 rfl rfl ?_
            refine s_ishl dX2_moveAlone_85 ?_
            refine s_iconst (v := -1) dX2_moveAlone_86 (by decide) ?_
            refine s_ixor dX2_moveAlone_87 ?_
            refine s_iand dX2_moveAlone_88 ?_
            refine s_iconst (v := 1) dX2_moveAlone_89 (by decide) ?_
            refine s_iload dX2_moveAlone_90 4 rfl ?_
            refine s_ishl dX2_moveAlone_92 ?_
            refine s_ior dX2_moveAlone_93 ?_
            refine s_callSwV (As := [rV E (27 + 3 * g), .int (x2 * (4 : Int32)), .int ((x2 &&& (((1 : Int32) <<< (x7 &&& 31)) ^^^ (-1 : Int32))) ||| ((1 : Int32) <<< (x15 &&& 31)))]) mf_X2_put vf_X2_put ml_X2_81 (c_X2_put _ E hF s14 (27 + 3 * g) (mG1 hF hg) (kG1 hg) (x2 * (4 : Int32)) ((x2 &&& (((1 : Int32) <<< (x7 &&& 31)) ^^^ (-1 : Int32))) ||| ((1 : Int32) <<< (x15 &&& 31)))) rfl rfl (Nat.le_of_ble_eq_true rfl) rfl dX2_moveAlone_94 (fun _ s20 => ?_)
            refine s_iinc [(4, .int (x15 + 1)), (0, rV E (26 + 3 * g)), (1, .int x2), (2, .int x7), (3, .int x12)] dX2_moveAlone_97 4 rfl rfl (by decide) rfl ?_
            refine s_goto 54 dX2_moveAlone_100 (by decide) ?_
            refine s_sub [1, 2, 3, 4, 0] rfl ?_
            exact ih17 s20 (x15 + 1)
        · skip
          refine s_iinc [(2, .int (x7 + 1)), (0, rV E (26 + 3 * g)), (1, .int x2), (3, .int x12), (4, .int x15)] dX2_moveAlone_103 2 rfl rfl (by decide) rfl ?_
          refine s_goto 15 dX2_moveAlone_106 (by decide) ?_
          refine s_sub [1, 2, 0] rfl ?_
          exact ih9 s14 (x7 + 1)
      · intro jk13 hjk13
        refine s_if_eq 49 dX2_moveAlone_31 (by decide) ?_ ?_
        · skip
          refine s_iconst (v := 0) dX2_moveAlone_49 (by decide) ?_
          exact hjk13 (0 : Int32)
        · skip
          refine s_aload_n dX2_moveAlone_34 0 rfl rfl ?_
          refine s_getr (b := 1) gf_X2_18 rfl (mG hF hg) (kG hg) (ft_of (kG hg) rfl) (hF.2 _ _) (rG0 hg) dX2_moveAlone_35 ?_
          refine s_iload_n dX2_moveAlone_38 2 rfl rfl ?_
          refine s_callVpI (As := [.int x7]) mf_X3_outOf vf_X3_outOf ml_X2_99 (c_X3_outOf _ E hF s6 x7) (m1 hF) k1 (by decide) rfl rfl rfl rfl (Nat.le_of_ble_eq_true rfl) rfl dX2_moveAlone_39 (fun r21 => ?_)
          refine s_iload_n dX2_moveAlone_42 1 rfl rfl ?_
          refine s_iconst (v := -1) dX2_moveAlone_43 (by decide) ?_
          refine s_ixor dX2_moveAlone_44 ?_
          refine s_iand dX2_moveAlone_45 ?_
          refine s_goto 50 dX2_moveAlone_46 (by decide) ?_
          exact hjk13 (r21 &&& (x2 ^^^ (-1 : Int32)))
    · skip
      refine s_iinc [(1, .int (x2 + 1)), (0, rV E (26 + 3 * g)), (2, .int x7)] dX2_moveAlone_109 1 rfl rfl (by decide) rfl ?_
      refine s_goto 2 dX2_moveAlone_112 (by decide) ?_
      refine s_sub [1, 0] rfl ?_
      exact ih4 s6 (x2 + 1)
theorem dX2_addPlace_0 : decode cX2_addPlace 0 = .ok (.iload_n 1, 1) := by decide +kernel
theorem dX2_addPlace_1 : decode cX2_addPlace 1 = .ok (.ifCond .lt 29, 3) := by decide +kernel
theorem dX2_addPlace_4 : decode cX2_addPlace 4 = .ok (.iload_n 2, 1) := by decide +kernel
theorem dX2_addPlace_5 : decode cX2_addPlace 5 = .ok (.ifCond .lt 25, 3) := by decide +kernel
theorem dX2_addPlace_8 : decode cX2_addPlace 8 = .ok (.iload_n 1, 1) := by decide +kernel
theorem dX2_addPlace_9 : decode cX2_addPlace 9 = .ok (.iconst 4, 1) := by decide +kernel
theorem dX2_addPlace_10 : decode cX2_addPlace 10 = .ok (.iadd, 1) := by decide +kernel
theorem dX2_addPlace_11 : decode cX2_addPlace 11 = .ok (.aload_n 0, 1) := by decide +kernel
theorem dX2_addPlace_12 : decode cX2_addPlace 12 = .ok (.getfield 11, 3) := by decide +kernel
theorem dX2_addPlace_15 : decode cX2_addPlace 15 = .ok (.arraylength, 1) := by decide +kernel
theorem dX2_addPlace_16 : decode cX2_addPlace 16 = .ok (.if_icmp .gt 14, 3) := by decide +kernel
theorem dX2_addPlace_19 : decode cX2_addPlace 19 = .ok (.iload_n 2, 1) := by decide +kernel
theorem dX2_addPlace_20 : decode cX2_addPlace 20 = .ok (.iconst 4, 1) := by decide +kernel
theorem dX2_addPlace_21 : decode cX2_addPlace 21 = .ok (.iadd, 1) := by decide +kernel
theorem dX2_addPlace_22 : decode cX2_addPlace 22 = .ok (.aload_n 0, 1) := by decide +kernel
theorem dX2_addPlace_23 : decode cX2_addPlace 23 = .ok (.getfield 11, 3) := by decide +kernel
theorem dX2_addPlace_26 : decode cX2_addPlace 26 = .ok (.arraylength, 1) := by decide +kernel
theorem dX2_addPlace_27 : decode cX2_addPlace 27 = .ok (.if_icmp .le 4, 3) := by decide +kernel
theorem dX2_addPlace_30 : decode cX2_addPlace 30 = .ok (.return_, 1) := by decide +kernel
theorem dX2_addPlace_31 : decode cX2_addPlace 31 = .ok (.iconst 0, 1) := by decide +kernel
theorem dX2_addPlace_32 : decode cX2_addPlace 32 = .ok (.istore 4, 2) := by decide +kernel
theorem dX2_addPlace_34 : decode cX2_addPlace 34 = .ok (.iload 4, 2) := by decide +kernel
theorem dX2_addPlace_36 : decode cX2_addPlace 36 = .ok (.iconst 4, 1) := by decide +kernel
theorem dX2_addPlace_37 : decode cX2_addPlace 37 = .ok (.if_icmp .ge 96, 3) := by decide +kernel
theorem dX2_addPlace_40 : decode cX2_addPlace 40 = .ok (.aload_n 0, 1) := by decide +kernel
theorem dX2_addPlace_41 : decode cX2_addPlace 41 = .ok (.getfield 11, 3) := by decide +kernel
theorem dX2_addPlace_44 : decode cX2_addPlace 44 = .ok (.iload_n 1, 1) := by decide +kernel
theorem dX2_addPlace_45 : decode cX2_addPlace 45 = .ok (.iload 4, 2) := by decide +kernel
theorem dX2_addPlace_47 : decode cX2_addPlace 47 = .ok (.iadd, 1) := by decide +kernel
theorem dX2_addPlace_48 : decode cX2_addPlace 48 = .ok (.laload, 1) := by decide +kernel
theorem dX2_addPlace_49 : decode cX2_addPlace 49 = .ok (.iload_n 3, 1) := by decide +kernel
theorem dX2_addPlace_50 : decode cX2_addPlace 50 = .ok (.iload 4, 2) := by decide +kernel
theorem dX2_addPlace_52 : decode cX2_addPlace 52 = .ok (.invokestatic 57, 3) := by decide +kernel
theorem dX2_addPlace_55 : decode cX2_addPlace 55 = .ok (.ldc2_w 64, 3) := by decide +kernel
theorem dX2_addPlace_58 : decode cX2_addPlace 58 = .ok (.lxor, 1) := by decide +kernel
theorem dX2_addPlace_59 : decode cX2_addPlace 59 = .ok (.land, 1) := by decide +kernel
theorem dX2_addPlace_60 : decode cX2_addPlace 60 = .ok (.lstore 5, 2) := by decide +kernel
theorem dX2_addPlace_62 : decode cX2_addPlace 62 = .ok (.iload_n 3, 1) := by decide +kernel
theorem dX2_addPlace_63 : decode cX2_addPlace 63 = .ok (.getstatic 61, 3) := by decide +kernel
theorem dX2_addPlace_66 : decode cX2_addPlace 66 = .ok (.arraylength, 1) := by decide +kernel
theorem dX2_addPlace_67 : decode cX2_addPlace 67 = .ok (.if_icmp .ge 24, 3) := by decide +kernel
theorem dX2_addPlace_70 : decode cX2_addPlace 70 = .ok (.aload_n 0, 1) := by decide +kernel
theorem dX2_addPlace_71 : decode cX2_addPlace 71 = .ok (.getfield 11, 3) := by decide +kernel
theorem dX2_addPlace_74 : decode cX2_addPlace 74 = .ok (.iload_n 2, 1) := by decide +kernel
theorem dX2_addPlace_75 : decode cX2_addPlace 75 = .ok (.iload 4, 2) := by decide +kernel
theorem dX2_addPlace_77 : decode cX2_addPlace 77 = .ok (.iadd, 1) := by decide +kernel
theorem dX2_addPlace_78 : decode cX2_addPlace 78 = .ok (.dup2, 1) := by decide +kernel
theorem dX2_addPlace_79 : decode cX2_addPlace 79 = .ok (.laload, 1) := by decide +kernel
theorem dX2_addPlace_80 : decode cX2_addPlace 80 = .ok (.lload 5, 2) := by decide +kernel
theorem dX2_addPlace_82 : decode cX2_addPlace 82 = .ok (.iconst 1, 1) := by decide +kernel
theorem dX2_addPlace_83 : decode cX2_addPlace 83 = .ok (.iload_n 3, 1) := by decide +kernel
theorem dX2_addPlace_84 : decode cX2_addPlace 84 = .ok (.ishl, 1) := by decide +kernel
theorem dX2_addPlace_85 : decode cX2_addPlace 85 = .ok (.lshl, 1) := by decide +kernel
theorem dX2_addPlace_86 : decode cX2_addPlace 86 = .ok (.lor, 1) := by decide +kernel
theorem dX2_addPlace_87 : decode cX2_addPlace 87 = .ok (.lastore, 1) := by decide +kernel
theorem dX2_addPlace_88 : decode cX2_addPlace 88 = .ok (.goto 39, 3) := by decide +kernel
theorem dX2_addPlace_91 : decode cX2_addPlace 91 = .ok (.lload 5, 2) := by decide +kernel
theorem dX2_addPlace_93 : decode cX2_addPlace 93 = .ok (.lconst 0, 1) := by decide +kernel
theorem dX2_addPlace_94 : decode cX2_addPlace 94 = .ok (.lcmp, 1) := by decide +kernel
theorem dX2_addPlace_95 : decode cX2_addPlace 95 = .ok (.ifCond .eq 32, 3) := by decide +kernel
theorem dX2_addPlace_98 : decode cX2_addPlace 98 = .ok (.iload 4, 2) := by decide +kernel
theorem dX2_addPlace_100 : decode cX2_addPlace 100 = .ok (.iconst 1, 1) := by decide +kernel
theorem dX2_addPlace_101 : decode cX2_addPlace 101 = .ok (.iload_n 3, 1) := by decide +kernel
theorem dX2_addPlace_102 : decode cX2_addPlace 102 = .ok (.getstatic 61, 3) := by decide +kernel
theorem dX2_addPlace_105 : decode cX2_addPlace 105 = .ok (.arraylength, 1) := by decide +kernel
theorem dX2_addPlace_106 : decode cX2_addPlace 106 = .ok (.isub, 1) := by decide +kernel
theorem dX2_addPlace_107 : decode cX2_addPlace 107 = .ok (.ishl, 1) := by decide +kernel
theorem dX2_addPlace_108 : decode cX2_addPlace 108 = .ok (.iadd, 1) := by decide +kernel
theorem dX2_addPlace_109 : decode cX2_addPlace 109 = .ok (.iconst 3, 1) := by decide +kernel
theorem dX2_addPlace_110 : decode cX2_addPlace 110 = .ok (.iand, 1) := by decide +kernel
theorem dX2_addPlace_111 : decode cX2_addPlace 111 = .ok (.istore 7, 2) := by decide +kernel
theorem dX2_addPlace_113 : decode cX2_addPlace 113 = .ok (.aload_n 0, 1) := by decide +kernel
theorem dX2_addPlace_114 : decode cX2_addPlace 114 = .ok (.getfield 11, 3) := by decide +kernel
theorem dX2_addPlace_117 : decode cX2_addPlace 117 = .ok (.iload_n 2, 1) := by decide +kernel
theorem dX2_addPlace_118 : decode cX2_addPlace 118 = .ok (.iload 7, 2) := by decide +kernel
theorem dX2_addPlace_120 : decode cX2_addPlace 120 = .ok (.iadd, 1) := by decide +kernel
theorem dX2_addPlace_121 : decode cX2_addPlace 121 = .ok (.dup2, 1) := by decide +kernel
theorem dX2_addPlace_122 : decode cX2_addPlace 122 = .ok (.laload, 1) := by decide +kernel
theorem dX2_addPlace_123 : decode cX2_addPlace 123 = .ok (.lload 5, 2) := by decide +kernel
theorem dX2_addPlace_125 : decode cX2_addPlace 125 = .ok (.lor, 1) := by decide +kernel
theorem dX2_addPlace_126 : decode cX2_addPlace 126 = .ok (.lastore, 1) := by decide +kernel
theorem dX2_addPlace_127 : decode cX2_addPlace 127 = .ok (.iinc 4 1, 3) := by decide +kernel
theorem dX2_addPlace_130 : decode cX2_addPlace 130 = .ok (.goto (-96), 3) := by decide +kernel
theorem dX2_addPlace_133 : decode cX2_addPlace 133 = .ok (.return_, 1) := by decide +kernel
def f_X2_addPlace (σ : St) (g : Nat) (v1 : Int32) (v2 : Int32) (v3 : Int32) : Option (Unit × St) :=
  (if v1 < 0 then
    some ((), σ)
     else
    (if v2 < 0 then
      some ((), σ)
       else
      (if (1024 : Int32) < (v1 + (4 : Int32)) then
        some ((), σ)
         else
        (if (1024 : Int32) < (v2 + (4 : Int32)) then
          some ((), σ)
           else
          lo2 FU (fun rec3 (s1 : St) (x2 : Int32) =>
            (if x2 < (4 : Int32) then
              ck (v1 + x2) 1024 <|
                calP (f_X2_having s1 v3 x2) fun r5 =>
                  bd ((s1.2 (27 + 3 * g) (v1 + x2).toNatClampNeg) &&& (r5 ^^^ (-1 : Int64))) fun y6 =>
                    (if v3 < (6 : Int32) then
                      ck (v2 + x2) 1024 <|
                        ck (v2 + x2) 1024 <|
                          bd (setL s1 (27 + 3 * g) (v2 + x2).toNatClampNeg ((s1.2 (27 + 3 * g) (v2 + x2).toNatClampNeg) ||| (y6 <<< (((1 : Int32) <<< (v3 &&& 31)).toInt64 &&& 63)))) fun s7 =>
                            rec3 s7 (x2 + 1)
                       else
                      (if (lg_cmp y6 (0 : Int64)) = 0 then
                        rec3 s1 (x2 + 1)
                         else
                        bd ((x2 + ((1 : Int32) <<< ((v3 - (6 : Int32)) &&& 31))) &&& (3 : Int32)) fun x8 =>
                          ck (v2 + x8) 1024 <|
                            ck (v2 + x8) 1024 <|
                              bd (setL s1 (27 + 3 * g) (v2 + x8).toNatClampNeg ((s1.2 (27 + 3 * g) (v2 + x8).toNatClampNeg) ||| y6)) fun s9 =>
                                rec3 s9 (x2 + 1)))
               else
              some ((), s1))) σ (0 : Int32)))))
set_option maxHeartbeats 4000000 in
set_option maxRecDepth 100000 in
theorem c_X2_addPlace (l : Launch) (E : Ev) (hF : Full E) (σ : St) (g : Nat) (hg : g < 2) (v1 : Int32) (v2 : Int32) (v3 : Int32) : Ctr l (en2 enV) (fun q => q.2) E md_X2_addPlace [rV E (26 + 3 * g), .int v1, .int v2, .int v3] σ (f_X2_addPlace σ g v1 v2 v3) := by
  refine ctr_of rfl (Nat.le_of_ble_eq_true rfl) (fun Γ => ?_)
  show Sim _ Γ _ E md_X2_addPlace σ 0 [(0, rV E (26 + 3 * g)), (1, .int v1), (2, .int v2), (3, .int v3)] [] _
  unfold f_X2_addPlace
  refine s_iload_n dX2_addPlace_0 1 rfl rfl ?_
  refine s_if_lt 30 dX2_addPlace_1 (by decide) ?_ ?_
  · skip
    exact s_return rfl rfl rfl dX2_addPlace_30
  · skip
    refine s_iload_n dX2_addPlace_4 2 rfl rfl ?_
    refine s_if_lt 30 dX2_addPlace_5 (by decide) ?_ ?_
    · skip
      exact s_return rfl rfl rfl dX2_addPlace_30
    · skip
      refine s_iload_n dX2_addPlace_8 1 rfl rfl ?_
      refine s_iconst (v := 4) dX2_addPlace_9 (by decide) ?_
      refine s_iadd dX2_addPlace_10 ?_
      refine s_aload_n dX2_addPlace_11 0 rfl rfl ?_
      refine s_getr (b := (27 + 3 * g)) gf_X2_11 rfl (mG hF hg) (kG hg) (ft_of (kG hg) rfl) (hF.2 _ _) (rG2 hg) dX2_addPlace_12 ?_
      refine s_alen (n := 1024) (mG1 hF hg) (kG1 hg) (by decide) (by decide) (by rw [(lG1 hg)]; rfl) dX2_addPlace_15 ?_
      refine s_icmp_gt 30 dX2_addPlace_16 (by decide) ?_ ?_
      · skip
        exact s_return rfl rfl rfl dX2_addPlace_30
      · skip
        refine s_iload_n dX2_addPlace_19 2 rfl rfl ?_
        refine s_iconst (v := 4) dX2_addPlace_20 (by decide) ?_
        refine s_iadd dX2_addPlace_21 ?_
        refine s_aload_n dX2_addPlace_22 0 rfl rfl ?_
        refine s_getr (b := (27 + 3 * g)) gf_X2_11 rfl (mG hF hg) (kG hg) (ft_of (kG hg) rfl) (hF.2 _ _) (rG2 hg) dX2_addPlace_23 ?_
        refine s_alen (n := 1024) (mG1 hF hg) (kG1 hg) (by decide) (by decide) (by rw [(lG1 hg)]; rfl) dX2_addPlace_26 ?_
        refine s_icmp_le 31 dX2_addPlace_27 (by decide) ?_ ?_
        · skip
          exact s_return rfl rfl rfl dX2_addPlace_30
        · skip
          refine s_iconst (v := 0) dX2_addPlace_31 (by decide) ?_
          refine s_istore [(4, .int (0 : Int32)), (0, rV E (26 + 3 * g)), (1, .int v1), (2, .int v2), (3, .int v3)] dX2_addPlace_32 (by decide) rfl ?_
          refine s_sub (lv' := [(0, rV E (26 + 3 * g)), (1, .int v1), (2, .int v2), (3, .int v3), (4, .int (0 : Int32))]) [1, 2, 3, 4, 0] rfl ?_
          refine s_lo2 (σf := fun s1 x2 => s1) (lvf := fun s1 x2 => [(0, rV E (26 + 3 * g)), (1, .int v1), (2, .int v2), (3, .int v3), (4, .int x2)]) (fun rec3 ih4 s1 x2 => ?_)
          refine s_iload dX2_addPlace_34 4 rfl ?_
          refine s_iconst (v := 4) dX2_addPlace_36 (by decide) ?_
          refine s_icmp_ge 133 dX2_addPlace_37 (by decide) ?_ ?_
          · skip
            refine s_aload_n dX2_addPlace_40 0 rfl rfl ?_
            refine s_getr (b := (27 + 3 * g)) gf_X2_11 rfl (mG hF hg) (kG hg) (ft_of (kG hg) rfl) (hF.2 _ _) (rG2 hg) dX2_addPlace_41 ?_
            refine s_iload_n dX2_addPlace_44 1 rfl rfl ?_
            refine s_iload dX2_addPlace_45 4 rfl ?_
            refine s_iadd dX2_addPlace_47 ?_
            refine s_lald (mG1 hF hg) (kG1 hg) (lG1 hg) dX2_addPlace_48 ?_
            refine s_iload_n dX2_addPlace_49 3 rfl rfl ?_
            refine s_iload dX2_addPlace_50 4 rfl ?_
            refine s_callSpL (As := [.int v3, .int x2]) mf_X2_having vf_X2_having ml_X2_57 (c_X2_having _ E hF s1 v3 x2) rfl rfl (Nat.le_of_ble_eq_true rfl) rfl dX2_addPlace_52 (fun r5 => ?_)
            refine s_ldc2 (v := -1) rfl w_993 dX2_addPlace_55 ?_
            refine s_lxor dX2_addPlace_58 ?_
            refine s_land dX2_addPlace_59 ?_
            refine s_lstoreB (fun y6 => [(5, .long y6), (0, rV E (26 + 3 * g)), (1, .int v1), (2, .int v2), (3, .int v3), (4, .int x2)]) dX2_addPlace_60 (by decide) (fun _ => rfl) (fun y6 => ?_)
            refine s_iload_n dX2_addPlace_62 4 rfl rfl ?_
            refine s_getK rfl w_991 dX2_addPlace_63 ?_
            refine s_lenK dX2_addPlace_66 ?_
            refine s_icmp_ge 91 dX2_addPlace_67 (by decide) ?_ ?_
            · skip
              refine s_aload_n dX2_addPlace_70 1 rfl rfl ?_
              refine s_getr (b := (27 + 3 * g)) gf_X2_11 rfl (mG hF hg) (kG hg) (ft_of (kG hg) rfl) (hF.2 _ _) (rG2 hg) dX2_addPlace_71 ?_
              refine s_iload_n dX2_addPlace_74 3 rfl rfl ?_
              refine s_iload dX2_addPlace_75 5 rfl ?_
              refine s_iadd dX2_addPlace_77 ?_
              refine s_dup2 dX2_addPlace_78 rfl rfl ?_
              refine s_lald (mG1 hF hg) (kG1 hg) (lG1 hg) dX2_addPlace_79 ?_
              refine s_lload dX2_addPlace_80 0 rfl ?_
              refine s_iconst (v := 1) dX2_addPlace_82 (by decide) ?_
              refine s_iload_n dX2_addPlace_83 4 rfl rfl ?_
              refine s_ishl dX2_addPlace_84 ?_
              refine s_lshl dX2_addPlace_85 rfl ?_
              refine s_lor dX2_addPlace_86 ?_
              refine s_last (mG1 hF hg) (kG1 hg) (lG1 hg) dX2_addPlace_87 (fun s7 => ?_)
              refine s_goto 127 dX2_addPlace_88 (by decide) ?_
              refine s_iinc [(4, .int (x2 + 1)), (5, .long y6), (0, rV E (26 + 3 * g)), (1, .int v1), (2, .int v2), (3, .int v3)] dX2_addPlace_127 5 rfl rfl (by decide) rfl ?_
              refine s_goto 34 dX2_addPlace_130 (by decide) ?_
              refine s_sub [2, 3, 4, 5, 0] rfl ?_
              exact ih4 s7 (x2 + 1)
            · skip
              refine s_lload dX2_addPlace_91 0 rfl ?_
              refine s_lconst (v := 0) dX2_addPlace_93 (by decide) ?_
              refine s_lcmp dX2_addPlace_94 ?_
              refine s_if_eq 127 dX2_addPlace_95 (by decide) ?_ ?_
              · skip
                refine s_iinc [(4, .int (x2 + 1)), (5, .long y6), (0, rV E (26 + 3 * g)), (1, .int v1), (2, .int v2), (3, .int v3)] dX2_addPlace_127 5 rfl rfl (by decide) rfl ?_
                refine s_goto 34 dX2_addPlace_130 (by decide) ?_
                refine s_sub [2, 3, 4, 5, 0] rfl ?_
                exact ih4 s1 (x2 + 1)
              · skip
                refine s_iload dX2_addPlace_98 5 rfl ?_
                refine s_iconst (v := 1) dX2_addPlace_100 (by decide) ?_
                refine s_iload_n dX2_addPlace_101 4 rfl rfl ?_
                refine s_getK rfl w_991 dX2_addPlace_102 ?_
                refine s_lenK dX2_addPlace_105 ?_
                refine s_isub dX2_addPlace_106 ?_
                refine s_ishl dX2_addPlace_107 ?_
                refine s_iadd dX2_addPlace_108 ?_
                refine s_iconst (v := 3) dX2_addPlace_109 (by decide) ?_
                refine s_iand dX2_addPlace_110 ?_
                refine s_istoreB (fun x8 => [(7, .int x8), (5, .long y6), (0, rV E (26 + 3 * g)), (1, .int v1), (2, .int v2), (3, .int v3), (4, .int x2)]) dX2_addPlace_111 (by decide) (fun _ => rfl) (fun x8 => ?_)
                refine s_aload_n dX2_addPlace_113 2 rfl rfl ?_
                refine s_getr (b := (27 + 3 * g)) gf_X2_11 rfl (mG hF hg) (kG hg) (ft_of (kG hg) rfl) (hF.2 _ _) (rG2 hg) dX2_addPlace_114 ?_
                refine s_iload_n dX2_addPlace_117 4 rfl rfl ?_
                refine s_iload dX2_addPlace_118 0 rfl ?_
                refine s_iadd dX2_addPlace_120 ?_
                refine s_dup2 dX2_addPlace_121 rfl rfl ?_
                refine s_lald (mG1 hF hg) (kG1 hg) (lG1 hg) dX2_addPlace_122 ?_
                refine s_lload dX2_addPlace_123 1 rfl ?_
                refine s_lor dX2_addPlace_125 ?_
                refine s_last (mG1 hF hg) (kG1 hg) (lG1 hg) dX2_addPlace_126 (fun s9 => ?_)
                refine s_iinc [(4, .int (x2 + 1)), (7, .int x8), (5, .long y6), (0, rV E (26 + 3 * g)), (1, .int v1), (2, .int v2), (3, .int v3)] dX2_addPlace_127 6 rfl rfl (by decide) rfl ?_
                refine s_goto 34 dX2_addPlace_130 (by decide) ?_
                refine s_sub [3, 4, 5, 6, 0] rfl ?_
                exact ih4 s9 (x2 + 1)
          · skip
            exact s_return rfl rfl rfl dX2_addPlace_133
theorem dX2_moveTogether_0 : decode cX2_moveTogether 0 = .ok (.aload_n 0, 1) := by decide +kernel
theorem dX2_moveTogether_1 : decode cX2_moveTogether 1 = .ok (.getfield 11, 3) := by decide +kernel
theorem dX2_moveTogether_4 : decode cX2_moveTogether 4 = .ok (.iconst 0, 1) := by decide +kernel
theorem dX2_moveTogether_5 : decode cX2_moveTogether 5 = .ok (.iconst 0, 1) := by decide +kernel
theorem dX2_moveTogether_6 : decode cX2_moveTogether 6 = .ok (.invokestatic 81, 3) := by decide +kernel
theorem dX2_moveTogether_9 : decode cX2_moveTogether 9 = .ok (.iconst 0, 1) := by decide +kernel
theorem dX2_moveTogether_10 : decode cX2_moveTogether 10 = .ok (.istore_n 1, 1) := by decide +kernel
theorem dX2_moveTogether_11 : decode cX2_moveTogether 11 = .ok (.iload_n 1, 1) := by decide +kernel
theorem dX2_moveTogether_12 : decode cX2_moveTogether 12 = .ok (.aload_n 0, 1) := by decide +kernel
theorem dX2_moveTogether_13 : decode cX2_moveTogether 13 = .ok (.getfield 18, 3) := by decide +kernel
theorem dX2_moveTogether_16 : decode cX2_moveTogether 16 = .ok (.invokevirtual 92, 3) := by decide +kernel
theorem dX2_moveTogether_19 : decode cX2_moveTogether 19 = .ok (.if_icmp .ge 79, 3) := by decide +kernel
theorem dX2_moveTogether_22 : decode cX2_moveTogether 22 = .ok (.iconst 1, 1) := by decide +kernel
theorem dX2_moveTogether_23 : decode cX2_moveTogether 23 = .ok (.iload_n 1, 1) := by decide +kernel
theorem dX2_moveTogether_24 : decode cX2_moveTogether 24 = .ok (.ishl, 1) := by decide +kernel
theorem dX2_moveTogether_25 : decode cX2_moveTogether 25 = .ok (.istore_n 2, 1) := by decide +kernel
theorem dX2_moveTogether_26 : decode cX2_moveTogether 26 = .ok (.iload_n 2, 1) := by decide +kernel
theorem dX2_moveTogether_27 : decode cX2_moveTogether 27 = .ok (.istore_n 3, 1) := by decide +kernel
theorem dX2_moveTogether_28 : decode cX2_moveTogether 28 = .ok (.iload_n 3, 1) := by decide +kernel
theorem dX2_moveTogether_29 : decode cX2_moveTogether 29 = .ok (.iconst 2, 1) := by decide +kernel
theorem dX2_moveTogether_30 : decode cX2_moveTogether 30 = .ok (.iload_n 2, 1) := by decide +kernel
theorem dX2_moveTogether_31 : decode cX2_moveTogether 31 = .ok (.imul, 1) := by decide +kernel
theorem dX2_moveTogether_32 : decode cX2_moveTogether 32 = .ok (.if_icmp .ge 60, 3) := by decide +kernel
theorem dX2_moveTogether_35 : decode cX2_moveTogether 35 = .ok (.iconst 0, 1) := by decide +kernel
theorem dX2_moveTogether_36 : decode cX2_moveTogether 36 = .ok (.istore 4, 2) := by decide +kernel
theorem dX2_moveTogether_38 : decode cX2_moveTogether 38 = .ok (.iload 4, 2) := by decide +kernel
theorem dX2_moveTogether_40 : decode cX2_moveTogether 40 = .ok (.aload_n 0, 1) := by decide +kernel
theorem dX2_moveTogether_41 : decode cX2_moveTogether 41 = .ok (.getfield 18, 3) := by decide +kernel
theorem dX2_moveTogether_44 : decode cX2_moveTogether 44 = .ok (.invokevirtual 92, 3) := by decide +kernel
theorem dX2_moveTogether_47 : decode cX2_moveTogether 47 = .ok (.if_icmp .ge 39, 3) := by decide +kernel
theorem dX2_moveTogether_50 : decode cX2_moveTogether 50 = .ok (.aload_n 0, 1) := by decide +kernel
theorem dX2_moveTogether_51 : decode cX2_moveTogether 51 = .ok (.getfield 18, 3) := by decide +kernel
theorem dX2_moveTogether_54 : decode cX2_moveTogether 54 = .ok (.iload_n 1, 1) := by decide +kernel
theorem dX2_moveTogether_55 : decode cX2_moveTogether 55 = .ok (.invokevirtual 99, 3) := by decide +kernel
theorem dX2_moveTogether_58 : decode cX2_moveTogether 58 = .ok (.iload 4, 2) := by decide +kernel
theorem dX2_moveTogether_60 : decode cX2_moveTogether 60 = .ok (.invokestatic 95, 3) := by decide +kernel
theorem dX2_moveTogether_63 : decode cX2_moveTogether 63 = .ok (.ifCond .eq 17, 3) := by decide +kernel
theorem dX2_moveTogether_66 : decode cX2_moveTogether 66 = .ok (.aload_n 0, 1) := by decide +kernel
theorem dX2_moveTogether_67 : decode cX2_moveTogether 67 = .ok (.iload_n 3, 1) := by decide +kernel
theorem dX2_moveTogether_68 : decode cX2_moveTogether 68 = .ok (.iload_n 2, 1) := by decide +kernel
theorem dX2_moveTogether_69 : decode cX2_moveTogether 69 = .ok (.isub, 1) := by decide +kernel
theorem dX2_moveTogether_70 : decode cX2_moveTogether 70 = .ok (.iconst 4, 1) := by decide +kernel
theorem dX2_moveTogether_71 : decode cX2_moveTogether 71 = .ok (.imul, 1) := by decide +kernel
theorem dX2_moveTogether_72 : decode cX2_moveTogether 72 = .ok (.iload_n 3, 1) := by decide +kernel
theorem dX2_moveTogether_73 : decode cX2_moveTogether 73 = .ok (.iconst 4, 1) := by decide +kernel
theorem dX2_moveTogether_74 : decode cX2_moveTogether 74 = .ok (.imul, 1) := by decide +kernel
theorem dX2_moveTogether_75 : decode cX2_moveTogether 75 = .ok (.iload 4, 2) := by decide +kernel
theorem dX2_moveTogether_77 : decode cX2_moveTogether 77 = .ok (.invokevirtual 102, 3) := by decide +kernel
theorem dX2_moveTogether_80 : decode cX2_moveTogether 80 = .ok (.iinc 4 1, 3) := by decide +kernel
theorem dX2_moveTogether_83 : decode cX2_moveTogether 83 = .ok (.goto (-45), 3) := by decide +kernel
theorem dX2_moveTogether_86 : decode cX2_moveTogether 86 = .ok (.iinc 3 1, 3) := by decide +kernel
theorem dX2_moveTogether_89 : decode cX2_moveTogether 89 = .ok (.goto (-61), 3) := by decide +kernel
theorem dX2_moveTogether_92 : decode cX2_moveTogether 92 = .ok (.iinc 1 1, 3) := by decide +kernel
theorem dX2_moveTogether_95 : decode cX2_moveTogether 95 = .ok (.goto (-84), 3) := by decide +kernel
theorem dX2_moveTogether_98 : decode cX2_moveTogether 98 = .ok (.return_, 1) := by decide +kernel
def f_X2_moveTogether (σ : St) (g : Nat) : Option (Unit × St) :=
  cal (f_X2_put σ (27 + 3 * g) (0 : Int32) (0 : Int32)) fun _ s1 =>
    lo2 FU (fun rec4 (s2 : St) (x3 : Int32) =>
      calP (f_X3_places s2) fun r6 =>
        (if x3 < r6 then
          bd ((1 : Int32) <<< (x3 &&& 31)) fun x7 =>
            lo2 FU (fun rec10 (s8 : St) (x9 : Int32) =>
              (if x9 < ((2 : Int32) * x7) then
                lo2 FU (fun rec14 (s12 : St) (x13 : Int32) =>
                  calP (f_X3_places s12) fun r16 =>
                    (if x13 < r16 then
                      calP (f_X3_outOf s12 x3) fun r17 =>
                        calP (f_X9_has s12 r17 x13) fun r18 =>
                          (if r18 = 0 then
                            rec14 s12 (x13 + 1)
                             else
                            cal (f_X2_addPlace s12 g ((x9 - x7) * (4 : Int32)) (x9 * (4 : Int32)) x13) fun _ s19 =>
                              rec14 s19 (x13 + 1))
                       else
                      rec10 s12 (x9 + 1))) s8 (0 : Int32)
                 else
                rec4 s8 (x3 + 1))) s2 x7
           else
          some ((), s2))) s1 (0 : Int32)
set_option maxHeartbeats 4000000 in
set_option maxRecDepth 100000 in
theorem c_X2_moveTogether (l : Launch) (E : Ev) (hF : Full E) (σ : St) (g : Nat) (hg : g < 2) : Ctr l (en2 enV) (fun q => q.2) E md_X2_moveTogether [rV E (26 + 3 * g)] σ (f_X2_moveTogether σ g) := by
  refine ctr_of rfl (Nat.le_of_ble_eq_true rfl) (fun Γ => ?_)
  show Sim _ Γ _ E md_X2_moveTogether σ 0 [(0, rV E (26 + 3 * g))] [] _
  unfold f_X2_moveTogether
  refine s_aload_n dX2_moveTogether_0 0 rfl rfl ?_
  refine s_getr (b := (27 + 3 * g)) gf_X2_11 rfl (mG hF hg) (kG hg) (ft_of (kG hg) rfl) (hF.2 _ _) (rG2 hg) dX2_moveTogether_1 ?_
  refine s_iconst (v := 0) dX2_moveTogether_4 (by decide) ?_
  refine s_iconst (v := 0) dX2_moveTogether_5 (by decide) ?_
  refine s_callSwV (As := [rV E (27 + 3 * g), .int (0 : Int32), .int (0 : Int32)]) mf_X2_put vf_X2_put ml_X2_81 (c_X2_put _ E hF σ (27 + 3 * g) (mG1 hF hg) (kG1 hg) (0 : Int32) (0 : Int32)) rfl rfl (Nat.le_of_ble_eq_true rfl) rfl dX2_moveTogether_6 (fun _ s1 => ?_)
  refine s_iconst (v := 0) dX2_moveTogether_9 (by decide) ?_
  refine s_istore_n [(1, .int (0 : Int32)), (0, rV E (26 + 3 * g))] dX2_moveTogether_10 rfl (by decide) rfl ?_
  refine s_sub (lv' := [(0, rV E (26 + 3 * g)), (1, .int (0 : Int32))]) [1, 0] rfl ?_
  refine s_lo2 (σf := fun s2 x3 => s2) (lvf := fun s2 x3 => [(0, rV E (26 + 3 * g)), (1, .int x3)]) (fun rec4 ih5 s2 x3 => ?_)
  refine s_iload_n dX2_moveTogether_11 1 rfl rfl ?_
  refine s_aload_n dX2_moveTogether_12 0 rfl rfl ?_
  refine s_getr (b := 1) gf_X2_18 rfl (mG hF hg) (kG hg) (ft_of (kG hg) rfl) (hF.2 _ _) (rG0 hg) dX2_moveTogether_13 ?_
  refine s_callVpI (As := []) mf_X3_places vf_X3_places ml_X2_92 (c_X3_places _ E hF s2) (m1 hF) k1 (by decide) rfl rfl rfl rfl (Nat.le_of_ble_eq_true rfl) rfl dX2_moveTogether_16 (fun r6 => ?_)
  refine s_icmp_ge 98 dX2_moveTogether_19 (by decide) ?_ ?_
  · skip
    refine s_iconst (v := 1) dX2_moveTogether_22 (by decide) ?_
    refine s_iload_n dX2_moveTogether_23 1 rfl rfl ?_
    refine s_ishl dX2_moveTogether_24 ?_
    refine s_istore_nB (fun x7 => [(2, .int x7), (0, rV E (26 + 3 * g)), (1, .int x3)]) dX2_moveTogether_25 rfl (by decide) (fun _ => rfl) (fun x7 => ?_)
    refine s_iload_n dX2_moveTogether_26 0 rfl rfl ?_
    refine s_istore_n [(3, .int x7), (2, .int x7), (0, rV E (26 + 3 * g)), (1, .int x3)] dX2_moveTogether_27 rfl (by decide) rfl ?_
    refine s_sub (lv' := [(0, rV E (26 + 3 * g)), (1, .int x3), (2, .int x7), (3, .int x7)]) [2, 3, 1, 0] rfl ?_
    refine s_lo2 (σf := fun s8 x9 => s8) (lvf := fun s8 x9 => [(0, rV E (26 + 3 * g)), (1, .int x3), (2, .int x7), (3, .int x9)]) (fun rec10 ih11 s8 x9 => ?_)
    refine s_iload_n dX2_moveTogether_28 3 rfl rfl ?_
    refine s_iconst (v := 2) dX2_moveTogether_29 (by decide) ?_
    refine s_iload_n dX2_moveTogether_30 2 rfl rfl ?_
    refine s_imul dX2_moveTogether_31 ?_
    refine s_icmp_ge 92 dX2_moveTogether_32 (by decide) ?_ ?_
    · skip
      refine s_iconst (v := 0) dX2_moveTogether_35 (by decide) ?_
      refine s_istore [(4, .int (0 : Int32)), (0, rV E (26 + 3 * g)), (1, .int x3), (2, .int x7), (3, .int x9)] dX2_moveTogether_36 (by decide) rfl ?_
      refine s_sub (lv' := [(0, rV E (26 + 3 * g)), (1, .int x3), (2, .int x7), (3, .int x9), (4, .int (0 : Int32))]) [1, 2, 3, 4, 0] rfl ?_
      refine s_lo2 (σf := fun s12 x13 => s12) (lvf := fun s12 x13 => [(0, rV E (26 + 3 * g)), (1, .int x3), (2, .int x7), (3, .int x9), (4, .int x13)]) (fun rec14 ih15 s12 x13 => ?_)
      refine s_iload dX2_moveTogether_38 4 rfl ?_
      refine s_aload_n dX2_moveTogether_40 0 rfl rfl ?_
      refine s_getr (b := 1) gf_X2_18 rfl (mG hF hg) (kG hg) (ft_of (kG hg) rfl) (hF.2 _ _) (rG0 hg) dX2_moveTogether_41 ?_
      refine s_callVpI (As := []) mf_X3_places vf_X3_places ml_X2_92 (c_X3_places _ E hF s12) (m1 hF) k1 (by decide) rfl rfl rfl rfl (Nat.le_of_ble_eq_true rfl) rfl dX2_moveTogether_44 (fun r16 => ?_)
      refine s_icmp_ge 86 dX2_moveTogether_47 (by decide) ?_ ?_
      · skip
        refine s_aload_n dX2_moveTogether_50 0 rfl rfl ?_
        refine s_getr (b := 1) gf_X2_18 rfl (mG hF hg) (kG hg) (ft_of (kG hg) rfl) (hF.2 _ _) (rG0 hg) dX2_moveTogether_51 ?_
        refine s_iload_n dX2_moveTogether_54 1 rfl rfl ?_
        refine s_callVpI (As := [.int x3]) mf_X3_outOf vf_X3_outOf ml_X2_99 (c_X3_outOf _ E hF s12 x3) (m1 hF) k1 (by decide) rfl rfl rfl rfl (Nat.le_of_ble_eq_true rfl) rfl dX2_moveTogether_55 (fun r17 => ?_)
        refine s_iload dX2_moveTogether_58 4 rfl ?_
        refine s_callNpI (As := [.int r17, .int x13]) (host := "RunnerNet") mf_X9_has vf_X9_has (nl_of 8 rfl) (c_X9_has _ E hF s12 r17 x13) rfl rfl (Nat.le_of_ble_eq_true rfl) rfl dX2_moveTogether_60 (fun r18 => ?_)
        refine s_if_eq 80 dX2_moveTogether_63 (by decide) ?_ ?_
        · skip
          refine s_iinc [(4, .int (x13 + 1)), (0, rV E (26 + 3 * g)), (1, .int x3), (2, .int x7), (3, .int x9)] dX2_moveTogether_80 4 rfl rfl (by decide) rfl ?_
          refine s_goto 38 dX2_moveTogether_83 (by decide) ?_
          refine s_sub [1, 2, 3, 4, 0] rfl ?_
          exact ih15 s12 (x13 + 1)
        · skip
          refine s_aload_n dX2_moveTogether_66 0 rfl rfl ?_
          refine s_iload_n dX2_moveTogether_67 3 rfl rfl ?_
          refine s_iload_n dX2_moveTogether_68 2 rfl rfl ?_
          refine s_isub dX2_moveTogether_69 ?_
          refine s_iconst (v := 4) dX2_moveTogether_70 (by decide) ?_
          refine s_imul dX2_moveTogether_71 ?_
          refine s_iload_n dX2_moveTogether_72 3 rfl rfl ?_
          refine s_iconst (v := 4) dX2_moveTogether_73 (by decide) ?_
          refine s_imul dX2_moveTogether_74 ?_
          refine s_iload dX2_moveTogether_75 4 rfl ?_
          refine s_callVwV (As := [.int ((x9 - x7) * (4 : Int32)), .int (x9 * (4 : Int32)), .int x13]) mf_X2_addPlace vf_X2_addPlace ml_X2_102 (c_X2_addPlace _ E hF s12 g hg ((x9 - x7) * (4 : Int32)) (x9 * (4 : Int32)) x13) (mG hF hg) (kG hg) (by decide) rfl rfl rfl rfl (Nat.le_of_ble_eq_true rfl) rfl dX2_moveTogether_77 (fun _ s19 => ?_)
          refine s_iinc [(4, .int (x13 + 1)), (0, rV E (26 + 3 * g)), (1, .int x3), (2, .int x7), (3, .int x9)] dX2_moveTogether_80 4 rfl rfl (by decide) rfl ?_
          refine s_goto 38 dX2_moveTogether_83 (by decide) ?_
          refine s_sub [1, 2, 3, 4, 0] rfl ?_
          exact ih15 s19 (x13 + 1)
      · skip
        refine s_iinc [(3, .int (x9 + 1)), (0, rV E (26 + 3 * g)), (1, .int x3), (2, .int x7), (4, .int x13)] dX2_moveTogether_86 3 rfl rfl (by decide) rfl ?_
        refine s_goto 28 dX2_moveTogether_89 (by decide) ?_
        refine s_sub [1, 2, 3, 0] rfl ?_
        exact ih11 s12 (x9 + 1)
    · skip
      refine s_iinc [(1, .int (x3 + 1)), (0, rV E (26 + 3 * g)), (2, .int x7), (3, .int x9)] dX2_moveTogether_92 1 rfl rfl (by decide) rfl ?_
      refine s_goto 11 dX2_moveTogether_95 (by decide) ?_
      refine s_sub [1, 0] rfl ?_
      exact ih5 s8 (x3 + 1)
  · skip
    exact s_return rfl rfl rfl dX2_moveTogether_98
theorem dX2_solve_0 : decode cX2_solve 0 = .ok (.aload_n 0, 1) := by decide +kernel
theorem dX2_solve_1 : decode cX2_solve 1 = .ok (.getfield 26, 3) := by decide +kernel
theorem dX2_solve_4 : decode cX2_solve 4 = .ok (.aload_n 0, 1) := by decide +kernel
theorem dX2_solve_5 : decode cX2_solve 5 = .ok (.getfield 18, 3) := by decide +kernel
theorem dX2_solve_8 : decode cX2_solve 8 = .ok (.invokevirtual 66, 3) := by decide +kernel
theorem dX2_solve_11 : decode cX2_solve 11 = .ok (.if_icmp .ne 4, 3) := by decide +kernel
theorem dX2_solve_14 : decode cX2_solve 14 = .ok (.return_, 1) := by decide +kernel
theorem dX2_solve_15 : decode cX2_solve 15 = .ok (.aload_n 0, 1) := by decide +kernel
theorem dX2_solve_16 : decode cX2_solve 16 = .ok (.aload_n 0, 1) := by decide +kernel
theorem dX2_solve_17 : decode cX2_solve 17 = .ok (.getfield 18, 3) := by decide +kernel
theorem dX2_solve_20 : decode cX2_solve 20 = .ok (.invokevirtual 66, 3) := by decide +kernel
theorem dX2_solve_23 : decode cX2_solve 23 = .ok (.putfield 26, 3) := by decide +kernel
theorem dX2_solve_26 : decode cX2_solve 26 = .ok (.aload_n 0, 1) := by decide +kernel
theorem dX2_solve_27 : decode cX2_solve 27 = .ok (.getfield 11, 3) := by decide +kernel
theorem dX2_solve_30 : decode cX2_solve 30 = .ok (.lconst 0, 1) := by decide +kernel
theorem dX2_solve_31 : decode cX2_solve 31 = .ok (.invokestatic 69, 3) := by decide +kernel
theorem dX2_solve_34 : decode cX2_solve 34 = .ok (.aload_n 0, 1) := by decide +kernel
theorem dX2_solve_35 : decode cX2_solve 35 = .ok (.getfield 15, 3) := by decide +kernel
theorem dX2_solve_38 : decode cX2_solve 38 = .ok (.lconst 0, 1) := by decide +kernel
theorem dX2_solve_39 : decode cX2_solve 39 = .ok (.invokestatic 69, 3) := by decide +kernel
theorem dX2_solve_42 : decode cX2_solve 42 = .ok (.aload_n 0, 1) := by decide +kernel
theorem dX2_solve_43 : decode cX2_solve 43 = .ok (.getfield 22, 3) := by decide +kernel
theorem dX2_solve_46 : decode cX2_solve 46 = .ok (.ifCond .ne 10, 3) := by decide +kernel
theorem dX2_solve_49 : decode cX2_solve 49 = .ok (.aload_n 0, 1) := by decide +kernel
theorem dX2_solve_50 : decode cX2_solve 50 = .ok (.invokevirtual 75, 3) := by decide +kernel
theorem dX2_solve_53 : decode cX2_solve 53 = .ok (.goto 7, 3) := by decide +kernel
theorem dX2_solve_56 : decode cX2_solve 56 = .ok (.aload_n 0, 1) := by decide +kernel
theorem dX2_solve_57 : decode cX2_solve 57 = .ok (.invokevirtual 78, 3) := by decide +kernel
theorem dX2_solve_60 : decode cX2_solve 60 = .ok (.iconst 1, 1) := by decide +kernel
theorem dX2_solve_61 : decode cX2_solve 61 = .ok (.istore_n 1, 1) := by decide +kernel
theorem dX2_solve_62 : decode cX2_solve 62 = .ok (.iload_n 1, 1) := by decide +kernel
theorem dX2_solve_63 : decode cX2_solve 63 = .ok (.aload_n 0, 1) := by decide +kernel
theorem dX2_solve_64 : decode cX2_solve 64 = .ok (.getfield 18, 3) := by decide +kernel
theorem dX2_solve_67 : decode cX2_solve 67 = .ok (.invokevirtual 36, 3) := by decide +kernel
theorem dX2_solve_70 : decode cX2_solve 70 = .ok (.if_icmp .gt 18, 3) := by decide +kernel
theorem dX2_solve_73 : decode cX2_solve 73 = .ok (.aload_n 0, 1) := by decide +kernel
theorem dX2_solve_74 : decode cX2_solve 74 = .ok (.getfield 15, 3) := by decide +kernel
theorem dX2_solve_77 : decode cX2_solve 77 = .ok (.iconst 0, 1) := by decide +kernel
theorem dX2_solve_78 : decode cX2_solve 78 = .ok (.iload_n 1, 1) := by decide +kernel
theorem dX2_solve_79 : decode cX2_solve 79 = .ok (.invokestatic 81, 3) := by decide +kernel
theorem dX2_solve_82 : decode cX2_solve 82 = .ok (.iinc 1 1, 3) := by decide +kernel
theorem dX2_solve_85 : decode cX2_solve 85 = .ok (.goto (-23), 3) := by decide +kernel
theorem dX2_solve_88 : decode cX2_solve 88 = .ok (.iconst 1, 1) := by decide +kernel
theorem dX2_solve_89 : decode cX2_solve 89 = .ok (.istore_n 1, 1) := by decide +kernel
theorem dX2_solve_90 : decode cX2_solve 90 = .ok (.iconst 0, 1) := by decide +kernel
theorem dX2_solve_91 : decode cX2_solve 91 = .ok (.istore_n 2, 1) := by decide +kernel
theorem dX2_solve_92 : decode cX2_solve 92 = .ok (.iload_n 2, 1) := by decide +kernel
theorem dX2_solve_93 : decode cX2_solve 93 = .ok (.sipush 256, 3) := by decide +kernel
theorem dX2_solve_96 : decode cX2_solve 96 = .ok (.if_icmp .gt 18, 3) := by decide +kernel
theorem dX2_solve_99 : decode cX2_solve 99 = .ok (.iload_n 1, 1) := by decide +kernel
theorem dX2_solve_100 : decode cX2_solve 100 = .ok (.ifCond .eq 14, 3) := by decide +kernel
theorem dX2_solve_103 : decode cX2_solve 103 = .ok (.aload_n 0, 1) := by decide +kernel
theorem dX2_solve_104 : decode cX2_solve 104 = .ok (.invokevirtual 85, 3) := by decide +kernel
theorem dX2_solve_107 : decode cX2_solve 107 = .ok (.istore_n 1, 1) := by decide +kernel
theorem dX2_solve_108 : decode cX2_solve 108 = .ok (.iinc 2 1, 3) := by decide +kernel
theorem dX2_solve_111 : decode cX2_solve 111 = .ok (.goto (-19), 3) := by decide +kernel
theorem dX2_solve_114 : decode cX2_solve 114 = .ok (.return_, 1) := by decide +kernel
def f_X2_solve (σ : St) (g : Nat) : Option (Unit × St) :=
  calP (f_X3_changes σ) fun r1 =>
    (if (σ.1 (26 + 3 * g) 4) = r1 then
      some ((), σ)
       else
      calP (f_X3_changes σ) fun r2 =>
        bd (setI σ (26 + 3 * g) 4 r2) fun s3 =>
          cal (f_J7_fill_d0a16 s3 (27 + 3 * g) (0 : Int64)) fun _ s4 =>
            cal (f_J7_fill_d0a16 s4 (28 + 3 * g) (0 : Int64)) fun _ s5 =>
              jn1 (fun jk7 =>
                (if (s5.1 (26 + 3 * g) 1) = 0 then
                  cal (f_X2_moveAlone s5 g) fun _ s21 =>
                    jk7 s21
                   else
                  cal (f_X2_moveTogether s5 g) fun _ s22 =>
                    jk7 s22))
                (fun (s6 : St) => 
                lo2 FU (fun rec10 (s8 : St) (x9 : Int32) =>
                    calP (f_X3_all s8) fun r12 =>
                      (if r12 < x9 then
                        lo3 FU (fun rec16 (s13 : St) (x14 : Int32) (x15 : Int32) =>
                          (if (256 : Int32) < x15 then
                            some ((), s13)
                             else
                            (if x14 = 0 then
                              some ((), s13)
                               else
                              cal (f_X2_dropUnsafe s13 g) fun r18 s19 =>
                                rec16 s19 r18 (x15 + 1)))) s8 (1 : Int32) (0 : Int32)
                         else
                        cal (f_X2_put s8 (28 + 3 * g) (0 : Int32) x9) fun _ s20 =>
                          rec10 s20 (x9 + 1))) s6 (1 : Int32)))
set_option maxHeartbeats 4000000 in
set_option maxRecDepth 100000 in
theorem c_X2_solve (l : Launch) (E : Ev) (hF : Full E) (σ : St) (g : Nat) (hg : g < 2) : Ctr l (en2 enV) (fun q => q.2) E md_X2_solve [rV E (26 + 3 * g)] σ (f_X2_solve σ g) := by
  refine ctr_of rfl (Nat.le_of_ble_eq_true rfl) (fun Γ => ?_)
  show Sim _ Γ _ E md_X2_solve σ 0 [(0, rV E (26 + 3 * g))] [] _
  unfold f_X2_solve
  refine s_aload_n dX2_solve_0 0 rfl rfl ?_
  refine s_geti gf_X2_26 rfl (mG hF hg) (kG hg) (ft_of (kG hg) rfl) dX2_solve_1 ?_
  refine s_aload_n dX2_solve_4 0 rfl rfl ?_
  refine s_getr (b := 1) gf_X2_18 rfl (mG hF hg) (kG hg) (ft_of (kG hg) rfl) (hF.2 _ _) (rG0 hg) dX2_solve_5 ?_
  refine s_callVpI (As := []) mf_X3_changes vf_X3_changes ml_X2_66 (c_X3_changes _ E hF σ) (m1 hF) k1 (by decide) rfl rfl rfl rfl (Nat.le_of_ble_eq_true rfl) rfl dX2_solve_8 (fun r1 => ?_)
  refine s_icmp_ne 15 dX2_solve_11 (by decide) ?_ ?_
  · skip
    exact s_return rfl rfl rfl dX2_solve_14
  · skip
    refine s_aload_n dX2_solve_15 0 rfl rfl ?_
    refine s_aload_n dX2_solve_16 0 rfl rfl ?_
    refine s_getr (b := 1) gf_X2_18 rfl (mG hF hg) (kG hg) (ft_of (kG hg) rfl) (hF.2 _ _) (rG0 hg) dX2_solve_17 ?_
    refine s_callVpI (As := []) mf_X3_changes vf_X3_changes ml_X2_66 (c_X3_changes _ E hF σ) (m1 hF) k1 (by decide) rfl rfl rfl rfl (Nat.le_of_ble_eq_true rfl) rfl dX2_solve_20 (fun r2 => ?_)
    refine s_puti gf_X2_26 rfl (mG hF hg) (kG hg) (ft_of (kG hg) rfl) dX2_solve_23 (fun s3 => ?_)
    refine s_aload_n dX2_solve_26 0 rfl rfl ?_
    refine s_getr (b := (27 + 3 * g)) gf_X2_11 rfl (mG hF hg) (kG hg) (ft_of (kG hg) rfl) (hF.2 _ _) (rG2 hg) dX2_solve_27 ?_
    refine s_lconst (v := 0) dX2_solve_30 (by decide) ?_
    refine s_callSwV (As := [rV E (27 + 3 * g), .long (0 : Int64)]) mf_J7_fill_d0a16 vf_J7_fill_d0a16 ml_X2_69 (c_J7_fill_d0a16 _ E hF s3 (27 + 3 * g) (mG1 hF hg) (kG1 hg) (0 : Int64)) rfl rfl (Nat.le_of_ble_eq_true rfl) rfl dX2_solve_31 (fun _ s4 => ?_)
    refine s_aload_n dX2_solve_34 0 rfl rfl ?_
    refine s_getr (b := (28 + 3 * g)) gf_X2_15 rfl (mG hF hg) (kG hg) (ft_of (kG hg) rfl) (hF.2 _ _) (rG3 hg) dX2_solve_35 ?_
    refine s_lconst (v := 0) dX2_solve_38 (by decide) ?_
    refine s_callSwV (As := [rV E (28 + 3 * g), .long (0 : Int64)]) mf_J7_fill_d0a16 vf_J7_fill_d0a16 ml_X2_69 (c_J7_fill_d0a16 _ E hF s4 (28 + 3 * g) (mG2 hF hg) (kG2 hg) (0 : Int64)) rfl rfl (Nat.le_of_ble_eq_true rfl) rfl dX2_solve_39 (fun _ s5 => ?_)
    refine s_aload_n dX2_solve_42 0 rfl rfl ?_
    refine s_geti gf_X2_22 rfl (mG hF hg) (kG hg) (ft_of (kG hg) rfl) dX2_solve_43 ?_
    refine s_jn1 60 (fun s6 => s6) (fun s6 => [(0, rV E (26 + 3 * g))]) (fun s6 => []) ?_ ?_
    · intro s6
      refine s_iconst (v := 1) dX2_solve_60 (by decide) ?_
      refine s_istore_n [(1, .int (1 : Int32)), (0, rV E (26 + 3 * g))] dX2_solve_61 rfl (by decide) rfl ?_
      refine s_sub (lv' := [(0, rV E (26 + 3 * g)), (1, .int (1 : Int32))]) [1, 0] rfl ?_
      refine s_lo2 (σf := fun s8 x9 => s8) (lvf := fun s8 x9 => [(0, rV E (26 + 3 * g)), (1, .int x9)]) (fun rec10 ih11 s8 x9 => ?_)
      refine s_iload_n dX2_solve_62 1 rfl rfl ?_
      refine s_aload_n dX2_solve_63 0 rfl rfl ?_
      refine s_getr (b := 1) gf_X2_18 rfl (mG hF hg) (kG hg) (ft_of (kG hg) rfl) (hF.2 _ _) (rG0 hg) dX2_solve_64 ?_
      refine s_callVpI (As := []) mf_X3_all vf_X3_all ml_X2_36 (c_X3_all _ E hF s8) (m1 hF) k1 (by decide) rfl rfl rfl rfl (Nat.le_of_ble_eq_true rfl) rfl dX2_solve_67 (fun r12 => ?_)
      refine s_icmp_gt 88 dX2_solve_70 (by decide) ?_ ?_
      · skip
        refine s_iconst (v := 1) dX2_solve_88 (by decide) ?_
        refine s_istore_n [(1, .int (1 : Int32)), (0, rV E (26 + 3 * g))] dX2_solve_89 rfl (by decide) rfl ?_
        refine s_iconst (v := 0) dX2_solve_90 (by decide) ?_
        refine s_istore_n [(2, .int (0 : Int32)), (1, .int (1 : Int32)), (0, rV E (26 + 3 * g))] dX2_solve_91 rfl (by decide) rfl ?_
        refine s_sub (lv' := [(0, rV E (26 + 3 * g)), (1, .int (1 : Int32)), (2, .int (0 : Int32))]) [2, 1, 0] rfl ?_
        refine s_lo3 (σf := fun s13 x14 x15 => s13) (lvf := fun s13 x14 x15 => [(0, rV E (26 + 3 * g)), (1, .int x14), (2, .int x15)]) (fun rec16 ih17 s13 x14 x15 => ?_)
        refine s_iload_n dX2_solve_92 2 rfl rfl ?_
        refine s_sipush (v := 256) dX2_solve_93 (by decide) ?_
        refine s_icmp_gt 114 dX2_solve_96 (by decide) ?_ ?_
        · skip
          exact s_return rfl rfl rfl dX2_solve_114
        · skip
          refine s_iload_n dX2_solve_99 1 rfl rfl ?_
          refine s_if_eq 114 dX2_solve_100 (by decide) ?_ ?_
          · skip
            exact s_return rfl rfl rfl dX2_solve_114
          · skip
            refine s_aload_n dX2_solve_103 0 rfl rfl ?_
            refine s_callVwI (As := []) mf_X2_dropUnsafe vf_X2_dropUnsafe ml_X2_85 (c_X2_dropUnsafe _ E hF s13 g hg) (mG hF hg) (kG hg) (by decide) rfl rfl rfl rfl (Nat.le_of_ble_eq_true rfl) rfl dX2_solve_104 (fun r18 s19 => ?_)
            refine s_istore_n [(1, .int r18), (0, rV E (26 + 3 * g)), (2, .int x15)] dX2_solve_107 rfl (by decide) rfl ?_
            refine s_iinc [(2, .int (x15 + 1)), (1, .int r18), (0, rV E (26 + 3 * g))] dX2_solve_108 2 rfl rfl (by decide) rfl ?_
            refine s_goto 92 dX2_solve_111 (by decide) ?_
            refine s_sub [2, 1, 0] rfl ?_
            exact ih17 s19 r18 (x15 + 1)
      · skip
        refine s_aload_n dX2_solve_73 0 rfl rfl ?_
        refine s_getr (b := (28 + 3 * g)) gf_X2_15 rfl (mG hF hg) (kG hg) (ft_of (kG hg) rfl) (hF.2 _ _) (rG3 hg) dX2_solve_74 ?_
        refine s_iconst (v := 0) dX2_solve_77 (by decide) ?_
        refine s_iload_n dX2_solve_78 1 rfl rfl ?_
        refine s_callSwV (As := [rV E (28 + 3 * g), .int (0 : Int32), .int x9]) mf_X2_put vf_X2_put ml_X2_81 (c_X2_put _ E hF s8 (28 + 3 * g) (mG2 hF hg) (kG2 hg) (0 : Int32) x9) rfl rfl (Nat.le_of_ble_eq_true rfl) rfl dX2_solve_79 (fun _ s20 => ?_)
        refine s_iinc [(1, .int (x9 + 1)), (0, rV E (26 + 3 * g))] dX2_solve_82 1 rfl rfl (by decide) rfl ?_
        refine s_goto 62 dX2_solve_85 (by decide) ?_
        refine s_sub [1, 0] rfl ?_
        exact ih11 s20 (x9 + 1)
    · intro jk7 hjk7
      refine s_if_ne 56 dX2_solve_46 (by decide) ?_ ?_
      · skip
        refine s_aload_n dX2_solve_49 0 rfl rfl ?_
        refine s_callVwV (As := []) mf_X2_moveAlone vf_X2_moveAlone ml_X2_75 (c_X2_moveAlone _ E hF s5 g hg) (mG hF hg) (kG hg) (by decide) rfl rfl rfl rfl (Nat.le_of_ble_eq_true rfl) rfl dX2_solve_50 (fun _ s21 => ?_)
        refine s_goto 60 dX2_solve_53 (by decide) ?_
        exact hjk7 s21
      · skip
        refine s_aload_n dX2_solve_56 0 rfl rfl ?_
        refine s_callVwV (As := []) mf_X2_moveTogether vf_X2_moveTogether ml_X2_78 (c_X2_moveTogether _ E hF s5 g hg) (mG hF hg) (kG hg) (by decide) rfl rfl rfl rfl (Nat.le_of_ble_eq_true rfl) rfl dX2_solve_57 (fun _ s22 => ?_)
        exact hjk7 s22
theorem dX2_holdsOut_0 : decode cX2_holdsOut 0 = .ok (.aload_n 0, 1) := by decide +kernel
theorem dX2_holdsOut_1 : decode cX2_holdsOut 1 = .ok (.invokevirtual 29, 3) := by decide +kernel
theorem dX2_holdsOut_4 : decode cX2_holdsOut 4 = .ok (.aload_n 0, 1) := by decide +kernel
theorem dX2_holdsOut_5 : decode cX2_holdsOut 5 = .ok (.iload_n 1, 1) := by decide +kernel
theorem dX2_holdsOut_6 : decode cX2_holdsOut 6 = .ok (.invokevirtual 32, 3) := by decide +kernel
theorem dX2_holdsOut_9 : decode cX2_holdsOut 9 = .ok (.ireturn, 1) := by decide +kernel
def f_X2_holdsOut (σ : St) (g : Nat) (v1 : Int32) : Option (Int32 × St) :=
  cal (f_X2_solve σ g) fun _ s1 =>
    calP (f_X2_isSafe s1 g v1) fun r2 =>
      ckZ r2 <|
        some (r2, s1)
set_option maxHeartbeats 4000000 in
set_option maxRecDepth 100000 in
theorem c_X2_holdsOut (l : Launch) (E : Ev) (hF : Full E) (σ : St) (g : Nat) (hg : g < 2) (v1 : Int32) : Ctr l (en2 enI) (fun q => q.2) E md_X2_holdsOut [rV E (26 + 3 * g), .int v1] σ (f_X2_holdsOut σ g v1) := by
  refine ctr_of rfl (Nat.le_of_ble_eq_true rfl) (fun Γ => ?_)
  show Sim _ Γ _ E md_X2_holdsOut σ 0 [(0, rV E (26 + 3 * g)), (1, .int v1)] [] _
  unfold f_X2_holdsOut
  refine s_aload_n dX2_holdsOut_0 0 rfl rfl ?_
  refine s_callVwV (As := []) mf_X2_solve vf_X2_solve ml_X2_29 (c_X2_solve _ E hF σ g hg) (mG hF hg) (kG hg) (by decide) rfl rfl rfl rfl (Nat.le_of_ble_eq_true rfl) rfl dX2_holdsOut_1 (fun _ s1 => ?_)
  refine s_aload_n dX2_holdsOut_4 0 rfl rfl ?_
  refine s_iload_n dX2_holdsOut_5 1 rfl rfl ?_
  refine s_callVpI (As := [.int v1]) mf_X2_isSafe vf_X2_isSafe ml_X2_32 (c_X2_isSafe _ E hF s1 g hg v1) (mG hF hg) (kG hg) (by decide) rfl rfl rfl rfl (Nat.le_of_ble_eq_true rfl) rfl dX2_holdsOut_6 (fun r2 => ?_)
  refine s_ckZ (fun hz3 => ?_)
  exact s_zreturn rfl hz3 rfl rfl dX2_holdsOut_9
theorem dX2_leastSet_0 : decode cX2_leastSet 0 = .ok (.aload_n 0, 1) := by decide +kernel
theorem dX2_leastSet_1 : decode cX2_leastSet 1 = .ok (.invokevirtual 29, 3) := by decide +kernel
theorem dX2_leastSet_4 : decode cX2_leastSet 4 = .ok (.aload_n 0, 1) := by decide +kernel
theorem dX2_leastSet_5 : decode cX2_leastSet 5 = .ok (.getfield 18, 3) := by decide +kernel
theorem dX2_leastSet_8 : decode cX2_leastSet 8 = .ok (.invokevirtual 36, 3) := by decide +kernel
theorem dX2_leastSet_11 : decode cX2_leastSet 11 = .ok (.istore_n 1, 1) := by decide +kernel
theorem dX2_leastSet_12 : decode cX2_leastSet 12 = .ok (.iconst 1, 1) := by decide +kernel
theorem dX2_leastSet_13 : decode cX2_leastSet 13 = .ok (.istore_n 2, 1) := by decide +kernel
theorem dX2_leastSet_14 : decode cX2_leastSet 14 = .ok (.iload_n 2, 1) := by decide +kernel
theorem dX2_leastSet_15 : decode cX2_leastSet 15 = .ok (.aload_n 0, 1) := by decide +kernel
theorem dX2_leastSet_16 : decode cX2_leastSet 16 = .ok (.getfield 18, 3) := by decide +kernel
theorem dX2_leastSet_19 : decode cX2_leastSet 19 = .ok (.invokevirtual 36, 3) := by decide +kernel
theorem dX2_leastSet_22 : decode cX2_leastSet 22 = .ok (.if_icmp .ge 30, 3) := by decide +kernel
theorem dX2_leastSet_25 : decode cX2_leastSet 25 = .ok (.iload_n 2, 1) := by decide +kernel
theorem dX2_leastSet_26 : decode cX2_leastSet 26 = .ok (.invokestatic 42, 3) := by decide +kernel
theorem dX2_leastSet_29 : decode cX2_leastSet 29 = .ok (.iload_n 1, 1) := by decide +kernel
theorem dX2_leastSet_30 : decode cX2_leastSet 30 = .ok (.invokestatic 42, 3) := by decide +kernel
theorem dX2_leastSet_33 : decode cX2_leastSet 33 = .ok (.if_icmp .ge 13, 3) := by decide +kernel
theorem dX2_leastSet_36 : decode cX2_leastSet 36 = .ok (.aload_n 0, 1) := by decide +kernel
theorem dX2_leastSet_37 : decode cX2_leastSet 37 = .ok (.iload_n 2, 1) := by decide +kernel
theorem dX2_leastSet_38 : decode cX2_leastSet 38 = .ok (.invokevirtual 32, 3) := by decide +kernel
theorem dX2_leastSet_41 : decode cX2_leastSet 41 = .ok (.ifCond .eq 5, 3) := by decide +kernel
theorem dX2_leastSet_44 : decode cX2_leastSet 44 = .ok (.iload_n 2, 1) := by decide +kernel
theorem dX2_leastSet_45 : decode cX2_leastSet 45 = .ok (.istore_n 1, 1) := by decide +kernel
theorem dX2_leastSet_46 : decode cX2_leastSet 46 = .ok (.iinc 2 1, 3) := by decide +kernel
theorem dX2_leastSet_49 : decode cX2_leastSet 49 = .ok (.goto (-35), 3) := by decide +kernel
theorem dX2_leastSet_52 : decode cX2_leastSet 52 = .ok (.iload_n 1, 1) := by decide +kernel
theorem dX2_leastSet_53 : decode cX2_leastSet 53 = .ok (.ireturn, 1) := by decide +kernel
def f_X2_leastSet (σ : St) (g : Nat) : Option (Int32 × St) :=
  cal (f_X2_solve σ g) fun _ s1 =>
    calP (f_X3_all s1) fun r2 =>
      lo2 FU (fun rec5 (x3 : Int32) (x4 : Int32) =>
        calP (f_X3_all s1) fun r7 =>
          (if x4 < r7 then
            calP (f_J6_bitCount_0f7a4 s1 x4) fun r8 =>
              calP (f_J6_bitCount_0f7a4 s1 x3) fun r9 =>
                (if r8 < r9 then
                  calP (f_X2_isSafe s1 g x4) fun r10 =>
                    (if r10 = 0 then
                      rec5 x3 (x4 + 1)
                       else
                      rec5 x4 (x4 + 1))
                   else
                  rec5 x3 (x4 + 1))
             else
            some (x3, s1))) r2 (1 : Int32)
set_option maxHeartbeats 4000000 in
set_option maxRecDepth 100000 in
theorem c_X2_leastSet (l : Launch) (E : Ev) (hF : Full E) (σ : St) (g : Nat) (hg : g < 2) : Ctr l (en2 enI) (fun q => q.2) E md_X2_leastSet [rV E (26 + 3 * g)] σ (f_X2_leastSet σ g) := by
  refine ctr_of rfl (Nat.le_of_ble_eq_true rfl) (fun Γ => ?_)
  show Sim _ Γ _ E md_X2_leastSet σ 0 [(0, rV E (26 + 3 * g))] [] _
  unfold f_X2_leastSet
  refine s_aload_n dX2_leastSet_0 0 rfl rfl ?_
  refine s_callVwV (As := []) mf_X2_solve vf_X2_solve ml_X2_29 (c_X2_solve _ E hF σ g hg) (mG hF hg) (kG hg) (by decide) rfl rfl rfl rfl (Nat.le_of_ble_eq_true rfl) rfl dX2_leastSet_1 (fun _ s1 => ?_)
  refine s_aload_n dX2_leastSet_4 0 rfl rfl ?_
  refine s_getr (b := 1) gf_X2_18 rfl (mG hF hg) (kG hg) (ft_of (kG hg) rfl) (hF.2 _ _) (rG0 hg) dX2_leastSet_5 ?_
  refine s_callVpI (As := []) mf_X3_all vf_X3_all ml_X2_36 (c_X3_all _ E hF s1) (m1 hF) k1 (by decide) rfl rfl rfl rfl (Nat.le_of_ble_eq_true rfl) rfl dX2_leastSet_8 (fun r2 => ?_)
  refine s_istore_n [(1, .int r2), (0, rV E (26 + 3 * g))] dX2_leastSet_11 rfl (by decide) rfl ?_
  refine s_iconst (v := 1) dX2_leastSet_12 (by decide) ?_
  refine s_istore_n [(2, .int (1 : Int32)), (1, .int r2), (0, rV E (26 + 3 * g))] dX2_leastSet_13 rfl (by decide) rfl ?_
  refine s_sub (lv' := [(0, rV E (26 + 3 * g)), (1, .int r2), (2, .int (1 : Int32))]) [2, 1, 0] rfl ?_
  refine s_lo2 (σf := fun x3 x4 => s1) (lvf := fun x3 x4 => [(0, rV E (26 + 3 * g)), (1, .int x3), (2, .int x4)]) (fun rec5 ih6 x3 x4 => ?_)
  refine s_iload_n dX2_leastSet_14 2 rfl rfl ?_
  refine s_aload_n dX2_leastSet_15 0 rfl rfl ?_
  refine s_getr (b := 1) gf_X2_18 rfl (mG hF hg) (kG hg) (ft_of (kG hg) rfl) (hF.2 _ _) (rG0 hg) dX2_leastSet_16 ?_
  refine s_callVpI (As := []) mf_X3_all vf_X3_all ml_X2_36 (c_X3_all _ E hF s1) (m1 hF) k1 (by decide) rfl rfl rfl rfl (Nat.le_of_ble_eq_true rfl) rfl dX2_leastSet_19 (fun r7 => ?_)
  refine s_icmp_ge 52 dX2_leastSet_22 (by decide) ?_ ?_
  · skip
    refine s_iload_n dX2_leastSet_25 2 rfl rfl ?_
    refine s_callSpI (As := [.int x4]) mf_J6_bitCount_0f7a4 vf_J6_bitCount_0f7a4 ml_X2_42 (c_J6_bitCount_0f7a4 _ E hF s1 x4) rfl rfl (Nat.le_of_ble_eq_true rfl) rfl dX2_leastSet_26 (fun r8 => ?_)
    refine s_iload_n dX2_leastSet_29 1 rfl rfl ?_
    refine s_callSpI (As := [.int x3]) mf_J6_bitCount_0f7a4 vf_J6_bitCount_0f7a4 ml_X2_42 (c_J6_bitCount_0f7a4 _ E hF s1 x3) rfl rfl (Nat.le_of_ble_eq_true rfl) rfl dX2_leastSet_30 (fun r9 => ?_)
    refine s_icmp_ge 46 dX2_leastSet_33 (by decide) ?_ ?_
    · skip
      refine s_aload_n dX2_leastSet_36 0 rfl rfl ?_
      refine s_iload_n dX2_leastSet_37 2 rfl rfl ?_
      refine s_callVpI (As := [.int x4]) mf_X2_isSafe vf_X2_isSafe ml_X2_32 (c_X2_isSafe _ E hF s1 g hg x4) (mG hF hg) (kG hg) (by decide) rfl rfl rfl rfl (Nat.le_of_ble_eq_true rfl) rfl dX2_leastSet_38 (fun r10 => ?_)
      refine s_if_eq 46 dX2_leastSet_41 (by decide) ?_ ?_
      · skip
        refine s_iinc [(2, .int (x4 + 1)), (0, rV E (26 + 3 * g)), (1, .int x3)] dX2_leastSet_46 2 rfl rfl (by decide) rfl ?_
        refine s_goto 14 dX2_leastSet_49 (by decide) ?_
        refine s_sub [1, 2, 0] rfl ?_
        exact ih6 x3 (x4 + 1)
      · skip
        refine s_iload_n dX2_leastSet_44 2 rfl rfl ?_
        refine s_istore_n [(1, .int x4), (0, rV E (26 + 3 * g)), (2, .int x4)] dX2_leastSet_45 rfl (by decide) rfl ?_
        refine s_iinc [(2, .int (x4 + 1)), (1, .int x4), (0, rV E (26 + 3 * g))] dX2_leastSet_46 2 rfl rfl (by decide) rfl ?_
        refine s_goto 14 dX2_leastSet_49 (by decide) ?_
        refine s_sub [2, 1, 0] rfl ?_
        exact ih6 x4 (x4 + 1)
    · skip
      refine s_iinc [(2, .int (x4 + 1)), (0, rV E (26 + 3 * g)), (1, .int x3)] dX2_leastSet_46 2 rfl rfl (by decide) rfl ?_
      refine s_goto 14 dX2_leastSet_49 (by decide) ?_
      refine s_sub [1, 2, 0] rfl ?_
      exact ih6 x3 (x4 + 1)
  · skip
    refine s_iload_n dX2_leastSet_52 1 rfl rfl ?_
    exact s_ireturn rfl rfl rfl dX2_leastSet_53
theorem dX2_countSets_0 : decode cX2_countSets 0 = .ok (.aload_n 0, 1) := by decide +kernel
theorem dX2_countSets_1 : decode cX2_countSets 1 = .ok (.invokevirtual 29, 3) := by decide +kernel
theorem dX2_countSets_4 : decode cX2_countSets 4 = .ok (.iconst 0, 1) := by decide +kernel
theorem dX2_countSets_5 : decode cX2_countSets 5 = .ok (.istore_n 2, 1) := by decide +kernel
theorem dX2_countSets_6 : decode cX2_countSets 6 = .ok (.iconst 1, 1) := by decide +kernel
theorem dX2_countSets_7 : decode cX2_countSets 7 = .ok (.istore_n 3, 1) := by decide +kernel
theorem dX2_countSets_8 : decode cX2_countSets 8 = .ok (.iload_n 3, 1) := by decide +kernel
theorem dX2_countSets_9 : decode cX2_countSets 9 = .ok (.aload_n 0, 1) := by decide +kernel
theorem dX2_countSets_10 : decode cX2_countSets 10 = .ok (.getfield 18, 3) := by decide +kernel
theorem dX2_countSets_13 : decode cX2_countSets 13 = .ok (.invokevirtual 36, 3) := by decide +kernel
theorem dX2_countSets_16 : decode cX2_countSets 16 = .ok (.if_icmp .gt 28, 3) := by decide +kernel
theorem dX2_countSets_19 : decode cX2_countSets 19 = .ok (.iload_n 3, 1) := by decide +kernel
theorem dX2_countSets_20 : decode cX2_countSets 20 = .ok (.invokestatic 42, 3) := by decide +kernel
theorem dX2_countSets_23 : decode cX2_countSets 23 = .ok (.iload_n 1, 1) := by decide +kernel
theorem dX2_countSets_24 : decode cX2_countSets 24 = .ok (.if_icmp .ne 14, 3) := by decide +kernel
theorem dX2_countSets_27 : decode cX2_countSets 27 = .ok (.aload_n 0, 1) := by decide +kernel
theorem dX2_countSets_28 : decode cX2_countSets 28 = .ok (.iload_n 3, 1) := by decide +kernel
theorem dX2_countSets_29 : decode cX2_countSets 29 = .ok (.invokevirtual 32, 3) := by decide +kernel
theorem dX2_countSets_32 : decode cX2_countSets 32 = .ok (.ifCond .eq 6, 3) := by decide +kernel
theorem dX2_countSets_35 : decode cX2_countSets 35 = .ok (.iinc 2 1, 3) := by decide +kernel
theorem dX2_countSets_38 : decode cX2_countSets 38 = .ok (.iinc 3 1, 3) := by decide +kernel
theorem dX2_countSets_41 : decode cX2_countSets 41 = .ok (.goto (-33), 3) := by decide +kernel
theorem dX2_countSets_44 : decode cX2_countSets 44 = .ok (.iload_n 2, 1) := by decide +kernel
theorem dX2_countSets_45 : decode cX2_countSets 45 = .ok (.ireturn, 1) := by decide +kernel
def f_X2_countSets (σ : St) (g : Nat) (v1 : Int32) : Option (Int32 × St) :=
  cal (f_X2_solve σ g) fun _ s1 =>
    lo2 FU (fun rec4 (x2 : Int32) (x3 : Int32) =>
      calP (f_X3_all s1) fun r6 =>
        (if r6 < x3 then
          some (x2, s1)
           else
          calP (f_J6_bitCount_0f7a4 s1 x3) fun r7 =>
            (if r7 = v1 then
              calP (f_X2_isSafe s1 g x3) fun r8 =>
                (if r8 = 0 then
                  rec4 x2 (x3 + 1)
                   else
                  rec4 (x2 + 1) (x3 + 1))
               else
              rec4 x2 (x3 + 1)))) (0 : Int32) (1 : Int32)
set_option maxHeartbeats 4000000 in
set_option maxRecDepth 100000 in
theorem c_X2_countSets (l : Launch) (E : Ev) (hF : Full E) (σ : St) (g : Nat) (hg : g < 2) (v1 : Int32) : Ctr l (en2 enI) (fun q => q.2) E md_X2_countSets [rV E (26 + 3 * g), .int v1] σ (f_X2_countSets σ g v1) := by
  refine ctr_of rfl (Nat.le_of_ble_eq_true rfl) (fun Γ => ?_)
  show Sim _ Γ _ E md_X2_countSets σ 0 [(0, rV E (26 + 3 * g)), (1, .int v1)] [] _
  unfold f_X2_countSets
  refine s_aload_n dX2_countSets_0 0 rfl rfl ?_
  refine s_callVwV (As := []) mf_X2_solve vf_X2_solve ml_X2_29 (c_X2_solve _ E hF σ g hg) (mG hF hg) (kG hg) (by decide) rfl rfl rfl rfl (Nat.le_of_ble_eq_true rfl) rfl dX2_countSets_1 (fun _ s1 => ?_)
  refine s_iconst (v := 0) dX2_countSets_4 (by decide) ?_
  refine s_istore_n [(2, .int (0 : Int32)), (0, rV E (26 + 3 * g)), (1, .int v1)] dX2_countSets_5 rfl (by decide) rfl ?_
  refine s_iconst (v := 1) dX2_countSets_6 (by decide) ?_
  refine s_istore_n [(3, .int (1 : Int32)), (2, .int (0 : Int32)), (0, rV E (26 + 3 * g)), (1, .int v1)] dX2_countSets_7 rfl (by decide) rfl ?_
  refine s_sub (lv' := [(0, rV E (26 + 3 * g)), (1, .int v1), (2, .int (0 : Int32)), (3, .int (1 : Int32))]) [2, 3, 1, 0] rfl ?_
  refine s_lo2 (σf := fun x2 x3 => s1) (lvf := fun x2 x3 => [(0, rV E (26 + 3 * g)), (1, .int v1), (2, .int x2), (3, .int x3)]) (fun rec4 ih5 x2 x3 => ?_)
  refine s_iload_n dX2_countSets_8 3 rfl rfl ?_
  refine s_aload_n dX2_countSets_9 0 rfl rfl ?_
  refine s_getr (b := 1) gf_X2_18 rfl (mG hF hg) (kG hg) (ft_of (kG hg) rfl) (hF.2 _ _) (rG0 hg) dX2_countSets_10 ?_
  refine s_callVpI (As := []) mf_X3_all vf_X3_all ml_X2_36 (c_X3_all _ E hF s1) (m1 hF) k1 (by decide) rfl rfl rfl rfl (Nat.le_of_ble_eq_true rfl) rfl dX2_countSets_13 (fun r6 => ?_)
  refine s_icmp_gt 44 dX2_countSets_16 (by decide) ?_ ?_
  · skip
    refine s_iload_n dX2_countSets_44 2 rfl rfl ?_
    exact s_ireturn rfl rfl rfl dX2_countSets_45
  · skip
    refine s_iload_n dX2_countSets_19 3 rfl rfl ?_
    refine s_callSpI (As := [.int x3]) mf_J6_bitCount_0f7a4 vf_J6_bitCount_0f7a4 ml_X2_42 (c_J6_bitCount_0f7a4 _ E hF s1 x3) rfl rfl (Nat.le_of_ble_eq_true rfl) rfl dX2_countSets_20 (fun r7 => ?_)
    refine s_iload_n dX2_countSets_23 1 rfl rfl ?_
    refine s_icmp_ne 38 dX2_countSets_24 (by decide) ?_ ?_
    · skip
      refine s_aload_n dX2_countSets_27 0 rfl rfl ?_
      refine s_iload_n dX2_countSets_28 3 rfl rfl ?_
      refine s_callVpI (As := [.int x3]) mf_X2_isSafe vf_X2_isSafe ml_X2_32 (c_X2_isSafe _ E hF s1 g hg x3) (mG hF hg) (kG hg) (by decide) rfl rfl rfl rfl (Nat.le_of_ble_eq_true rfl) rfl dX2_countSets_29 (fun r8 => ?_)
      refine s_if_eq 38 dX2_countSets_32 (by decide) ?_ ?_
      · skip
        refine s_iinc [(3, .int (x3 + 1)), (0, rV E (26 + 3 * g)), (1, .int v1), (2, .int x2)] dX2_countSets_38 3 rfl rfl (by decide) rfl ?_
        refine s_goto 8 dX2_countSets_41 (by decide) ?_
        refine s_sub [1, 2, 3, 0] rfl ?_
        exact ih5 x2 (x3 + 1)
      · skip
        refine s_iinc [(2, .int (x2 + 1)), (0, rV E (26 + 3 * g)), (1, .int v1), (3, .int x3)] dX2_countSets_35 2 rfl rfl (by decide) rfl ?_
        refine s_iinc [(3, .int (x3 + 1)), (2, .int (x2 + 1)), (0, rV E (26 + 3 * g)), (1, .int v1)] dX2_countSets_38 3 rfl rfl (by decide) rfl ?_
        refine s_goto 8 dX2_countSets_41 (by decide) ?_
        refine s_sub [2, 3, 1, 0] rfl ?_
        exact ih5 (x2 + 1) (x3 + 1)
    · skip
      refine s_iinc [(3, .int (x3 + 1)), (0, rV E (26 + 3 * g)), (1, .int v1), (2, .int x2)] dX2_countSets_38 3 rfl rfl (by decide) rfl ?_
      refine s_goto 8 dX2_countSets_41 (by decide) ?_
      refine s_sub [1, 2, 3, 0] rfl ?_
      exact ih5 x2 (x3 + 1)
theorem dX2_leastAnswer_0 : decode cX2_leastAnswer 0 = .ok (.aload_n 0, 1) := by decide +kernel
theorem dX2_leastAnswer_1 : decode cX2_leastAnswer 1 = .ok (.invokevirtual 29, 3) := by decide +kernel
theorem dX2_leastAnswer_4 : decode cX2_leastAnswer 4 = .ok (.iconst 0, 1) := by decide +kernel
theorem dX2_leastAnswer_5 : decode cX2_leastAnswer 5 = .ok (.istore_n 3, 1) := by decide +kernel
theorem dX2_leastAnswer_6 : decode cX2_leastAnswer 6 = .ok (.iload_n 3, 1) := by decide +kernel
theorem dX2_leastAnswer_7 : decode cX2_leastAnswer 7 = .ok (.iconst 4, 1) := by decide +kernel
theorem dX2_leastAnswer_8 : decode cX2_leastAnswer 8 = .ok (.if_icmp .ge 42, 3) := by decide +kernel
theorem dX2_leastAnswer_11 : decode cX2_leastAnswer 11 = .ok (.aload_n 0, 1) := by decide +kernel
theorem dX2_leastAnswer_12 : decode cX2_leastAnswer 12 = .ok (.iload_n 1, 1) := by decide +kernel
theorem dX2_leastAnswer_13 : decode cX2_leastAnswer 13 = .ok (.iload_n 2, 1) := by decide +kernel
theorem dX2_leastAnswer_14 : decode cX2_leastAnswer 14 = .ok (.iload_n 3, 1) := by decide +kernel
theorem dX2_leastAnswer_15 : decode cX2_leastAnswer 15 = .ok (.invokevirtual 48, 3) := by decide +kernel
theorem dX2_leastAnswer_18 : decode cX2_leastAnswer 18 = .ok (.lstore 4, 2) := by decide +kernel
theorem dX2_leastAnswer_20 : decode cX2_leastAnswer 20 = .ok (.lload 4, 2) := by decide +kernel
theorem dX2_leastAnswer_22 : decode cX2_leastAnswer 22 = .ok (.lconst 0, 1) := by decide +kernel
theorem dX2_leastAnswer_23 : decode cX2_leastAnswer 23 = .ok (.lcmp, 1) := by decide +kernel
theorem dX2_leastAnswer_24 : decode cX2_leastAnswer 24 = .ok (.ifCond .eq 20, 3) := by decide +kernel
theorem dX2_leastAnswer_27 : decode cX2_leastAnswer 27 = .ok (.iload_n 3, 1) := by decide +kernel
theorem dX2_leastAnswer_28 : decode cX2_leastAnswer 28 = .ok (.bipush 64, 2) := by decide +kernel
theorem dX2_leastAnswer_30 : decode cX2_leastAnswer 30 = .ok (.imul, 1) := by decide +kernel
theorem dX2_leastAnswer_31 : decode cX2_leastAnswer 31 = .ok (.lload 4, 2) := by decide +kernel
theorem dX2_leastAnswer_33 : decode cX2_leastAnswer 33 = .ok (.lload 4, 2) := by decide +kernel
theorem dX2_leastAnswer_35 : decode cX2_leastAnswer 35 = .ok (.lneg, 1) := by decide +kernel
theorem dX2_leastAnswer_36 : decode cX2_leastAnswer 36 = .ok (.land, 1) := by decide +kernel
theorem dX2_leastAnswer_37 : decode cX2_leastAnswer 37 = .ok (.lconst 1, 1) := by decide +kernel
theorem dX2_leastAnswer_38 : decode cX2_leastAnswer 38 = .ok (.lsub, 1) := by decide +kernel
theorem dX2_leastAnswer_39 : decode cX2_leastAnswer 39 = .ok (.invokestatic 52, 3) := by decide +kernel
theorem dX2_leastAnswer_42 : decode cX2_leastAnswer 42 = .ok (.iadd, 1) := by decide +kernel
theorem dX2_leastAnswer_43 : decode cX2_leastAnswer 43 = .ok (.ireturn, 1) := by decide +kernel
theorem dX2_leastAnswer_44 : decode cX2_leastAnswer 44 = .ok (.iinc 3 1, 3) := by decide +kernel
theorem dX2_leastAnswer_47 : decode cX2_leastAnswer 47 = .ok (.goto (-41), 3) := by decide +kernel
theorem dX2_leastAnswer_50 : decode cX2_leastAnswer 50 = .ok (.iconst (-1), 1) := by decide +kernel
theorem dX2_leastAnswer_51 : decode cX2_leastAnswer 51 = .ok (.ireturn, 1) := by decide +kernel
def f_X2_leastAnswer (σ : St) (g : Nat) (v1 : Int32) (v2 : Int32) : Option (Int32 × St) :=
  cal (f_X2_solve σ g) fun _ s1 =>
    lo1 FU (fun rec3 (x2 : Int32) =>
      (if x2 < (4 : Int32) then
        calP (f_X2_answersIn s1 g v1 v2 x2) fun r5 =>
          (if (lg_cmp r5 (0 : Int64)) = 0 then
            rec3 (x2 + 1)
             else
            calP (f_J13_bitCount_95d88 s1 ((r5 &&& (-r5)) - (1 : Int64))) fun r6 =>
              some (((x2 * (64 : Int32)) + r6), s1))
         else
        some ((-1 : Int32), s1))) (0 : Int32)
set_option maxHeartbeats 4000000 in
set_option maxRecDepth 100000 in
theorem c_X2_leastAnswer (l : Launch) (E : Ev) (hF : Full E) (σ : St) (g : Nat) (hg : g < 2) (v1 : Int32) (v2 : Int32) : Ctr l (en2 enI) (fun q => q.2) E md_X2_leastAnswer [rV E (26 + 3 * g), .int v1, .int v2] σ (f_X2_leastAnswer σ g v1 v2) := by
  refine ctr_of rfl (Nat.le_of_ble_eq_true rfl) (fun Γ => ?_)
  show Sim _ Γ _ E md_X2_leastAnswer σ 0 [(0, rV E (26 + 3 * g)), (1, .int v1), (2, .int v2)] [] _
  unfold f_X2_leastAnswer
  refine s_aload_n dX2_leastAnswer_0 0 rfl rfl ?_
  refine s_callVwV (As := []) mf_X2_solve vf_X2_solve ml_X2_29 (c_X2_solve _ E hF σ g hg) (mG hF hg) (kG hg) (by decide) rfl rfl rfl rfl (Nat.le_of_ble_eq_true rfl) rfl dX2_leastAnswer_1 (fun _ s1 => ?_)
  refine s_iconst (v := 0) dX2_leastAnswer_4 (by decide) ?_
  refine s_istore_n [(3, .int (0 : Int32)), (0, rV E (26 + 3 * g)), (1, .int v1), (2, .int v2)] dX2_leastAnswer_5 rfl (by decide) rfl ?_
  refine s_sub (lv' := [(0, rV E (26 + 3 * g)), (1, .int v1), (2, .int v2), (3, .int (0 : Int32))]) [1, 2, 3, 0] rfl ?_
  refine s_lo1 (σf := fun x2 => s1) (lvf := fun x2 => [(0, rV E (26 + 3 * g)), (1, .int v1), (2, .int v2), (3, .int x2)]) (fun rec3 ih4 x2 => ?_)
  refine s_iload_n dX2_leastAnswer_6 3 rfl rfl ?_
  refine s_iconst (v := 4) dX2_leastAnswer_7 (by decide) ?_
  refine s_icmp_ge 50 dX2_leastAnswer_8 (by decide) ?_ ?_
  · skip
    refine s_aload_n dX2_leastAnswer_11 0 rfl rfl ?_
    refine s_iload_n dX2_leastAnswer_12 1 rfl rfl ?_
    refine s_iload_n dX2_leastAnswer_13 2 rfl rfl ?_
    refine s_iload_n dX2_leastAnswer_14 3 rfl rfl ?_
    refine s_callVpL (As := [.int v1, .int v2, .int x2]) mf_X2_answersIn vf_X2_answersIn ml_X2_48 (c_X2_answersIn _ E hF s1 g hg v1 v2 x2) (mG hF hg) (kG hg) (by decide) rfl rfl rfl rfl (Nat.le_of_ble_eq_true rfl) rfl dX2_leastAnswer_15 (fun r5 => ?_)
    refine s_lstore [(4, .long r5), (0, rV E (26 + 3 * g)), (1, .int v1), (2, .int v2), (3, .int x2)] dX2_leastAnswer_18 (by decide) rfl ?_
    refine s_lload dX2_leastAnswer_20 0 rfl ?_
    refine s_lconst (v := 0) dX2_leastAnswer_22 (by decide) ?_
    refine s_lcmp dX2_leastAnswer_23 ?_
    refine s_if_eq 44 dX2_leastAnswer_24 (by decide) ?_ ?_
    · skip
      refine s_iinc [(3, .int (x2 + 1)), (4, .long r5), (0, rV E (26 + 3 * g)), (1, .int v1), (2, .int v2)] dX2_leastAnswer_44 4 rfl rfl (by decide) rfl ?_
      refine s_goto 6 dX2_leastAnswer_47 (by decide) ?_
      refine s_sub [2, 3, 4, 0] rfl ?_
      exact ih4 (x2 + 1)
    · skip
      refine s_iload_n dX2_leastAnswer_27 4 rfl rfl ?_
      refine s_bipush (v := 64) dX2_leastAnswer_28 (by decide) ?_
      refine s_imul dX2_leastAnswer_30 ?_
      refine s_lload dX2_leastAnswer_31 0 rfl ?_
      refine s_lload dX2_leastAnswer_33 0 rfl ?_
      refine s_lneg dX2_leastAnswer_35 ?_
      refine s_land dX2_leastAnswer_36 ?_
      refine s_lconst (v := 1) dX2_leastAnswer_37 (by decide) ?_
      refine s_lsub dX2_leastAnswer_38 ?_
      refine s_callSpI (As := [.long ((r5 &&& (-r5)) - (1 : Int64))]) mf_J13_bitCount_95d88 vf_J13_bitCount_95d88 ml_X2_52 (c_J13_bitCount_95d88 _ E hF s1 ((r5 &&& (-r5)) - (1 : Int64))) rfl rfl (Nat.le_of_ble_eq_true rfl) rfl dX2_leastAnswer_39 (fun r6 => ?_)
      refine s_iadd dX2_leastAnswer_42 ?_
      exact s_ireturn rfl rfl rfl dX2_leastAnswer_43
  · skip
    refine s_iconst (v := -1) dX2_leastAnswer_50 (by decide) ?_
    exact s_ireturn rfl rfl rfl dX2_leastAnswer_51
theorem dX8_length_0 : decode cX8_length 0 = .ok (.aload_n 0, 1) := by decide +kernel
theorem dX8_length_1 : decode cX8_length 1 = .ok (.getfield 33, 3) := by decide +kernel
theorem dX8_length_4 : decode cX8_length 4 = .ok (.ireturn, 1) := by decide +kernel
def f_X8_length (σ : St) : Option Int32 :=
  some (σ.1 14 7)
set_option maxHeartbeats 4000000 in
set_option maxRecDepth 100000 in
theorem c_X8_length (l : Launch) (E : Ev) (hF : Full E) (σ : St) : Ctr l enI (fun _ => σ) E md_X8_length [rV E 14] σ (f_X8_length σ) := by
  refine ctr_of rfl (Nat.le_of_ble_eq_true rfl) (fun Γ => ?_)
  show Sim _ Γ _ E md_X8_length σ 0 [(0, rV E 14)] [] _
  unfold f_X8_length
  refine s_aload_n dX8_length_0 0 rfl rfl ?_
  refine s_geti gf_X8_33 rfl (m14 hF) k14 (ft_of k14 rfl) dX8_length_1 ?_
  exact s_ireturn rfl rfl rfl dX8_length_4
theorem dX8_parentOf_0 : decode cX8_parentOf 0 = .ok (.iload_n 1, 1) := by decide +kernel
theorem dX8_parentOf_1 : decode cX8_parentOf 1 = .ok (.ifCond .lt 19, 3) := by decide +kernel
theorem dX8_parentOf_4 : decode cX8_parentOf 4 = .ok (.iload_n 1, 1) := by decide +kernel
theorem dX8_parentOf_5 : decode cX8_parentOf 5 = .ok (.sipush 2816, 3) := by decide +kernel
theorem dX8_parentOf_8 : decode cX8_parentOf 8 = .ok (.if_icmp .ge 12, 3) := by decide +kernel
theorem dX8_parentOf_11 : decode cX8_parentOf 11 = .ok (.aload_n 0, 1) := by decide +kernel
theorem dX8_parentOf_12 : decode cX8_parentOf 12 = .ok (.getfield 15, 3) := by decide +kernel
theorem dX8_parentOf_15 : decode cX8_parentOf 15 = .ok (.iload_n 1, 1) := by decide +kernel
theorem dX8_parentOf_16 : decode cX8_parentOf 16 = .ok (.iaload, 1) := by decide +kernel
theorem dX8_parentOf_17 : decode cX8_parentOf 17 = .ok (.goto 4, 3) := by decide +kernel
theorem dX8_parentOf_20 : decode cX8_parentOf 20 = .ok (.iconst (-1), 1) := by decide +kernel
theorem dX8_parentOf_21 : decode cX8_parentOf 21 = .ok (.ireturn, 1) := by decide +kernel
def f_X8_parentOf (σ : St) (v1 : Int32) : Option Int32 :=
  (if v1 < 0 then
    some (-1 : Int32)
     else
    (if v1 < (2816 : Int32) then
      ck v1 2816 <|
        some (σ.1 16 v1.toNatClampNeg)
       else
      some (-1 : Int32)))
set_option maxHeartbeats 4000000 in
set_option maxRecDepth 100000 in
theorem c_X8_parentOf (l : Launch) (E : Ev) (hF : Full E) (σ : St) (v1 : Int32) : Ctr l enI (fun _ => σ) E md_X8_parentOf [rV E 14, .int v1] σ (f_X8_parentOf σ v1) := by
  refine ctr_of rfl (Nat.le_of_ble_eq_true rfl) (fun Γ => ?_)
  show Sim _ Γ _ E md_X8_parentOf σ 0 [(0, rV E 14), (1, .int v1)] [] _
  unfold f_X8_parentOf
  refine s_iload_n dX8_parentOf_0 1 rfl rfl ?_
  refine s_if_lt 20 dX8_parentOf_1 (by decide) ?_ ?_
  · skip
    refine s_iconst (v := -1) dX8_parentOf_20 (by decide) ?_
    exact s_ireturn rfl rfl rfl dX8_parentOf_21
  · skip
    refine s_iload_n dX8_parentOf_4 1 rfl rfl ?_
    refine s_sipush (v := 2816) dX8_parentOf_5 (by decide) ?_
    refine s_icmp_ge 20 dX8_parentOf_8 (by decide) ?_ ?_
    · skip
      refine s_aload_n dX8_parentOf_11 0 rfl rfl ?_
      refine s_getr (b := 16) gf_X8_15 rfl (m14 hF) k14 (ft_of k14 rfl) (hF.2 _ _) rfl dX8_parentOf_12 ?_
      refine s_iload_n dX8_parentOf_15 1 rfl rfl ?_
      refine s_iald (m16 hF) k16 l16 dX8_parentOf_16 ?_
      refine s_goto 21 dX8_parentOf_17 (by decide) ?_
      exact s_ireturn rfl rfl rfl dX8_parentOf_21
    · skip
      refine s_iconst (v := -1) dX8_parentOf_20 (by decide) ?_
      exact s_ireturn rfl rfl rfl dX8_parentOf_21
theorem dX8_settingAt_0 : decode cX8_settingAt 0 = .ok (.iload_n 1, 1) := by decide +kernel
theorem dX8_settingAt_1 : decode cX8_settingAt 1 = .ok (.ifCond .lt 11, 3) := by decide +kernel
theorem dX8_settingAt_4 : decode cX8_settingAt 4 = .ok (.iload_n 1, 1) := by decide +kernel
theorem dX8_settingAt_5 : decode cX8_settingAt 5 = .ok (.aload_n 0, 1) := by decide +kernel
theorem dX8_settingAt_6 : decode cX8_settingAt 6 = .ok (.getfield 33, 3) := by decide +kernel
theorem dX8_settingAt_9 : decode cX8_settingAt 9 = .ok (.if_icmp .le 5, 3) := by decide +kernel
theorem dX8_settingAt_12 : decode cX8_settingAt 12 = .ok (.iconst (-1), 1) := by decide +kernel
theorem dX8_settingAt_13 : decode cX8_settingAt 13 = .ok (.ireturn, 1) := by decide +kernel
theorem dX8_settingAt_14 : decode cX8_settingAt 14 = .ok (.aload_n 0, 1) := by decide +kernel
theorem dX8_settingAt_15 : decode cX8_settingAt 15 = .ok (.getfield 29, 3) := by decide +kernel
theorem dX8_settingAt_18 : decode cX8_settingAt 18 = .ok (.istore_n 2, 1) := by decide +kernel
theorem dX8_settingAt_19 : decode cX8_settingAt 19 = .ok (.aload_n 0, 1) := by decide +kernel
theorem dX8_settingAt_20 : decode cX8_settingAt 20 = .ok (.getfield 33, 3) := by decide +kernel
theorem dX8_settingAt_23 : decode cX8_settingAt 23 = .ok (.istore_n 3, 1) := by decide +kernel
theorem dX8_settingAt_24 : decode cX8_settingAt 24 = .ok (.iload_n 3, 1) := by decide +kernel
theorem dX8_settingAt_25 : decode cX8_settingAt 25 = .ok (.iload_n 1, 1) := by decide +kernel
theorem dX8_settingAt_26 : decode cX8_settingAt 26 = .ok (.if_icmp .le 15, 3) := by decide +kernel
theorem dX8_settingAt_29 : decode cX8_settingAt 29 = .ok (.aload_n 0, 1) := by decide +kernel
theorem dX8_settingAt_30 : decode cX8_settingAt 30 = .ok (.iload_n 2, 1) := by decide +kernel
theorem dX8_settingAt_31 : decode cX8_settingAt 31 = .ok (.invokevirtual 39, 3) := by decide +kernel
theorem dX8_settingAt_34 : decode cX8_settingAt 34 = .ok (.istore_n 2, 1) := by decide +kernel
theorem dX8_settingAt_35 : decode cX8_settingAt 35 = .ok (.iinc 3 (-1), 3) := by decide +kernel
theorem dX8_settingAt_38 : decode cX8_settingAt 38 = .ok (.goto (-14), 3) := by decide +kernel
theorem dX8_settingAt_41 : decode cX8_settingAt 41 = .ok (.iload_n 2, 1) := by decide +kernel
theorem dX8_settingAt_42 : decode cX8_settingAt 42 = .ok (.ifCond .lt 23, 3) := by decide +kernel
theorem dX8_settingAt_45 : decode cX8_settingAt 45 = .ok (.iload_n 2, 1) := by decide +kernel
theorem dX8_settingAt_46 : decode cX8_settingAt 46 = .ok (.sipush 2816, 3) := by decide +kernel
theorem dX8_settingAt_49 : decode cX8_settingAt 49 = .ok (.if_icmp .ge 16, 3) := by decide +kernel
theorem dX8_settingAt_52 : decode cX8_settingAt 52 = .ok (.aload_n 0, 1) := by decide +kernel
theorem dX8_settingAt_53 : decode cX8_settingAt 53 = .ok (.getfield 11, 3) := by decide +kernel
theorem dX8_settingAt_56 : decode cX8_settingAt 56 = .ok (.iload_n 2, 1) := by decide +kernel
theorem dX8_settingAt_57 : decode cX8_settingAt 57 = .ok (.iaload, 1) := by decide +kernel
theorem dX8_settingAt_58 : decode cX8_settingAt 58 = .ok (.sipush 256, 3) := by decide +kernel
theorem dX8_settingAt_61 : decode cX8_settingAt 61 = .ok (.idiv, 1) := by decide +kernel
theorem dX8_settingAt_62 : decode cX8_settingAt 62 = .ok (.goto 4, 3) := by decide +kernel
theorem dX8_settingAt_65 : decode cX8_settingAt 65 = .ok (.iconst (-1), 1) := by decide +kernel
theorem dX8_settingAt_66 : decode cX8_settingAt 66 = .ok (.ireturn, 1) := by decide +kernel
def f_X8_settingAt (σ : St) (v1 : Int32) : Option Int32 :=
  (if v1 < 0 then
    some (-1 : Int32)
     else
    (if (σ.1 14 7) < v1 then
      some (-1 : Int32)
       else
      bd (σ.1 14 6) fun x1 =>
        bd (σ.1 14 7) fun x2 =>
          lo2 FU (fun rec5 (x3 : Int32) (x4 : Int32) =>
            (if v1 < x4 then
              calP (f_X8_parentOf σ x3) fun r7 =>
                rec5 r7 (x4 + (-1))
               else
              (if x3 < 0 then
                some (-1 : Int32)
                 else
                (if x3 < (2816 : Int32) then
                  ck x3 2816 <|
                    some ((σ.1 15 x3.toNatClampNeg) / (256 : Int32))
                   else
                  some (-1 : Int32))))) x1 x2))
set_option maxHeartbeats 4000000 in
set_option maxRecDepth 100000 in
theorem c_X8_settingAt (l : Launch) (E : Ev) (hF : Full E) (σ : St) (v1 : Int32) : Ctr l enI (fun _ => σ) E md_X8_settingAt [rV E 14, .int v1] σ (f_X8_settingAt σ v1) := by
  refine ctr_of rfl (Nat.le_of_ble_eq_true rfl) (fun Γ => ?_)
  show Sim _ Γ _ E md_X8_settingAt σ 0 [(0, rV E 14), (1, .int v1)] [] _
  unfold f_X8_settingAt
  refine s_iload_n dX8_settingAt_0 1 rfl rfl ?_
  refine s_if_lt 12 dX8_settingAt_1 (by decide) ?_ ?_
  · skip
    refine s_iconst (v := -1) dX8_settingAt_12 (by decide) ?_
    exact s_ireturn rfl rfl rfl dX8_settingAt_13
  · skip
    refine s_iload_n dX8_settingAt_4 1 rfl rfl ?_
    refine s_aload_n dX8_settingAt_5 0 rfl rfl ?_
    refine s_geti gf_X8_33 rfl (m14 hF) k14 (ft_of k14 rfl) dX8_settingAt_6 ?_
    refine s_icmp_le 14 dX8_settingAt_9 (by decide) ?_ ?_
    · skip
      refine s_iconst (v := -1) dX8_settingAt_12 (by decide) ?_
      exact s_ireturn rfl rfl rfl dX8_settingAt_13
    · skip
      refine s_aload_n dX8_settingAt_14 0 rfl rfl ?_
      refine s_geti gf_X8_29 rfl (m14 hF) k14 (ft_of k14 rfl) dX8_settingAt_15 ?_
      refine s_istore_nB (fun x1 => [(2, .int x1), (0, rV E 14), (1, .int v1)]) dX8_settingAt_18 rfl (by decide) (fun _ => rfl) (fun x1 => ?_)
      refine s_aload_n dX8_settingAt_19 1 rfl rfl ?_
      refine s_geti gf_X8_33 rfl (m14 hF) k14 (ft_of k14 rfl) dX8_settingAt_20 ?_
      refine s_istore_nB (fun x2 => [(3, .int x2), (2, .int x1), (0, rV E 14), (1, .int v1)]) dX8_settingAt_23 rfl (by decide) (fun _ => rfl) (fun x2 => ?_)
      refine s_sub (lv' := [(0, rV E 14), (1, .int v1), (2, .int x1), (3, .int x2)]) [2, 3, 1, 0] rfl ?_
      refine s_lo2 (σf := fun x3 x4 => σ) (lvf := fun x3 x4 => [(0, rV E 14), (1, .int v1), (2, .int x3), (3, .int x4)]) (fun rec5 ih6 x3 x4 => ?_)
      refine s_iload_n dX8_settingAt_24 3 rfl rfl ?_
      refine s_iload_n dX8_settingAt_25 1 rfl rfl ?_
      refine s_icmp_le 41 dX8_settingAt_26 (by decide) ?_ ?_
      · skip
        refine s_aload_n dX8_settingAt_29 0 rfl rfl ?_
        refine s_iload_n dX8_settingAt_30 2 rfl rfl ?_
        refine s_callVpI (As := [.int x3]) mf_X8_parentOf vf_X8_parentOf ml_X8_39 (c_X8_parentOf _ E hF σ x3) (m14 hF) k14 (by decide) rfl rfl rfl rfl (Nat.le_of_ble_eq_true rfl) rfl dX8_settingAt_31 (fun r7 => ?_)
        refine s_istore_n [(2, .int r7), (0, rV E 14), (1, .int v1), (3, .int x4)] dX8_settingAt_34 rfl (by decide) rfl ?_
        refine s_iinc [(3, .int (x4 + (-1))), (2, .int r7), (0, rV E 14), (1, .int v1)] dX8_settingAt_35 3 rfl rfl (by decide) rfl ?_
        refine s_goto 24 dX8_settingAt_38 (by decide) ?_
        refine s_sub [2, 3, 1, 0] rfl ?_
        exact ih6 r7 (x4 + (-1))
      · skip
        refine s_iload_n dX8_settingAt_41 2 rfl rfl ?_
        refine s_if_lt 65 dX8_settingAt_42 (by decide) ?_ ?_
        · skip
          refine s_iconst (v := -1) dX8_settingAt_65 (by decide) ?_
          exact s_ireturn rfl rfl rfl dX8_settingAt_66
        · skip
          refine s_iload_n dX8_settingAt_45 2 rfl rfl ?_
          refine s_sipush (v := 2816) dX8_settingAt_46 (by decide) ?_
          refine s_icmp_ge 65 dX8_settingAt_49 (by decide) ?_ ?_
          · skip
            refine s_aload_n dX8_settingAt_52 0 rfl rfl ?_
            refine s_getr (b := 15) gf_X8_11 rfl (m14 hF) k14 (ft_of k14 rfl) (hF.2 _ _) rfl dX8_settingAt_53 ?_
            refine s_iload_n dX8_settingAt_56 2 rfl rfl ?_
            refine s_iald (m15 hF) k15 l15 dX8_settingAt_57 ?_
            refine s_sipush (v := 256) dX8_settingAt_58 (by decide) ?_
            refine s_idiv dX8_settingAt_61 (by decide) ?_
            refine s_goto 66 dX8_settingAt_62 (by decide) ?_
            exact s_ireturn rfl rfl rfl dX8_settingAt_66
          · skip
            refine s_iconst (v := -1) dX8_settingAt_65 (by decide) ?_
            exact s_ireturn rfl rfl rfl dX8_settingAt_66
theorem dX8_depthOf_0 : decode cX8_depthOf 0 = .ok (.iconst 0, 1) := by decide +kernel
theorem dX8_depthOf_1 : decode cX8_depthOf 1 = .ok (.istore_n 2, 1) := by decide +kernel
theorem dX8_depthOf_2 : decode cX8_depthOf 2 = .ok (.aload_n 0, 1) := by decide +kernel
theorem dX8_depthOf_3 : decode cX8_depthOf 3 = .ok (.iload_n 1, 1) := by decide +kernel
theorem dX8_depthOf_4 : decode cX8_depthOf 4 = .ok (.invokevirtual 39, 3) := by decide +kernel
theorem dX8_depthOf_7 : decode cX8_depthOf 7 = .ok (.istore_n 3, 1) := by decide +kernel
theorem dX8_depthOf_8 : decode cX8_depthOf 8 = .ok (.iload_n 3, 1) := by decide +kernel
theorem dX8_depthOf_9 : decode cX8_depthOf 9 = .ok (.iconst (-1), 1) := by decide +kernel
theorem dX8_depthOf_10 : decode cX8_depthOf 10 = .ok (.if_icmp .eq 22, 3) := by decide +kernel
theorem dX8_depthOf_13 : decode cX8_depthOf 13 = .ok (.iload_n 2, 1) := by decide +kernel
theorem dX8_depthOf_14 : decode cX8_depthOf 14 = .ok (.sipush 2816, 3) := by decide +kernel
theorem dX8_depthOf_17 : decode cX8_depthOf 17 = .ok (.if_icmp .ge 15, 3) := by decide +kernel
theorem dX8_depthOf_20 : decode cX8_depthOf 20 = .ok (.iinc 2 1, 3) := by decide +kernel
theorem dX8_depthOf_23 : decode cX8_depthOf 23 = .ok (.aload_n 0, 1) := by decide +kernel
theorem dX8_depthOf_24 : decode cX8_depthOf 24 = .ok (.iload_n 3, 1) := by decide +kernel
theorem dX8_depthOf_25 : decode cX8_depthOf 25 = .ok (.invokevirtual 39, 3) := by decide +kernel
theorem dX8_depthOf_28 : decode cX8_depthOf 28 = .ok (.istore_n 3, 1) := by decide +kernel
theorem dX8_depthOf_29 : decode cX8_depthOf 29 = .ok (.goto (-21), 3) := by decide +kernel
theorem dX8_depthOf_32 : decode cX8_depthOf 32 = .ok (.iload_n 2, 1) := by decide +kernel
theorem dX8_depthOf_33 : decode cX8_depthOf 33 = .ok (.ireturn, 1) := by decide +kernel
def f_X8_depthOf (σ : St) (v1 : Int32) : Option Int32 :=
  calP (f_X8_parentOf σ v1) fun r1 =>
    lo2 FU (fun rec4 (x2 : Int32) (x3 : Int32) =>
      (if x3 = (-1 : Int32) then
        some x2
         else
        (if x2 < (2816 : Int32) then
          calP (f_X8_parentOf σ x3) fun r6 =>
            rec4 (x2 + 1) r6
           else
          some x2))) (0 : Int32) r1
set_option maxHeartbeats 4000000 in
set_option maxRecDepth 100000 in
theorem c_X8_depthOf (l : Launch) (E : Ev) (hF : Full E) (σ : St) (v1 : Int32) : Ctr l enI (fun _ => σ) E md_X8_depthOf [rV E 14, .int v1] σ (f_X8_depthOf σ v1) := by
  refine ctr_of rfl (Nat.le_of_ble_eq_true rfl) (fun Γ => ?_)
  show Sim _ Γ _ E md_X8_depthOf σ 0 [(0, rV E 14), (1, .int v1)] [] _
  unfold f_X8_depthOf
  refine s_iconst (v := 0) dX8_depthOf_0 (by decide) ?_
  refine s_istore_n [(2, .int (0 : Int32)), (0, rV E 14), (1, .int v1)] dX8_depthOf_1 rfl (by decide) rfl ?_
  refine s_aload_n dX8_depthOf_2 1 rfl rfl ?_
  refine s_iload_n dX8_depthOf_3 2 rfl rfl ?_
  refine s_callVpI (As := [.int v1]) mf_X8_parentOf vf_X8_parentOf ml_X8_39 (c_X8_parentOf _ E hF σ v1) (m14 hF) k14 (by decide) rfl rfl rfl rfl (Nat.le_of_ble_eq_true rfl) rfl dX8_depthOf_4 (fun r1 => ?_)
  refine s_istore_n [(3, .int r1), (2, .int (0 : Int32)), (0, rV E 14), (1, .int v1)] dX8_depthOf_7 rfl (by decide) rfl ?_
  refine s_sub (lv' := [(0, rV E 14), (2, .int (0 : Int32)), (3, .int r1)]) [2, 1, 0] rfl ?_
  refine s_lo2 (σf := fun x2 x3 => σ) (lvf := fun x2 x3 => [(0, rV E 14), (2, .int x2), (3, .int x3)]) (fun rec4 ih5 x2 x3 => ?_)
  refine s_iload_n dX8_depthOf_8 2 rfl rfl ?_
  refine s_iconst (v := -1) dX8_depthOf_9 (by decide) ?_
  refine s_icmp_eq 32 dX8_depthOf_10 (by decide) ?_ ?_
  · skip
    refine s_iload_n dX8_depthOf_32 1 rfl rfl ?_
    exact s_ireturn rfl rfl rfl dX8_depthOf_33
  · skip
    refine s_iload_n dX8_depthOf_13 1 rfl rfl ?_
    refine s_sipush (v := 2816) dX8_depthOf_14 (by decide) ?_
    refine s_icmp_ge 32 dX8_depthOf_17 (by decide) ?_ ?_
    · skip
      refine s_iinc [(2, .int (x2 + 1)), (0, rV E 14), (3, .int x3)] dX8_depthOf_20 1 rfl rfl (by decide) rfl ?_
      refine s_aload_n dX8_depthOf_23 1 rfl rfl ?_
      refine s_iload_n dX8_depthOf_24 2 rfl rfl ?_
      refine s_callVpI (As := [.int x3]) mf_X8_parentOf vf_X8_parentOf ml_X8_39 (c_X8_parentOf _ E hF σ x3) (m14 hF) k14 (by decide) rfl rfl rfl rfl (Nat.le_of_ble_eq_true rfl) rfl dX8_depthOf_25 (fun r6 => ?_)
      refine s_istore_n [(3, .int r6), (2, .int (x2 + 1)), (0, rV E 14)] dX8_depthOf_28 rfl (by decide) rfl ?_
      refine s_goto 8 dX8_depthOf_29 (by decide) ?_
      refine s_sub [2, 1, 0] rfl ?_
      exact ih5 (x2 + 1) r6
    · skip
      refine s_iload_n dX8_depthOf_32 1 rfl rfl ?_
      exact s_ireturn rfl rfl rfl dX8_depthOf_33
theorem dX8_meet_0 : decode cX8_meet 0 = .ok (.iload_n 1, 1) := by decide +kernel
theorem dX8_meet_1 : decode cX8_meet 1 = .ok (.sipush 256, 3) := by decide +kernel
theorem dX8_meet_4 : decode cX8_meet 4 = .ok (.imul, 1) := by decide +kernel
theorem dX8_meet_5 : decode cX8_meet 5 = .ok (.iload_n 2, 1) := by decide +kernel
theorem dX8_meet_6 : decode cX8_meet 6 = .ok (.iadd, 1) := by decide +kernel
theorem dX8_meet_7 : decode cX8_meet 7 = .ok (.istore 4, 2) := by decide +kernel
theorem dX8_meet_9 : decode cX8_meet 9 = .ok (.iload 4, 2) := by decide +kernel
theorem dX8_meet_11 : decode cX8_meet 11 = .ok (.iconst 5, 1) := by decide +kernel
theorem dX8_meet_12 : decode cX8_meet 12 = .ok (.ishr, 1) := by decide +kernel
theorem dX8_meet_13 : decode cX8_meet 13 = .ok (.istore 5, 2) := by decide +kernel
theorem dX8_meet_15 : decode cX8_meet 15 = .ok (.aload_n 0, 1) := by decide +kernel
theorem dX8_meet_16 : decode cX8_meet 16 = .ok (.getfield 29, 3) := by decide +kernel
theorem dX8_meet_19 : decode cX8_meet 19 = .ok (.iconst (-1), 1) := by decide +kernel
theorem dX8_meet_20 : decode cX8_meet 20 = .ok (.if_icmp .ne 28, 3) := by decide +kernel
theorem dX8_meet_23 : decode cX8_meet 23 = .ok (.aload_n 0, 1) := by decide +kernel
theorem dX8_meet_24 : decode cX8_meet 24 = .ok (.getfield 58, 3) := by decide +kernel
theorem dX8_meet_27 : decode cX8_meet 27 = .ok (.sipush 2816, 3) := by decide +kernel
theorem dX8_meet_30 : decode cX8_meet 30 = .ok (.if_icmp .ge 18, 3) := by decide +kernel
theorem dX8_meet_33 : decode cX8_meet 33 = .ok (.iload 5, 2) := by decide +kernel
theorem dX8_meet_35 : decode cX8_meet 35 = .ok (.ifCond .lt 13, 3) := by decide +kernel
theorem dX8_meet_38 : decode cX8_meet 38 = .ok (.iload 5, 2) := by decide +kernel
theorem dX8_meet_40 : decode cX8_meet 40 = .ok (.aload_n 0, 1) := by decide +kernel
theorem dX8_meet_41 : decode cX8_meet 41 = .ok (.getfield 18, 3) := by decide +kernel
theorem dX8_meet_44 : decode cX8_meet 44 = .ok (.arraylength, 1) := by decide +kernel
theorem dX8_meet_45 : decode cX8_meet 45 = .ok (.if_icmp .lt 4, 3) := by decide +kernel
theorem dX8_meet_48 : decode cX8_meet 48 = .ok (.return_, 1) := by decide +kernel
theorem dX8_meet_49 : decode cX8_meet 49 = .ok (.aload_n 0, 1) := by decide +kernel
theorem dX8_meet_50 : decode cX8_meet 50 = .ok (.getfield 18, 3) := by decide +kernel
theorem dX8_meet_53 : decode cX8_meet 53 = .ok (.iload 5, 2) := by decide +kernel
theorem dX8_meet_55 : decode cX8_meet 55 = .ok (.iaload, 1) := by decide +kernel
theorem dX8_meet_56 : decode cX8_meet 56 = .ok (.iload 4, 2) := by decide +kernel
theorem dX8_meet_58 : decode cX8_meet 58 = .ok (.bipush 31, 2) := by decide +kernel
theorem dX8_meet_60 : decode cX8_meet 60 = .ok (.iand, 1) := by decide +kernel
theorem dX8_meet_61 : decode cX8_meet 61 = .ok (.invokestatic 97, 3) := by decide +kernel
theorem dX8_meet_64 : decode cX8_meet 64 = .ok (.ifCond .eq 4, 3) := by decide +kernel
theorem dX8_meet_67 : decode cX8_meet 67 = .ok (.return_, 1) := by decide +kernel
theorem dX8_meet_68 : decode cX8_meet 68 = .ok (.aload_n 0, 1) := by decide +kernel
theorem dX8_meet_69 : decode cX8_meet 69 = .ok (.getfield 18, 3) := by decide +kernel
theorem dX8_meet_72 : decode cX8_meet 72 = .ok (.iload 5, 2) := by decide +kernel
theorem dX8_meet_74 : decode cX8_meet 74 = .ok (.dup2, 1) := by decide +kernel
theorem dX8_meet_75 : decode cX8_meet 75 = .ok (.iaload, 1) := by decide +kernel
theorem dX8_meet_76 : decode cX8_meet 76 = .ok (.iconst 1, 1) := by decide +kernel
theorem dX8_meet_77 : decode cX8_meet 77 = .ok (.iload 4, 2) := by decide +kernel
theorem dX8_meet_79 : decode cX8_meet 79 = .ok (.bipush 31, 2) := by decide +kernel
theorem dX8_meet_81 : decode cX8_meet 81 = .ok (.iand, 1) := by decide +kernel
theorem dX8_meet_82 : decode cX8_meet 82 = .ok (.ishl, 1) := by decide +kernel
theorem dX8_meet_83 : decode cX8_meet 83 = .ok (.ior, 1) := by decide +kernel
theorem dX8_meet_84 : decode cX8_meet 84 = .ok (.iastore, 1) := by decide +kernel
theorem dX8_meet_85 : decode cX8_meet 85 = .ok (.aload_n 0, 1) := by decide +kernel
theorem dX8_meet_86 : decode cX8_meet 86 = .ok (.getfield 11, 3) := by decide +kernel
theorem dX8_meet_89 : decode cX8_meet 89 = .ok (.aload_n 0, 1) := by decide +kernel
theorem dX8_meet_90 : decode cX8_meet 90 = .ok (.getfield 58, 3) := by decide +kernel
theorem dX8_meet_93 : decode cX8_meet 93 = .ok (.iload 4, 2) := by decide +kernel
theorem dX8_meet_95 : decode cX8_meet 95 = .ok (.iastore, 1) := by decide +kernel
theorem dX8_meet_96 : decode cX8_meet 96 = .ok (.aload_n 0, 1) := by decide +kernel
theorem dX8_meet_97 : decode cX8_meet 97 = .ok (.getfield 15, 3) := by decide +kernel
theorem dX8_meet_100 : decode cX8_meet 100 = .ok (.aload_n 0, 1) := by decide +kernel
theorem dX8_meet_101 : decode cX8_meet 101 = .ok (.getfield 58, 3) := by decide +kernel
theorem dX8_meet_104 : decode cX8_meet 104 = .ok (.iload_n 3, 1) := by decide +kernel
theorem dX8_meet_105 : decode cX8_meet 105 = .ok (.iastore, 1) := by decide +kernel
theorem dX8_meet_106 : decode cX8_meet 106 = .ok (.iload_n 2, 1) := by decide +kernel
theorem dX8_meet_107 : decode cX8_meet 107 = .ok (.ifCond .ne 11, 3) := by decide +kernel
theorem dX8_meet_110 : decode cX8_meet 110 = .ok (.aload_n 0, 1) := by decide +kernel
theorem dX8_meet_111 : decode cX8_meet 111 = .ok (.aload_n 0, 1) := by decide +kernel
theorem dX8_meet_112 : decode cX8_meet 112 = .ok (.getfield 58, 3) := by decide +kernel
theorem dX8_meet_115 : decode cX8_meet 115 = .ok (.putfield 29, 3) := by decide +kernel
theorem dX8_meet_118 : decode cX8_meet 118 = .ok (.aload_n 0, 1) := by decide +kernel
theorem dX8_meet_119 : decode cX8_meet 119 = .ok (.dup, 1) := by decide +kernel
theorem dX8_meet_120 : decode cX8_meet 120 = .ok (.getfield 58, 3) := by decide +kernel
theorem dX8_meet_123 : decode cX8_meet 123 = .ok (.iconst 1, 1) := by decide +kernel
theorem dX8_meet_124 : decode cX8_meet 124 = .ok (.iadd, 1) := by decide +kernel
theorem dX8_meet_125 : decode cX8_meet 125 = .ok (.putfield 58, 3) := by decide +kernel
theorem dX8_meet_128 : decode cX8_meet 128 = .ok (.return_, 1) := by decide +kernel
def f_X8_meet (σ : St) (v1 : Int32) (v2 : Int32) (v3 : Int32) : Option (Unit × St) :=
  bd ((v1 * (256 : Int32)) + v2) fun x1 =>
    bd (x1 >>> ((5 : Int32) &&& 31)) fun x2 =>
      (if (σ.1 14 6) = (-1 : Int32) then
        (if (σ.1 14 5) < (2816 : Int32) then
          (if x2 < 0 then
            some ((), σ)
             else
            (if x2 < (512 : Int32) then
              ck x2 512 <|
                calP (f_X9_has σ (σ.1 17 x2.toNatClampNeg) (x1 &&& (31 : Int32))) fun r3 =>
                  (if r3 = 0 then
                    ck x2 512 <|
                      ck x2 512 <|
                        bd (setI σ 17 x2.toNatClampNeg ((σ.1 17 x2.toNatClampNeg) ||| ((1 : Int32) <<< ((x1 &&& (31 : Int32)) &&& 31)))) fun s4 =>
                          ck (s4.1 14 5) 2816 <|
                            bd (setI s4 15 (s4.1 14 5).toNatClampNeg x1) fun s5 =>
                              ck (s5.1 14 5) 2816 <|
                                bd (setI s5 16 (s5.1 14 5).toNatClampNeg v3) fun s6 =>
                                  jn1 (fun jk8 =>
                                    (if v2 = 0 then
                                      bd (setI s6 14 6 (s6.1 14 5)) fun s10 =>
                                        jk8 s10
                                       else
                                      jk8 s6))
                                    (fun (s7 : St) => 
                                    bd (setI s7 14 5 ((s7.1 14 5) + (1 : Int32))) fun s9 =>
                                        some ((), s9))
                     else
                    some ((), σ))
               else
              some ((), σ)))
           else
          some ((), σ))
         else
        some ((), σ))
set_option maxHeartbeats 4000000 in
set_option maxRecDepth 100000 in
theorem c_X8_meet (l : Launch) (E : Ev) (hF : Full E) (σ : St) (v1 : Int32) (v2 : Int32) (v3 : Int32) : Ctr l (en2 enV) (fun q => q.2) E md_X8_meet [rV E 14, .int v1, .int v2, .int v3] σ (f_X8_meet σ v1 v2 v3) := by
  refine ctr_of rfl (Nat.le_of_ble_eq_true rfl) (fun Γ => ?_)
  show Sim _ Γ _ E md_X8_meet σ 0 [(0, rV E 14), (1, .int v1), (2, .int v2), (3, .int v3)] [] _
  unfold f_X8_meet
  refine s_iload_n dX8_meet_0 1 rfl rfl ?_
  refine s_sipush (v := 256) dX8_meet_1 (by decide) ?_
  refine s_imul dX8_meet_4 ?_
  refine s_iload_n dX8_meet_5 2 rfl rfl ?_
  refine s_iadd dX8_meet_6 ?_
  refine s_istoreB (fun x1 => [(4, .int x1), (0, rV E 14), (1, .int v1), (2, .int v2), (3, .int v3)]) dX8_meet_7 (by decide) (fun _ => rfl) (fun x1 => ?_)
  refine s_iload dX8_meet_9 0 rfl ?_
  refine s_iconst (v := 5) dX8_meet_11 (by decide) ?_
  refine s_ishr dX8_meet_12 ?_
  refine s_istoreB (fun x2 => [(5, .int x2), (4, .int x1), (0, rV E 14), (1, .int v1), (2, .int v2), (3, .int v3)]) dX8_meet_13 (by decide) (fun _ => rfl) (fun x2 => ?_)
  refine s_aload_n dX8_meet_15 2 rfl rfl ?_
  refine s_geti gf_X8_29 rfl (m14 hF) k14 (ft_of k14 rfl) dX8_meet_16 ?_
  refine s_iconst (v := -1) dX8_meet_19 (by decide) ?_
  refine s_icmp_ne 48 dX8_meet_20 (by decide) ?_ ?_
  · skip
    refine s_aload_n dX8_meet_23 2 rfl rfl ?_
    refine s_geti gf_X8_58 rfl (m14 hF) k14 (ft_of k14 rfl) dX8_meet_24 ?_
    refine s_sipush (v := 2816) dX8_meet_27 (by decide) ?_
    refine s_icmp_ge 48 dX8_meet_30 (by decide) ?_ ?_
    · skip
      refine s_iload dX8_meet_33 0 rfl ?_
      refine s_if_lt 48 dX8_meet_35 (by decide) ?_ ?_
      · skip
        exact s_return rfl rfl rfl dX8_meet_48
      · skip
        refine s_iload dX8_meet_38 0 rfl ?_
        refine s_aload_n dX8_meet_40 2 rfl rfl ?_
        refine s_getr (b := 17) gf_X8_18 rfl (m14 hF) k14 (ft_of k14 rfl) (hF.2 _ _) rfl dX8_meet_41 ?_
        refine s_alen (n := 512) (m17 hF) k17 (by decide) (by decide) (by rw [l17]; rfl) dX8_meet_44 ?_
        refine s_icmp_lt 49 dX8_meet_45 (by decide) ?_ ?_
        · skip
          refine s_aload_n dX8_meet_49 2 rfl rfl ?_
          refine s_getr (b := 17) gf_X8_18 rfl (m14 hF) k14 (ft_of k14 rfl) (hF.2 _ _) rfl dX8_meet_50 ?_
          refine s_iload dX8_meet_53 0 rfl ?_
          refine s_iald (m17 hF) k17 l17 dX8_meet_55 ?_
          refine s_iload dX8_meet_56 1 rfl ?_
          refine s_bipush (v := 31) dX8_meet_58 (by decide) ?_
          refine s_iand dX8_meet_60 ?_
          refine s_callNpI (As := [.int (σ.1 17 x2.toNatClampNeg), .int (x1 &&& (31 : Int32))]) (host := "RunnerNet") mf_X9_has vf_X9_has (nl_of 5 rfl) (c_X9_has _ E hF σ (σ.1 17 x2.toNatClampNeg) (x1 &&& (31 : Int32))) rfl rfl (Nat.le_of_ble_eq_true rfl) rfl dX8_meet_61 (fun r3 => ?_)
          refine s_if_eq 68 dX8_meet_64 (by decide) ?_ ?_
          · skip
            refine s_aload_n dX8_meet_68 2 rfl rfl ?_
            refine s_getr (b := 17) gf_X8_18 rfl (m14 hF) k14 (ft_of k14 rfl) (hF.2 _ _) rfl dX8_meet_69 ?_
            refine s_iload dX8_meet_72 0 rfl ?_
            refine s_dup2 dX8_meet_74 rfl rfl ?_
            refine s_iald (m17 hF) k17 l17 dX8_meet_75 ?_
            refine s_iconst (v := 1) dX8_meet_76 (by decide) ?_
            refine s_iload dX8_meet_77 1 rfl ?_
            refine s_bipush (v := 31) dX8_meet_79 (by decide) ?_
            refine s_iand dX8_meet_81 ?_
            refine s_ishl dX8_meet_82 ?_
            refine s_ior dX8_meet_83 ?_
            refine s_iast (m17 hF) k17 l17 dX8_meet_84 (fun s4 => ?_)
            refine s_aload_n dX8_meet_85 2 rfl rfl ?_
            refine s_getr (b := 15) gf_X8_11 rfl (m14 hF) k14 (ft_of k14 rfl) (hF.2 _ _) rfl dX8_meet_86 ?_
            refine s_aload_n dX8_meet_89 2 rfl rfl ?_
            refine s_geti gf_X8_58 rfl (m14 hF) k14 (ft_of k14 rfl) dX8_meet_90 ?_
            refine s_iload dX8_meet_93 1 rfl ?_
            refine s_iast (m15 hF) k15 l15 dX8_meet_95 (fun s5 => ?_)
            refine s_aload_n dX8_meet_96 2 rfl rfl ?_
            refine s_getr (b := 16) gf_X8_15 rfl (m14 hF) k14 (ft_of k14 rfl) (hF.2 _ _) rfl dX8_meet_97 ?_
            refine s_aload_n dX8_meet_100 2 rfl rfl ?_
            refine s_geti gf_X8_58 rfl (m14 hF) k14 (ft_of k14 rfl) dX8_meet_101 ?_
            refine s_iload_n dX8_meet_104 5 rfl rfl ?_
            refine s_iast (m16 hF) k16 l16 dX8_meet_105 (fun s6 => ?_)
            refine s_iload_n dX8_meet_106 4 rfl rfl ?_
            refine s_jn1 118 (fun s7 => s7) (fun s7 => [(0, rV E 14)]) (fun s7 => []) ?_ ?_
            · intro s7
              refine s_aload_n dX8_meet_118 0 rfl rfl ?_
              refine s_dup dX8_meet_119 rfl ?_
              refine s_geti gf_X8_58 rfl (m14 hF) k14 (ft_of k14 rfl) dX8_meet_120 ?_
              refine s_iconst (v := 1) dX8_meet_123 (by decide) ?_
              refine s_iadd dX8_meet_124 ?_
              refine s_puti gf_X8_58 rfl (m14 hF) k14 (ft_of k14 rfl) dX8_meet_125 (fun s9 => ?_)
              exact s_return rfl rfl rfl dX8_meet_128
            · intro jk8 hjk8
              refine s_if_ne 118 dX8_meet_107 (by decide) ?_ ?_
              · skip
                refine s_aload_n dX8_meet_110 2 rfl rfl ?_
                refine s_aload_n dX8_meet_111 2 rfl rfl ?_
                refine s_geti gf_X8_58 rfl (m14 hF) k14 (ft_of k14 rfl) dX8_meet_112 ?_
                refine s_puti gf_X8_29 rfl (m14 hF) k14 (ft_of k14 rfl) dX8_meet_115 (fun s10 => ?_)
                refine s_sub [2] rfl ?_
                exact hjk8 s10
              · skip
                refine s_sub [2] rfl ?_
                exact hjk8 s6
          · skip
            exact s_return rfl rfl rfl dX8_meet_67
        · skip
          exact s_return rfl rfl rfl dX8_meet_48
    · skip
      exact s_return rfl rfl rfl dX8_meet_48
  · skip
    exact s_return rfl rfl rfl dX8_meet_48
theorem dX8_step_0 : decode cX8_step 0 = .ok (.aload_n 0, 1) := by decide +kernel
theorem dX8_step_1 : decode cX8_step 1 = .ok (.iload_n 2, 1) := by decide +kernel
theorem dX8_step_2 : decode cX8_step 2 = .ok (.aload_n 0, 1) := by decide +kernel
theorem dX8_step_3 : decode cX8_step 3 = .ok (.getfield 21, 3) := by decide +kernel
theorem dX8_step_6 : decode cX8_step 6 = .ok (.aload_n 0, 1) := by decide +kernel
theorem dX8_step_7 : decode cX8_step 7 = .ok (.getfield 25, 3) := by decide +kernel
theorem dX8_step_10 : decode cX8_step 10 = .ok (.iload_n 2, 1) := by decide +kernel
theorem dX8_step_11 : decode cX8_step 11 = .ok (.invokevirtual 73, 3) := by decide +kernel
theorem dX8_step_14 : decode cX8_step 14 = .ok (.aload_n 0, 1) := by decide +kernel
theorem dX8_step_15 : decode cX8_step 15 = .ok (.getfield 11, 3) := by decide +kernel
theorem dX8_step_18 : decode cX8_step 18 = .ok (.iload_n 1, 1) := by decide +kernel
theorem dX8_step_19 : decode cX8_step 19 = .ok (.iaload, 1) := by decide +kernel
theorem dX8_step_20 : decode cX8_step 20 = .ok (.sipush 256, 3) := by decide +kernel
theorem dX8_step_23 : decode cX8_step 23 = .ok (.irem, 1) := by decide +kernel
theorem dX8_step_24 : decode cX8_step 24 = .ok (.invokevirtual 105, 3) := by decide +kernel
theorem dX8_step_27 : decode cX8_step 27 = .ok (.iload_n 1, 1) := by decide +kernel
theorem dX8_step_28 : decode cX8_step 28 = .ok (.invokevirtual 76, 3) := by decide +kernel
theorem dX8_step_31 : decode cX8_step 31 = .ok (.return_, 1) := by decide +kernel
def f_X8_step (σ : St) (v1 : Int32) (v2 : Int32) : Option (Unit × St) :=
  ckN (σ.1 14 4).toNatClampNeg 3 <|
    bd (σ.1 14 4).toNatClampNeg fun j1 =>
      calP (f_X6_placesOf σ j1 v2) fun r2 =>
        ck v1 2816 <|
          calP (f_X3_leftBehind σ r2 ((σ.1 15 v1.toNatClampNeg) - (σ.1 15 v1.toNatClampNeg) / (256 : Int32) * (256 : Int32))) fun r3 =>
            cal (f_X8_meet σ v2 r3 v1) fun _ s4 =>
              some ((), s4)
set_option maxHeartbeats 4000000 in
set_option maxRecDepth 100000 in
theorem c_X8_step (l : Launch) (E : Ev) (hF : Full E) (σ : St) (v1 : Int32) (v2 : Int32) : Ctr l (en2 enV) (fun q => q.2) E md_X8_step [rV E 14, .int v1, .int v2] σ (f_X8_step σ v1 v2) := by
  refine ctr_of rfl (Nat.le_of_ble_eq_true rfl) (fun Γ => ?_)
  show Sim _ Γ _ E md_X8_step σ 0 [(0, rV E 14), (1, .int v1), (2, .int v2)] [] _
  unfold f_X8_step
  refine s_aload_n dX8_step_0 0 rfl rfl ?_
  refine s_iload_n dX8_step_1 2 rfl rfl ?_
  refine s_aload_n dX8_step_2 0 rfl rfl ?_
  refine s_getr (b := 1) gf_X8_21 rfl (m14 hF) k14 (ft_of k14 rfl) (hF.2 _ _) rfl dX8_step_3 ?_
  refine s_aload_n dX8_step_6 0 rfl rfl ?_
  refine s_getS gf_X8_25 rfl (m14 hF) k14 (ft_of k14 rfl) (hF.2 _ _) dX8_step_7 (fun j1 hj1 => ?_)
  refine s_iload_n dX8_step_10 2 rfl rfl ?_
  refine s_callVpI (As := [.int v2]) mf_X6_placesOf vf_X6_placesOf ml_X8_73 (c_X6_placesOf _ E hF σ j1 hj1 v2) (mS hF hj1) (kS hj1) (by decide) rfl rfl rfl rfl (Nat.le_of_ble_eq_true rfl) rfl dX8_step_11 (fun r2 => ?_)
  refine s_aload_n dX8_step_14 0 rfl rfl ?_
  refine s_getr (b := 15) gf_X8_11 rfl (m14 hF) k14 (ft_of k14 rfl) (hF.2 _ _) rfl dX8_step_15 ?_
  refine s_iload_n dX8_step_18 1 rfl rfl ?_
  refine s_iald (m15 hF) k15 l15 dX8_step_19 ?_
  refine s_sipush (v := 256) dX8_step_20 (by decide) ?_
  refine s_irem dX8_step_23 (by decide) ?_
  refine s_callVpI (As := [.int r2, .int ((σ.1 15 v1.toNatClampNeg) - (σ.1 15 v1.toNatClampNeg) / (256 : Int32) * (256 : Int32))]) mf_X3_leftBehind vf_X3_leftBehind ml_X8_105 (c_X3_leftBehind _ E hF σ r2 ((σ.1 15 v1.toNatClampNeg) - (σ.1 15 v1.toNatClampNeg) / (256 : Int32) * (256 : Int32))) (m1 hF) k1 (by decide) rfl rfl rfl rfl (Nat.le_of_ble_eq_true rfl) rfl dX8_step_24 (fun r3 => ?_)
  refine s_iload_n dX8_step_27 1 rfl rfl ?_
  refine s_callVwV (As := [.int v2, .int r3, .int v1]) mf_X8_meet vf_X8_meet ml_X8_76 (c_X8_meet _ E hF σ v2 r3 v1) (m14 hF) k14 (by decide) rfl rfl rfl rfl (Nat.le_of_ble_eq_true rfl) rfl dX8_step_28 (fun _ s4 => ?_)
  exact s_return rfl rfl rfl dX8_step_31
theorem dX8_expand_0 : decode cX8_expand 0 = .ok (.aload_n 0, 1) := by decide +kernel
theorem dX8_expand_1 : decode cX8_expand 1 = .ok (.getfield 11, 3) := by decide +kernel
theorem dX8_expand_4 : decode cX8_expand 4 = .ok (.iload_n 1, 1) := by decide +kernel
theorem dX8_expand_5 : decode cX8_expand 5 = .ok (.iaload, 1) := by decide +kernel
theorem dX8_expand_6 : decode cX8_expand 6 = .ok (.sipush 256, 3) := by decide +kernel
theorem dX8_expand_9 : decode cX8_expand 9 = .ok (.idiv, 1) := by decide +kernel
theorem dX8_expand_10 : decode cX8_expand 10 = .ok (.istore_n 2, 1) := by decide +kernel
theorem dX8_expand_11 : decode cX8_expand 11 = .ok (.aload_n 0, 1) := by decide +kernel
theorem dX8_expand_12 : decode cX8_expand 12 = .ok (.getfield 21, 3) := by decide +kernel
theorem dX8_expand_15 : decode cX8_expand 15 = .ok (.aload_n 0, 1) := by decide +kernel
theorem dX8_expand_16 : decode cX8_expand 16 = .ok (.getfield 25, 3) := by decide +kernel
theorem dX8_expand_19 : decode cX8_expand 19 = .ok (.iload_n 2, 1) := by decide +kernel
theorem dX8_expand_20 : decode cX8_expand 20 = .ok (.iconst 0, 1) := by decide +kernel
theorem dX8_expand_21 : decode cX8_expand 21 = .ok (.invokevirtual 87, 3) := by decide +kernel
theorem dX8_expand_24 : decode cX8_expand 24 = .ok (.invokevirtual 91, 3) := by decide +kernel
theorem dX8_expand_27 : decode cX8_expand 27 = .ok (.istore_n 3, 1) := by decide +kernel
theorem dX8_expand_28 : decode cX8_expand 28 = .ok (.aload_n 0, 1) := by decide +kernel
theorem dX8_expand_29 : decode cX8_expand 29 = .ok (.getfield 25, 3) := by decide +kernel
theorem dX8_expand_32 : decode cX8_expand 32 = .ok (.invokevirtual 94, 3) := by decide +kernel
theorem dX8_expand_35 : decode cX8_expand 35 = .ok (.iconst 1, 1) := by decide +kernel
theorem dX8_expand_36 : decode cX8_expand 36 = .ok (.if_icmp .ne 36, 3) := by decide +kernel
theorem dX8_expand_39 : decode cX8_expand 39 = .ok (.iconst 0, 1) := by decide +kernel
theorem dX8_expand_40 : decode cX8_expand 40 = .ok (.istore 4, 2) := by decide +kernel
theorem dX8_expand_42 : decode cX8_expand 42 = .ok (.iload 4, 2) := by decide +kernel
theorem dX8_expand_44 : decode cX8_expand 44 = .ok (.bipush 8, 2) := by decide +kernel
theorem dX8_expand_46 : decode cX8_expand 46 = .ok (.if_icmp .ge 25, 3) := by decide +kernel
theorem dX8_expand_49 : decode cX8_expand 49 = .ok (.iload_n 3, 1) := by decide +kernel
theorem dX8_expand_50 : decode cX8_expand 50 = .ok (.iload 4, 2) := by decide +kernel
theorem dX8_expand_52 : decode cX8_expand 52 = .ok (.invokestatic 97, 3) := by decide +kernel
theorem dX8_expand_55 : decode cX8_expand 55 = .ok (.ifCond .eq 10, 3) := by decide +kernel
theorem dX8_expand_58 : decode cX8_expand 58 = .ok (.aload_n 0, 1) := by decide +kernel
theorem dX8_expand_59 : decode cX8_expand 59 = .ok (.iload_n 1, 1) := by decide +kernel
theorem dX8_expand_60 : decode cX8_expand 60 = .ok (.iload 4, 2) := by decide +kernel
theorem dX8_expand_62 : decode cX8_expand 62 = .ok (.invokevirtual 101, 3) := by decide +kernel
theorem dX8_expand_65 : decode cX8_expand 65 = .ok (.iinc 4 1, 3) := by decide +kernel
theorem dX8_expand_68 : decode cX8_expand 68 = .ok (.goto (-26), 3) := by decide +kernel
theorem dX8_expand_71 : decode cX8_expand 71 = .ok (.return_, 1) := by decide +kernel
theorem dX8_expand_72 : decode cX8_expand 72 = .ok (.aload_n 0, 1) := by decide +kernel
theorem dX8_expand_73 : decode cX8_expand 73 = .ok (.getfield 21, 3) := by decide +kernel
theorem dX8_expand_76 : decode cX8_expand 76 = .ok (.aload_n 0, 1) := by decide +kernel
theorem dX8_expand_77 : decode cX8_expand 77 = .ok (.getfield 25, 3) := by decide +kernel
theorem dX8_expand_80 : decode cX8_expand 80 = .ok (.iload_n 2, 1) := by decide +kernel
theorem dX8_expand_81 : decode cX8_expand 81 = .ok (.iconst 1, 1) := by decide +kernel
theorem dX8_expand_82 : decode cX8_expand 82 = .ok (.invokevirtual 87, 3) := by decide +kernel
theorem dX8_expand_85 : decode cX8_expand 85 = .ok (.invokevirtual 91, 3) := by decide +kernel
theorem dX8_expand_88 : decode cX8_expand 88 = .ok (.istore 4, 2) := by decide +kernel
theorem dX8_expand_90 : decode cX8_expand 90 = .ok (.iconst 0, 1) := by decide +kernel
theorem dX8_expand_91 : decode cX8_expand 91 = .ok (.istore 5, 2) := by decide +kernel
theorem dX8_expand_93 : decode cX8_expand 93 = .ok (.iload 5, 2) := by decide +kernel
theorem dX8_expand_95 : decode cX8_expand 95 = .ok (.bipush 8, 2) := by decide +kernel
theorem dX8_expand_97 : decode cX8_expand 97 = .ok (.if_icmp .ge 81, 3) := by decide +kernel
theorem dX8_expand_100 : decode cX8_expand 100 = .ok (.iload_n 3, 1) := by decide +kernel
theorem dX8_expand_101 : decode cX8_expand 101 = .ok (.iload 5, 2) := by decide +kernel
theorem dX8_expand_103 : decode cX8_expand 103 = .ok (.invokestatic 97, 3) := by decide +kernel
theorem dX8_expand_106 : decode cX8_expand 106 = .ok (.ifCond .eq 8, 3) := by decide +kernel
theorem dX8_expand_109 : decode cX8_expand 109 = .ok (.iload 4, 2) := by decide +kernel
theorem dX8_expand_111 : decode cX8_expand 111 = .ok (.goto 4, 3) := by decide +kernel
theorem dX8_expand_114 : decode cX8_expand 114 = .ok (.iconst 0, 1) := by decide +kernel
theorem dX8_expand_115 : decode cX8_expand 115 = .ok (.iload 4, 2) := by decide +kernel
theorem dX8_expand_117 : decode cX8_expand 117 = .ok (.iload 5, 2) := by decide +kernel
theorem dX8_expand_119 : decode cX8_expand 119 = .ok (.invokestatic 97, 3) := by decide +kernel
theorem dX8_expand_122 : decode cX8_expand 122 = .ok (.ifCond .eq 7, 3) := by decide +kernel
theorem dX8_expand_125 : decode cX8_expand 125 = .ok (.iload_n 3, 1) := by decide +kernel
theorem dX8_expand_126 : decode cX8_expand 126 = .ok (.goto 4, 3) := by decide +kernel
theorem dX8_expand_129 : decode cX8_expand 129 = .ok (.iconst 0, 1) := by decide +kernel
theorem dX8_expand_130 : decode cX8_expand 130 = .ok (.ior, 1) := by decide +kernel
theorem dX8_expand_131 : decode cX8_expand 131 = .ok (.istore 6, 2) := by decide +kernel
theorem dX8_expand_133 : decode cX8_expand 133 = .ok (.iload 5, 2) := by decide +kernel
theorem dX8_expand_135 : decode cX8_expand 135 = .ok (.istore 7, 2) := by decide +kernel
theorem dX8_expand_137 : decode cX8_expand 137 = .ok (.iload 7, 2) := by decide +kernel
theorem dX8_expand_139 : decode cX8_expand 139 = .ok (.bipush 8, 2) := by decide +kernel
theorem dX8_expand_141 : decode cX8_expand 141 = .ok (.if_icmp .ge 31, 3) := by decide +kernel
theorem dX8_expand_144 : decode cX8_expand 144 = .ok (.iload 6, 2) := by decide +kernel
theorem dX8_expand_146 : decode cX8_expand 146 = .ok (.iload 7, 2) := by decide +kernel
theorem dX8_expand_148 : decode cX8_expand 148 = .ok (.invokestatic 97, 3) := by decide +kernel
theorem dX8_expand_151 : decode cX8_expand 151 = .ok (.ifCond .eq 15, 3) := by decide +kernel
theorem dX8_expand_154 : decode cX8_expand 154 = .ok (.aload_n 0, 1) := by decide +kernel
theorem dX8_expand_155 : decode cX8_expand 155 = .ok (.iload_n 1, 1) := by decide +kernel
theorem dX8_expand_156 : decode cX8_expand 156 = .ok (.iload 5, 2) := by decide +kernel
theorem dX8_expand_158 : decode cX8_expand 158 = .ok (.iconst 3, 1) := by decide +kernel
theorem dX8_expand_159 : decode cX8_expand 159 = .ok (.ishl, 1) := by decide +kernel
theorem dX8_expand_160 : decode cX8_expand 160 = .ok (.iload 7, 2) := by decide +kernel
theorem dX8_expand_162 : decode cX8_expand 162 = .ok (.ior, 1) := by decide +kernel
theorem dX8_expand_163 : decode cX8_expand 163 = .ok (.invokevirtual 101, 3) := by decide +kernel
theorem dX8_expand_166 : decode cX8_expand 166 = .ok (.iinc 7 1, 3) := by decide +kernel
theorem dX8_expand_169 : decode cX8_expand 169 = .ok (.goto (-32), 3) := by decide +kernel
theorem dX8_expand_172 : decode cX8_expand 172 = .ok (.iinc 5 1, 3) := by decide +kernel
theorem dX8_expand_175 : decode cX8_expand 175 = .ok (.goto (-82), 3) := by decide +kernel
theorem dX8_expand_178 : decode cX8_expand 178 = .ok (.return_, 1) := by decide +kernel
def f_X8_expand (σ : St) (v1 : Int32) : Option (Unit × St) :=
  ck v1 2816 <|
    bd ((σ.1 15 v1.toNatClampNeg) / (256 : Int32)) fun x1 =>
      ckN (σ.1 14 4).toNatClampNeg 3 <|
        bd (σ.1 14 4).toNatClampNeg fun j2 =>
          calP (f_X6_figure σ j2 x1 (0 : Int32)) fun r3 =>
            calP (f_X3_outOf σ r3) fun r4 =>
              ckN (σ.1 14 4).toNatClampNeg 3 <|
                bd (σ.1 14 4).toNatClampNeg fun j5 =>
                  calP (f_X6_hunters σ j5) fun r6 =>
                    (if r6 = (1 : Int32) then
                      lo2 FU (fun rec9 (s7 : St) (x8 : Int32) =>
                        (if x8 < (8 : Int32) then
                          calP (f_X9_has s7 r4 x8) fun r11 =>
                            (if r11 = 0 then
                              rec9 s7 (x8 + 1)
                               else
                              cal (f_X8_step s7 v1 x8) fun _ s12 =>
                                rec9 s12 (x8 + 1))
                           else
                          some ((), s7))) σ (0 : Int32)
                       else
                      ckN (σ.1 14 4).toNatClampNeg 3 <|
                        bd (σ.1 14 4).toNatClampNeg fun j13 =>
                          calP (f_X6_figure σ j13 x1 (1 : Int32)) fun r14 =>
                            calP (f_X3_outOf σ r14) fun r15 =>
                              lo2 FU (fun rec18 (s16 : St) (x17 : Int32) =>
                                (if x17 < (8 : Int32) then
                                  calP (f_X9_has s16 r4 x17) fun r20 =>
                                    bd (if r20 = 0 then (0 : Int32) else r15) fun x21 =>
                                      calP (f_X9_has s16 r15 x17) fun r23 =>
                                        bd (if r23 = 0 then (0 : Int32) else r4) fun x24 =>
                                          bd (x21 ||| x24) fun x26 =>
                                            lo2 FU (fun rec29 (s27 : St) (x28 : Int32) =>
                                              (if x28 < (8 : Int32) then
                                                calP (f_X9_has s27 x26 x28) fun r31 =>
                                                  (if r31 = 0 then
                                                    rec29 s27 (x28 + 1)
                                                     else
                                                    cal (f_X8_step s27 v1 ((x17 <<< ((3 : Int32) &&& 31)) ||| x28)) fun _ s32 =>
                                                      rec29 s32 (x28 + 1))
                                                 else
                                                rec18 s27 (x17 + 1))) s16 x17
                                   else
                                  some ((), s16))) σ (0 : Int32))
set_option maxHeartbeats 4000000 in
set_option maxRecDepth 100000 in
theorem c_X8_expand (l : Launch) (E : Ev) (hF : Full E) (σ : St) (v1 : Int32) : Ctr l (en2 enV) (fun q => q.2) E md_X8_expand [rV E 14, .int v1] σ (f_X8_expand σ v1) := by
  refine ctr_of rfl (Nat.le_of_ble_eq_true rfl) (fun Γ => ?_)
  show Sim _ Γ _ E md_X8_expand σ 0 [(0, rV E 14), (1, .int v1)] [] _
  unfold f_X8_expand
  refine s_aload_n dX8_expand_0 0 rfl rfl ?_
  refine s_getr (b := 15) gf_X8_11 rfl (m14 hF) k14 (ft_of k14 rfl) (hF.2 _ _) rfl dX8_expand_1 ?_
  refine s_iload_n dX8_expand_4 1 rfl rfl ?_
  refine s_iald (m15 hF) k15 l15 dX8_expand_5 ?_
  refine s_sipush (v := 256) dX8_expand_6 (by decide) ?_
  refine s_idiv dX8_expand_9 (by decide) ?_
  refine s_istore_nB (fun x1 => [(2, .int x1), (0, rV E 14), (1, .int v1)]) dX8_expand_10 rfl (by decide) (fun _ => rfl) (fun x1 => ?_)
  refine s_aload_n dX8_expand_11 1 rfl rfl ?_
  refine s_getr (b := 1) gf_X8_21 rfl (m14 hF) k14 (ft_of k14 rfl) (hF.2 _ _) rfl dX8_expand_12 ?_
  refine s_aload_n dX8_expand_15 1 rfl rfl ?_
  refine s_getS gf_X8_25 rfl (m14 hF) k14 (ft_of k14 rfl) (hF.2 _ _) dX8_expand_16 (fun j2 hj2 => ?_)
  refine s_iload_n dX8_expand_19 0 rfl rfl ?_
  refine s_iconst (v := 0) dX8_expand_20 (by decide) ?_
  refine s_callVpI (As := [.int x1, .int (0 : Int32)]) mf_X6_figure vf_X6_figure ml_X8_87 (c_X6_figure _ E hF σ j2 hj2 x1 (0 : Int32)) (mS hF hj2) (kS hj2) (by decide) rfl rfl rfl rfl (Nat.le_of_ble_eq_true rfl) rfl dX8_expand_21 (fun r3 => ?_)
  refine s_callVpI (As := [.int r3]) mf_X3_outOf vf_X3_outOf ml_X8_91 (c_X3_outOf _ E hF σ r3) (m1 hF) k1 (by decide) rfl rfl rfl rfl (Nat.le_of_ble_eq_true rfl) rfl dX8_expand_24 (fun r4 => ?_)
  refine s_istore_n [(3, .int r4), (2, .int x1), (0, rV E 14), (1, .int v1)] dX8_expand_27 rfl (by decide) rfl ?_
  refine s_aload_n dX8_expand_28 2 rfl rfl ?_
  refine s_getS gf_X8_25 rfl (m14 hF) k14 (ft_of k14 rfl) (hF.2 _ _) dX8_expand_29 (fun j5 hj5 => ?_)
  refine s_callVpI (As := []) mf_X6_hunters vf_X6_hunters ml_X8_94 (c_X6_hunters _ E hF σ j5 hj5) (mS hF hj5) (kS hj5) (by decide) rfl rfl rfl rfl (Nat.le_of_ble_eq_true rfl) rfl dX8_expand_32 (fun r6 => ?_)
  refine s_iconst (v := 1) dX8_expand_35 (by decide) ?_
  refine s_icmp_ne 72 dX8_expand_36 (by decide) ?_ ?_
  · skip
    refine s_iconst (v := 0) dX8_expand_39 (by decide) ?_
    refine s_istore [(4, .int (0 : Int32)), (3, .int r4), (2, .int x1), (0, rV E 14), (1, .int v1)] dX8_expand_40 (by decide) rfl ?_
    refine s_sub (lv' := [(0, rV E 14), (1, .int v1), (3, .int r4), (4, .int (0 : Int32))]) [3, 4, 1, 0] rfl ?_
    refine s_lo2 (σf := fun s7 x8 => s7) (lvf := fun s7 x8 => [(0, rV E 14), (1, .int v1), (3, .int r4), (4, .int x8)]) (fun rec9 ih10 s7 x8 => ?_)
    refine s_iload dX8_expand_42 3 rfl ?_
    refine s_bipush (v := 8) dX8_expand_44 (by decide) ?_
    refine s_icmp_ge 71 dX8_expand_46 (by decide) ?_ ?_
    · skip
      refine s_iload_n dX8_expand_49 2 rfl rfl ?_
      refine s_iload dX8_expand_50 3 rfl ?_
      refine s_callNpI (As := [.int r4, .int x8]) (host := "RunnerNet") mf_X9_has vf_X9_has (nl_of 5 rfl) (c_X9_has _ E hF s7 r4 x8) rfl rfl (Nat.le_of_ble_eq_true rfl) rfl dX8_expand_52 (fun r11 => ?_)
      refine s_if_eq 65 dX8_expand_55 (by decide) ?_ ?_
      · skip
        refine s_iinc [(4, .int (x8 + 1)), (0, rV E 14), (1, .int v1), (3, .int r4)] dX8_expand_65 3 rfl rfl (by decide) rfl ?_
        refine s_goto 42 dX8_expand_68 (by decide) ?_
        refine s_sub [1, 2, 3, 0] rfl ?_
        exact ih10 s7 (x8 + 1)
      · skip
        refine s_aload_n dX8_expand_58 0 rfl rfl ?_
        refine s_iload_n dX8_expand_59 1 rfl rfl ?_
        refine s_iload dX8_expand_60 3 rfl ?_
        refine s_callVwV (As := [.int v1, .int x8]) mf_X8_step vf_X8_step ml_X8_101 (c_X8_step _ E hF s7 v1 x8) (m14 hF) k14 (by decide) rfl rfl rfl rfl (Nat.le_of_ble_eq_true rfl) rfl dX8_expand_62 (fun _ s12 => ?_)
        refine s_iinc [(4, .int (x8 + 1)), (0, rV E 14), (1, .int v1), (3, .int r4)] dX8_expand_65 3 rfl rfl (by decide) rfl ?_
        refine s_goto 42 dX8_expand_68 (by decide) ?_
        refine s_sub [1, 2, 3, 0] rfl ?_
        exact ih10 s12 (x8 + 1)
    · skip
      exact s_return rfl rfl rfl dX8_expand_71
  · skip
    refine s_aload_n dX8_expand_72 2 rfl rfl ?_
    refine s_getr (b := 1) gf_X8_21 rfl (m14 hF) k14 (ft_of k14 rfl) (hF.2 _ _) rfl dX8_expand_73 ?_
    refine s_aload_n dX8_expand_76 2 rfl rfl ?_
    refine s_getS gf_X8_25 rfl (m14 hF) k14 (ft_of k14 rfl) (hF.2 _ _) dX8_expand_77 (fun j13 hj13 => ?_)
    refine s_iload_n dX8_expand_80 1 rfl rfl ?_
    refine s_iconst (v := 1) dX8_expand_81 (by decide) ?_
    refine s_callVpI (As := [.int x1, .int (1 : Int32)]) mf_X6_figure vf_X6_figure ml_X8_87 (c_X6_figure _ E hF σ j13 hj13 x1 (1 : Int32)) (mS hF hj13) (kS hj13) (by decide) rfl rfl rfl rfl (Nat.le_of_ble_eq_true rfl) rfl dX8_expand_82 (fun r14 => ?_)
    refine s_callVpI (As := [.int r14]) mf_X3_outOf vf_X3_outOf ml_X8_91 (c_X3_outOf _ E hF σ r14) (m1 hF) k1 (by decide) rfl rfl rfl rfl (Nat.le_of_ble_eq_true rfl) rfl dX8_expand_85 (fun r15 => ?_)
    refine s_istore [(4, .int r15), (3, .int r4), (2, .int x1), (0, rV E 14), (1, .int v1)] dX8_expand_88 (by decide) rfl ?_
    refine s_iconst (v := 0) dX8_expand_90 (by decide) ?_
    refine s_istore [(5, .int (0 : Int32)), (4, .int r15), (3, .int r4), (2, .int x1), (0, rV E 14), (1, .int v1)] dX8_expand_91 (by decide) rfl ?_
    refine s_sub (lv' := [(0, rV E 14), (1, .int v1), (3, .int r4), (4, .int r15), (5, .int (0 : Int32))]) [4, 5, 2, 1, 0] rfl ?_
    refine s_lo2 (σf := fun s16 x17 => s16) (lvf := fun s16 x17 => [(0, rV E 14), (1, .int v1), (3, .int r4), (4, .int r15), (5, .int x17)]) (fun rec18 ih19 s16 x17 => ?_)
    refine s_iload dX8_expand_93 4 rfl ?_
    refine s_bipush (v := 8) dX8_expand_95 (by decide) ?_
    refine s_icmp_ge 178 dX8_expand_97 (by decide) ?_ ?_
    · skip
      refine s_iload_n dX8_expand_100 2 rfl rfl ?_
      refine s_iload dX8_expand_101 4 rfl ?_
      refine s_callNpI (As := [.int r4, .int x17]) (host := "RunnerNet") mf_X9_has vf_X9_has (nl_of 5 rfl) (c_X9_has _ E hF s16 r4 x17) rfl rfl (Nat.le_of_ble_eq_true rfl) rfl dX8_expand_103 (fun r20 => ?_)
      refine s_bd 115 (fun x21 => [(0, rV E 14), (1, .int v1), (3, .int r4), (4, .int r15), (5, .int x17)]) (fun x21 => [.int x21]) (fun jk22 => (if r20 = 0 then jk22 (0 : Int32) else jk22 r15)) (fun jk22 => (j_ite rfl rfl)) ?_ ?_
      · intro x21
        refine s_iload dX8_expand_115 3 rfl ?_
        refine s_iload dX8_expand_117 4 rfl ?_
        refine s_callNpI (As := [.int r15, .int x17]) (host := "RunnerNet") mf_X9_has vf_X9_has (nl_of 5 rfl) (c_X9_has _ E hF s16 r15 x17) rfl rfl (Nat.le_of_ble_eq_true rfl) rfl dX8_expand_119 (fun r23 => ?_)
        refine s_bd 130 (fun x24 => [(0, rV E 14), (1, .int v1), (3, .int r4), (4, .int r15), (5, .int x17)]) (fun x24 => [.int x24, .int x21]) (fun jk25 => (if r23 = 0 then jk25 (0 : Int32) else jk25 r4)) (fun jk25 => (j_ite rfl rfl)) ?_ ?_
        · intro x24
          refine s_ior dX8_expand_130 ?_
          refine s_istoreB (fun x26 => [(6, .int x26), (0, rV E 14), (1, .int v1), (3, .int r4), (4, .int r15), (5, .int x17)]) dX8_expand_131 (by decide) (fun _ => rfl) (fun x26 => ?_)
          refine s_iload dX8_expand_133 5 rfl ?_
          refine s_istore [(7, .int x17), (6, .int x26), (0, rV E 14), (1, .int v1), (3, .int r4), (4, .int r15), (5, .int x17)] dX8_expand_135 (by decide) rfl ?_
          refine s_sub (lv' := [(0, rV E 14), (1, .int v1), (3, .int r4), (4, .int r15), (5, .int x17), (6, .int x26), (7, .int x17)]) [2, 3, 4, 5, 6, 1, 0] rfl ?_
          refine s_lo2 (σf := fun s27 x28 => s27) (lvf := fun s27 x28 => [(0, rV E 14), (1, .int v1), (3, .int r4), (4, .int r15), (5, .int x17), (6, .int x26), (7, .int x28)]) (fun rec29 ih30 s27 x28 => ?_)
          refine s_iload dX8_expand_137 6 rfl ?_
          refine s_bipush (v := 8) dX8_expand_139 (by decide) ?_
          refine s_icmp_ge 172 dX8_expand_141 (by decide) ?_ ?_
          · skip
            refine s_iload dX8_expand_144 5 rfl ?_
            refine s_iload dX8_expand_146 6 rfl ?_
            refine s_callNpI (As := [.int x26, .int x28]) (host := "RunnerNet") mf_X9_has vf_X9_has (nl_of 5 rfl) (c_X9_has _ E hF s27 x26 x28) rfl rfl (Nat.le_of_ble_eq_true rfl) rfl dX8_expand_148 (fun r31 => ?_)
            refine s_if_eq 166 dX8_expand_151 (by decide) ?_ ?_
            · skip
              refine s_iinc [(7, .int (x28 + 1)), (0, rV E 14), (1, .int v1), (3, .int r4), (4, .int r15), (5, .int x17), (6, .int x26)] dX8_expand_166 6 rfl rfl (by decide) rfl ?_
              refine s_goto 137 dX8_expand_169 (by decide) ?_
              refine s_sub [1, 2, 3, 4, 5, 6, 0] rfl ?_
              exact ih30 s27 (x28 + 1)
            · skip
              refine s_aload_n dX8_expand_154 0 rfl rfl ?_
              refine s_iload_n dX8_expand_155 1 rfl rfl ?_
              refine s_iload dX8_expand_156 4 rfl ?_
              refine s_iconst (v := 3) dX8_expand_158 (by decide) ?_
              refine s_ishl dX8_expand_159 ?_
              refine s_iload dX8_expand_160 6 rfl ?_
              refine s_ior dX8_expand_162 ?_
              refine s_callVwV (As := [.int v1, .int ((x17 <<< ((3 : Int32) &&& 31)) ||| x28)]) mf_X8_step vf_X8_step ml_X8_101 (c_X8_step _ E hF s27 v1 ((x17 <<< ((3 : Int32) &&& 31)) ||| x28)) (m14 hF) k14 (by decide) rfl rfl rfl rfl (Nat.le_of_ble_eq_true rfl) rfl dX8_expand_163 (fun _ s32 => ?_)
              refine s_iinc [(7, .int (x28 + 1)), (0, rV E 14), (1, .int v1), (3, .int r4), (4, .int r15), (5, .int x17), (6, .int x26)] dX8_expand_166 6 rfl rfl (by decide) rfl ?_
              refine s_goto 137 dX8_expand_169 (by decide) ?_
              refine s_sub [1, 2, 3, 4, 5, 6, 0] rfl ?_
              exact ih30 s32 (x28 + 1)
          · skip
            refine s_iinc [(5, .int (x17 + 1)), (0, rV E 14), (1, .int v1), (3, .int r4), (4, .int r15), (6, .int x26), (7, .int x28)] dX8_expand_172 4 rfl rfl (by decide) rfl ?_
            refine s_goto 93 dX8_expand_175 (by decide) ?_
            refine s_sub [1, 2, 3, 4, 0] rfl ?_
            exact ih19 s27 (x17 + 1)
        · intro jk25 hjk25
          refine s_if_eq 129 dX8_expand_122 (by decide) ?_ ?_
          · skip
            refine s_iconst (v := 0) dX8_expand_129 (by decide) ?_
            exact hjk25 (0 : Int32)
          · skip
            refine s_iload_n dX8_expand_125 2 rfl rfl ?_
            refine s_goto 130 dX8_expand_126 (by decide) ?_
            exact hjk25 r4
      · intro jk22 hjk22
        refine s_if_eq 114 dX8_expand_106 (by decide) ?_ ?_
        · skip
          refine s_iconst (v := 0) dX8_expand_114 (by decide) ?_
          exact hjk22 (0 : Int32)
        · skip
          refine s_iload dX8_expand_109 3 rfl ?_
          refine s_goto 115 dX8_expand_111 (by decide) ?_
          exact hjk22 r15
    · skip
      exact s_return rfl rfl rfl dX8_expand_178
theorem dX8_search_0 : decode cX8_search 0 = .ok (.aload_n 0, 1) := by decide +kernel
theorem dX8_search_1 : decode cX8_search 1 = .ok (.getfield 36, 3) := by decide +kernel
theorem dX8_search_4 : decode cX8_search 4 = .ok (.aload_n 0, 1) := by decide +kernel
theorem dX8_search_5 : decode cX8_search 5 = .ok (.getfield 21, 3) := by decide +kernel
theorem dX8_search_8 : decode cX8_search 8 = .ok (.invokevirtual 43, 3) := by decide +kernel
theorem dX8_search_11 : decode cX8_search 11 = .ok (.if_icmp .ne 20, 3) := by decide +kernel
theorem dX8_search_14 : decode cX8_search 14 = .ok (.aload_n 0, 1) := by decide +kernel
theorem dX8_search_15 : decode cX8_search 15 = .ok (.getfield 25, 3) := by decide +kernel
theorem dX8_search_18 : decode cX8_search 18 = .ok (.aload_n 1, 1) := by decide +kernel
theorem dX8_search_19 : decode cX8_search 19 = .ok (.if_acmp .ne 12, 3) := by decide +kernel
theorem dX8_search_22 : decode cX8_search 22 = .ok (.aload_n 0, 1) := by decide +kernel
theorem dX8_search_23 : decode cX8_search 23 = .ok (.getfield 49, 3) := by decide +kernel
theorem dX8_search_26 : decode cX8_search 26 = .ok (.iload_n 2, 1) := by decide +kernel
theorem dX8_search_27 : decode cX8_search 27 = .ok (.if_icmp .ne 4, 3) := by decide +kernel
theorem dX8_search_30 : decode cX8_search 30 = .ok (.return_, 1) := by decide +kernel
theorem dX8_search_31 : decode cX8_search 31 = .ok (.aload_n 0, 1) := by decide +kernel
theorem dX8_search_32 : decode cX8_search 32 = .ok (.aload_n 0, 1) := by decide +kernel
theorem dX8_search_33 : decode cX8_search 33 = .ok (.getfield 21, 3) := by decide +kernel
theorem dX8_search_36 : decode cX8_search 36 = .ok (.invokevirtual 43, 3) := by decide +kernel
theorem dX8_search_39 : decode cX8_search 39 = .ok (.putfield 36, 3) := by decide +kernel
theorem dX8_search_42 : decode cX8_search 42 = .ok (.aload_n 0, 1) := by decide +kernel
theorem dX8_search_43 : decode cX8_search 43 = .ok (.aload_n 1, 1) := by decide +kernel
theorem dX8_search_44 : decode cX8_search 44 = .ok (.putfield 25, 3) := by decide +kernel
theorem dX8_search_47 : decode cX8_search 47 = .ok (.aload_n 0, 1) := by decide +kernel
theorem dX8_search_48 : decode cX8_search 48 = .ok (.iload_n 2, 1) := by decide +kernel
theorem dX8_search_49 : decode cX8_search 49 = .ok (.putfield 49, 3) := by decide +kernel
theorem dX8_search_52 : decode cX8_search 52 = .ok (.aload_n 0, 1) := by decide +kernel
theorem dX8_search_53 : decode cX8_search 53 = .ok (.getfield 18, 3) := by decide +kernel
theorem dX8_search_56 : decode cX8_search 56 = .ok (.iconst 0, 1) := by decide +kernel
theorem dX8_search_57 : decode cX8_search 57 = .ok (.invokestatic 52, 3) := by decide +kernel
theorem dX8_search_60 : decode cX8_search 60 = .ok (.aload_n 0, 1) := by decide +kernel
theorem dX8_search_61 : decode cX8_search 61 = .ok (.iconst 0, 1) := by decide +kernel
theorem dX8_search_62 : decode cX8_search 62 = .ok (.putfield 58, 3) := by decide +kernel
theorem dX8_search_65 : decode cX8_search 65 = .ok (.aload_n 0, 1) := by decide +kernel
theorem dX8_search_66 : decode cX8_search 66 = .ok (.iconst (-1), 1) := by decide +kernel
theorem dX8_search_67 : decode cX8_search 67 = .ok (.putfield 29, 3) := by decide +kernel
theorem dX8_search_70 : decode cX8_search 70 = .ok (.iconst 0, 1) := by decide +kernel
theorem dX8_search_71 : decode cX8_search 71 = .ok (.istore_n 3, 1) := by decide +kernel
theorem dX8_search_72 : decode cX8_search 72 = .ok (.iload_n 3, 1) := by decide +kernel
theorem dX8_search_73 : decode cX8_search 73 = .ok (.aload_n 1, 1) := by decide +kernel
theorem dX8_search_74 : decode cX8_search 74 = .ok (.invokevirtual 61, 3) := by decide +kernel
theorem dX8_search_77 : decode cX8_search 77 = .ok (.if_icmp .ge 51, 3) := by decide +kernel
theorem dX8_search_80 : decode cX8_search 80 = .ok (.iload_n 2, 1) := by decide +kernel
theorem dX8_search_81 : decode cX8_search 81 = .ok (.iconst (-1), 1) := by decide +kernel
theorem dX8_search_82 : decode cX8_search 82 = .ok (.if_icmp .ne 14, 3) := by decide +kernel
theorem dX8_search_85 : decode cX8_search 85 = .ok (.aload_n 1, 1) := by decide +kernel
theorem dX8_search_86 : decode cX8_search 86 = .ok (.iload_n 3, 1) := by decide +kernel
theorem dX8_search_87 : decode cX8_search 87 = .ok (.invokevirtual 66, 3) := by decide +kernel
theorem dX8_search_90 : decode cX8_search 90 = .ok (.ifCond .eq 32, 3) := by decide +kernel
theorem dX8_search_93 : decode cX8_search 93 = .ok (.goto 8, 3) := by decide +kernel
theorem dX8_search_96 : decode cX8_search 96 = .ok (.iload_n 3, 1) := by decide +kernel
theorem dX8_search_97 : decode cX8_search 97 = .ok (.iload_n 2, 1) := by decide +kernel
theorem dX8_search_98 : decode cX8_search 98 = .ok (.if_icmp .ne 24, 3) := by decide +kernel
theorem dX8_search_101 : decode cX8_search 101 = .ok (.aload_n 0, 1) := by decide +kernel
theorem dX8_search_102 : decode cX8_search 102 = .ok (.iload_n 3, 1) := by decide +kernel
theorem dX8_search_103 : decode cX8_search 103 = .ok (.aload_n 0, 1) := by decide +kernel
theorem dX8_search_104 : decode cX8_search 104 = .ok (.getfield 21, 3) := by decide +kernel
theorem dX8_search_107 : decode cX8_search 107 = .ok (.invokevirtual 70, 3) := by decide +kernel
theorem dX8_search_110 : decode cX8_search 110 = .ok (.aload_n 1, 1) := by decide +kernel
theorem dX8_search_111 : decode cX8_search 111 = .ok (.iload_n 3, 1) := by decide +kernel
theorem dX8_search_112 : decode cX8_search 112 = .ok (.invokevirtual 73, 3) := by decide +kernel
theorem dX8_search_115 : decode cX8_search 115 = .ok (.iconst (-1), 1) := by decide +kernel
theorem dX8_search_116 : decode cX8_search 116 = .ok (.ixor, 1) := by decide +kernel
theorem dX8_search_117 : decode cX8_search 117 = .ok (.iand, 1) := by decide +kernel
theorem dX8_search_118 : decode cX8_search 118 = .ok (.iconst (-1), 1) := by decide +kernel
theorem dX8_search_119 : decode cX8_search 119 = .ok (.invokevirtual 76, 3) := by decide +kernel
theorem dX8_search_122 : decode cX8_search 122 = .ok (.iinc 3 1, 3) := by decide +kernel
theorem dX8_search_125 : decode cX8_search 125 = .ok (.goto (-53), 3) := by decide +kernel
theorem dX8_search_128 : decode cX8_search 128 = .ok (.iconst 0, 1) := by decide +kernel
theorem dX8_search_129 : decode cX8_search 129 = .ok (.istore_n 3, 1) := by decide +kernel
theorem dX8_search_130 : decode cX8_search 130 = .ok (.iload_n 3, 1) := by decide +kernel
theorem dX8_search_131 : decode cX8_search 131 = .ok (.aload_n 0, 1) := by decide +kernel
theorem dX8_search_132 : decode cX8_search 132 = .ok (.getfield 58, 3) := by decide +kernel
theorem dX8_search_135 : decode cX8_search 135 = .ok (.if_icmp .ge 29, 3) := by decide +kernel
theorem dX8_search_138 : decode cX8_search 138 = .ok (.iload_n 3, 1) := by decide +kernel
theorem dX8_search_139 : decode cX8_search 139 = .ok (.sipush 2816, 3) := by decide +kernel
theorem dX8_search_142 : decode cX8_search 142 = .ok (.if_icmp .ge 22, 3) := by decide +kernel
theorem dX8_search_145 : decode cX8_search 145 = .ok (.aload_n 0, 1) := by decide +kernel
theorem dX8_search_146 : decode cX8_search 146 = .ok (.getfield 29, 3) := by decide +kernel
theorem dX8_search_149 : decode cX8_search 149 = .ok (.iconst (-1), 1) := by decide +kernel
theorem dX8_search_150 : decode cX8_search 150 = .ok (.if_icmp .ne 14, 3) := by decide +kernel
theorem dX8_search_153 : decode cX8_search 153 = .ok (.aload_n 0, 1) := by decide +kernel
theorem dX8_search_154 : decode cX8_search 154 = .ok (.iload_n 3, 1) := by decide +kernel
theorem dX8_search_155 : decode cX8_search 155 = .ok (.invokevirtual 80, 3) := by decide +kernel
theorem dX8_search_158 : decode cX8_search 158 = .ok (.iinc 3 1, 3) := by decide +kernel
theorem dX8_search_161 : decode cX8_search 161 = .ok (.goto (-31), 3) := by decide +kernel
theorem dX8_search_164 : decode cX8_search 164 = .ok (.aload_n 0, 1) := by decide +kernel
theorem dX8_search_165 : decode cX8_search 165 = .ok (.aload_n 0, 1) := by decide +kernel
theorem dX8_search_166 : decode cX8_search 166 = .ok (.getfield 29, 3) := by decide +kernel
theorem dX8_search_169 : decode cX8_search 169 = .ok (.iconst (-1), 1) := by decide +kernel
theorem dX8_search_170 : decode cX8_search 170 = .ok (.if_icmp .ne 7, 3) := by decide +kernel
theorem dX8_search_173 : decode cX8_search 173 = .ok (.iconst (-1), 1) := by decide +kernel
theorem dX8_search_174 : decode cX8_search 174 = .ok (.goto 11, 3) := by decide +kernel
theorem dX8_search_177 : decode cX8_search 177 = .ok (.aload_n 0, 1) := by decide +kernel
theorem dX8_search_178 : decode cX8_search 178 = .ok (.aload_n 0, 1) := by decide +kernel
theorem dX8_search_179 : decode cX8_search 179 = .ok (.getfield 29, 3) := by decide +kernel
theorem dX8_search_182 : decode cX8_search 182 = .ok (.invokevirtual 84, 3) := by decide +kernel
theorem dX8_search_185 : decode cX8_search 185 = .ok (.putfield 33, 3) := by decide +kernel
theorem dX8_search_188 : decode cX8_search 188 = .ok (.return_, 1) := by decide +kernel
def f_X8_search (σ : St) (k : Nat) (v2 : Int32) : Option (Unit × St) :=
  calP (f_X3_changes σ) fun r1 =>
    jn0 (fun jk2 =>
      (if (σ.1 14 8) = r1 then
        ckN (σ.1 14 4).toNatClampNeg 3 <|
          bd (σ.1 14 4).toNatClampNeg fun j29 =>
            (if j29 = k then
              (if (σ.1 14 9) = v2 then
                some ((), σ)
                 else
                jk2)
               else
              jk2)
         else
        jk2))
      (
      calP (f_X3_changes σ) fun r3 =>
          bd (setI σ 14 8 r3) fun s4 =>
            bd (setI s4 14 4 (nI k)) fun s5 =>
              bd (setI s5 14 9 v2) fun s6 =>
                cal (f_J7_fill_53178 s6 17 (0 : Int32)) fun _ s7 =>
                  bd (setI s7 14 5 (0 : Int32)) fun s8 =>
                    bd (setI s8 14 6 (-1 : Int32)) fun s9 =>
                      lo2 FU (fun rec12 (s10 : St) (x11 : Int32) =>
                        calP (f_X6_size s10 k) fun r14 =>
                          (if x11 < r14 then
                            jn0 (fun jk15 =>
                              (if v2 = (-1 : Int32) then
                                calP (f_X6_isSetting s10 k x11) fun r19 =>
                                  (if r19 = 0 then
                                    rec12 s10 (x11 + 1)
                                     else
                                    jk15)
                                 else
                                (if x11 = v2 then
                                  jk15
                                   else
                                  rec12 s10 (x11 + 1))))
                              (
                              calP (f_X3_all s10) fun r16 =>
                                  calP (f_X6_placesOf s10 k x11) fun r17 =>
                                    cal (f_X8_meet s10 x11 (r16 &&& (r17 ^^^ (-1 : Int32))) (-1 : Int32)) fun _ s18 =>
                                      rec12 s18 (x11 + 1))
                             else
                            lo2 FU (fun rec22 (s20 : St) (x21 : Int32) =>
                              jn0 (fun jk24 =>
                                (if x21 < (s20.1 14 5) then
                                  (if x21 < (2816 : Int32) then
                                    (if (s20.1 14 6) = (-1 : Int32) then
                                      cal (f_X8_expand s20 x21) fun _ s28 =>
                                        rec22 s28 (x21 + 1)
                                       else
                                      jk24)
                                     else
                                    jk24)
                                   else
                                  jk24))
                                (
                                (if (s20.1 14 6) = (-1 : Int32) then
                                    bd (setI s20 14 7 (-1 : Int32)) fun s25 =>
                                      some ((), s25)
                                     else
                                    calP (f_X8_depthOf s20 (s20.1 14 6)) fun r26 =>
                                      bd (setI s20 14 7 r26) fun s27 =>
                                        some ((), s27)))) s10 (0 : Int32))) s9 (0 : Int32))
set_option maxHeartbeats 4000000 in
set_option maxRecDepth 100000 in
theorem c_X8_search (l : Launch) (E : Ev) (hF : Full E) (σ : St) (k : Nat) (hk : k < 3) (v2 : Int32) : Ctr l (en2 enV) (fun q => q.2) E md_X8_search [rV E 14, rV E (32 + 2 * k), .int v2] σ (f_X8_search σ k v2) := by
  refine ctr_of rfl (Nat.le_of_ble_eq_true rfl) (fun Γ => ?_)
  show Sim _ Γ _ E md_X8_search σ 0 [(0, rV E 14), (1, rV E (32 + 2 * k)), (2, .int v2)] [] _
  unfold f_X8_search
  refine s_aload_n dX8_search_0 0 rfl rfl ?_
  refine s_geti gf_X8_36 rfl (m14 hF) k14 (ft_of k14 rfl) dX8_search_1 ?_
  refine s_aload_n dX8_search_4 0 rfl rfl ?_
  refine s_getr (b := 1) gf_X8_21 rfl (m14 hF) k14 (ft_of k14 rfl) (hF.2 _ _) rfl dX8_search_5 ?_
  refine s_callVpI (As := []) mf_X3_changes vf_X3_changes ml_X8_43 (c_X3_changes _ E hF σ) (m1 hF) k1 (by decide) rfl rfl rfl rfl (Nat.le_of_ble_eq_true rfl) rfl dX8_search_8 (fun r1 => ?_)
  refine s_jn0 σ 31 [(0, rV E 14), (1, rV E (32 + 2 * k)), (2, .int v2)] [] ?_ ?_
  · skip
    refine s_aload_n dX8_search_31 0 rfl rfl ?_
    refine s_aload_n dX8_search_32 0 rfl rfl ?_
    refine s_getr (b := 1) gf_X8_21 rfl (m14 hF) k14 (ft_of k14 rfl) (hF.2 _ _) rfl dX8_search_33 ?_
    refine s_callVpI (As := []) mf_X3_changes vf_X3_changes ml_X8_43 (c_X3_changes _ E hF σ) (m1 hF) k1 (by decide) rfl rfl rfl rfl (Nat.le_of_ble_eq_true rfl) rfl dX8_search_36 (fun r3 => ?_)
    refine s_puti gf_X8_36 rfl (m14 hF) k14 (ft_of k14 rfl) dX8_search_39 (fun s4 => ?_)
    refine s_aload_n dX8_search_42 0 rfl rfl ?_
    refine s_aload_n dX8_search_43 1 rfl rfl ?_
    refine s_putS gf_X8_25 rfl (m14 hF) k14 (ft_of k14 rfl) (hF.2 _ _) hk dX8_search_44 (fun s5 => ?_)
    refine s_aload_n dX8_search_47 0 rfl rfl ?_
    refine s_iload_n dX8_search_48 2 rfl rfl ?_
    refine s_puti gf_X8_49 rfl (m14 hF) k14 (ft_of k14 rfl) dX8_search_49 (fun s6 => ?_)
    refine s_aload_n dX8_search_52 0 rfl rfl ?_
    refine s_getr (b := 17) gf_X8_18 rfl (m14 hF) k14 (ft_of k14 rfl) (hF.2 _ _) rfl dX8_search_53 ?_
    refine s_iconst (v := 0) dX8_search_56 (by decide) ?_
    refine s_callSwV (As := [rV E 17, .int (0 : Int32)]) mf_J7_fill_53178 vf_J7_fill_53178 ml_X8_52 (c_J7_fill_53178 _ E hF s6 17 (m17 hF) k17 (0 : Int32)) rfl rfl (Nat.le_of_ble_eq_true rfl) rfl dX8_search_57 (fun _ s7 => ?_)
    refine s_aload_n dX8_search_60 0 rfl rfl ?_
    refine s_iconst (v := 0) dX8_search_61 (by decide) ?_
    refine s_puti gf_X8_58 rfl (m14 hF) k14 (ft_of k14 rfl) dX8_search_62 (fun s8 => ?_)
    refine s_aload_n dX8_search_65 0 rfl rfl ?_
    refine s_iconst (v := -1) dX8_search_66 (by decide) ?_
    refine s_puti gf_X8_29 rfl (m14 hF) k14 (ft_of k14 rfl) dX8_search_67 (fun s9 => ?_)
    refine s_iconst (v := 0) dX8_search_70 (by decide) ?_
    refine s_istore_n [(3, .int (0 : Int32)), (0, rV E 14), (1, rV E (32 + 2 * k)), (2, .int v2)] dX8_search_71 rfl (by decide) rfl ?_
    refine s_sub (lv' := [(0, rV E 14), (1, rV E (32 + 2 * k)), (2, .int v2), (3, .int (0 : Int32))]) [1, 2, 3, 0] rfl ?_
    refine s_lo2 (σf := fun s10 x11 => s10) (lvf := fun s10 x11 => [(0, rV E 14), (1, rV E (32 + 2 * k)), (2, .int v2), (3, .int x11)]) (fun rec12 ih13 s10 x11 => ?_)
    refine s_iload_n dX8_search_72 3 rfl rfl ?_
    refine s_aload_n dX8_search_73 1 rfl rfl ?_
    refine s_callVpI (As := []) mf_X6_size vf_X6_size ml_X8_61 (c_X6_size _ E hF s10 k hk) (mS hF hk) (kS hk) (by decide) rfl rfl rfl rfl (Nat.le_of_ble_eq_true rfl) rfl dX8_search_74 (fun r14 => ?_)
    refine s_icmp_ge 128 dX8_search_77 (by decide) ?_ ?_
    · skip
      refine s_iload_n dX8_search_80 2 rfl rfl ?_
      refine s_iconst (v := -1) dX8_search_81 (by decide) ?_
      refine s_jn0 s10 101 [(0, rV E 14), (1, rV E (32 + 2 * k)), (2, .int v2), (3, .int x11)] [] ?_ ?_
      · skip
        refine s_aload_n dX8_search_101 0 rfl rfl ?_
        refine s_iload_n dX8_search_102 3 rfl rfl ?_
        refine s_aload_n dX8_search_103 0 rfl rfl ?_
        refine s_getr (b := 1) gf_X8_21 rfl (m14 hF) k14 (ft_of k14 rfl) (hF.2 _ _) rfl dX8_search_104 ?_
        refine s_callVpI (As := []) mf_X3_all vf_X3_all ml_X8_70 (c_X3_all _ E hF s10) (m1 hF) k1 (by decide) rfl rfl rfl rfl (Nat.le_of_ble_eq_true rfl) rfl dX8_search_107 (fun r16 => ?_)
        refine s_aload_n dX8_search_110 1 rfl rfl ?_
        refine s_iload_n dX8_search_111 3 rfl rfl ?_
        refine s_callVpI (As := [.int x11]) mf_X6_placesOf vf_X6_placesOf ml_X8_73 (c_X6_placesOf _ E hF s10 k hk x11) (mS hF hk) (kS hk) (by decide) rfl rfl rfl rfl (Nat.le_of_ble_eq_true rfl) rfl dX8_search_112 (fun r17 => ?_)
        refine s_iconst (v := -1) dX8_search_115 (by decide) ?_
        refine s_ixor dX8_search_116 ?_
        refine s_iand dX8_search_117 ?_
        refine s_iconst (v := -1) dX8_search_118 (by decide) ?_
        refine s_callVwV (As := [.int x11, .int (r16 &&& (r17 ^^^ (-1 : Int32))), .int (-1 : Int32)]) mf_X8_meet vf_X8_meet ml_X8_76 (c_X8_meet _ E hF s10 x11 (r16 &&& (r17 ^^^ (-1 : Int32))) (-1 : Int32)) (m14 hF) k14 (by decide) rfl rfl rfl rfl (Nat.le_of_ble_eq_true rfl) rfl dX8_search_119 (fun _ s18 => ?_)
        refine s_iinc [(3, .int (x11 + 1)), (0, rV E 14), (1, rV E (32 + 2 * k)), (2, .int v2)] dX8_search_122 3 rfl rfl (by decide) rfl ?_
        refine s_goto 72 dX8_search_125 (by decide) ?_
        refine s_sub [1, 2, 3, 0] rfl ?_
        exact ih13 s18 (x11 + 1)
      · intro jk15 hjk15
        refine s_icmp_ne 96 dX8_search_82 (by decide) ?_ ?_
        · skip
          refine s_aload_n dX8_search_85 1 rfl rfl ?_
          refine s_iload_n dX8_search_86 3 rfl rfl ?_
          refine s_callVpI (As := [.int x11]) mf_X6_isSetting vf_X6_isSetting ml_X8_66 (c_X6_isSetting _ E hF s10 k hk x11) (mS hF hk) (kS hk) (by decide) rfl rfl rfl rfl (Nat.le_of_ble_eq_true rfl) rfl dX8_search_87 (fun r19 => ?_)
          refine s_if_eq 122 dX8_search_90 (by decide) ?_ ?_
          · skip
            refine s_iinc [(3, .int (x11 + 1)), (0, rV E 14), (1, rV E (32 + 2 * k)), (2, .int v2)] dX8_search_122 3 rfl rfl (by decide) rfl ?_
            refine s_goto 72 dX8_search_125 (by decide) ?_
            refine s_sub [1, 2, 3, 0] rfl ?_
            exact ih13 s10 (x11 + 1)
          · skip
            refine s_goto 101 dX8_search_93 (by decide) ?_
            exact hjk15
        · skip
          refine s_iload_n dX8_search_96 3 rfl rfl ?_
          refine s_iload_n dX8_search_97 2 rfl rfl ?_
          refine s_icmp_ne 122 dX8_search_98 (by decide) ?_ ?_
          · skip
            exact hjk15
          · skip
            refine s_iinc [(3, .int (x11 + 1)), (0, rV E 14), (1, rV E (32 + 2 * k)), (2, .int v2)] dX8_search_122 3 rfl rfl (by decide) rfl ?_
            refine s_goto 72 dX8_search_125 (by decide) ?_
            refine s_sub [1, 2, 3, 0] rfl ?_
            exact ih13 s10 (x11 + 1)
    · skip
      refine s_iconst (v := 0) dX8_search_128 (by decide) ?_
      refine s_istore_n [(3, .int (0 : Int32)), (0, rV E 14), (1, rV E (32 + 2 * k)), (2, .int v2)] dX8_search_129 rfl (by decide) rfl ?_
      refine s_sub (lv' := [(0, rV E 14), (3, .int (0 : Int32))]) [1, 0] rfl ?_
      refine s_lo2 (σf := fun s20 x21 => s20) (lvf := fun s20 x21 => [(0, rV E 14), (3, .int x21)]) (fun rec22 ih23 s20 x21 => ?_)
      refine s_iload_n dX8_search_130 1 rfl rfl ?_
      refine s_aload_n dX8_search_131 0 rfl rfl ?_
      refine s_geti gf_X8_58 rfl (m14 hF) k14 (ft_of k14 rfl) dX8_search_132 ?_
      refine s_jn0 s20 164 [(0, rV E 14)] [] ?_ ?_
      · skip
        refine s_aload_n dX8_search_164 0 rfl rfl ?_
        refine s_aload_n dX8_search_165 0 rfl rfl ?_
        refine s_geti gf_X8_29 rfl (m14 hF) k14 (ft_of k14 rfl) dX8_search_166 ?_
        refine s_iconst (v := -1) dX8_search_169 (by decide) ?_
        refine s_icmp_ne 177 dX8_search_170 (by decide) ?_ ?_
        · skip
          refine s_iconst (v := -1) dX8_search_173 (by decide) ?_
          refine s_goto 185 dX8_search_174 (by decide) ?_
          refine s_puti gf_X8_33 rfl (m14 hF) k14 (ft_of k14 rfl) dX8_search_185 (fun s25 => ?_)
          exact s_return rfl rfl rfl dX8_search_188
        · skip
          refine s_aload_n dX8_search_177 0 rfl rfl ?_
          refine s_aload_n dX8_search_178 0 rfl rfl ?_
          refine s_geti gf_X8_29 rfl (m14 hF) k14 (ft_of k14 rfl) dX8_search_179 ?_
          refine s_callVpI (As := [.int (s20.1 14 6)]) mf_X8_depthOf vf_X8_depthOf ml_X8_84 (c_X8_depthOf _ E hF s20 (s20.1 14 6)) (m14 hF) k14 (by decide) rfl rfl rfl rfl (Nat.le_of_ble_eq_true rfl) rfl dX8_search_182 (fun r26 => ?_)
          refine s_puti gf_X8_33 rfl (m14 hF) k14 (ft_of k14 rfl) dX8_search_185 (fun s27 => ?_)
          exact s_return rfl rfl rfl dX8_search_188
      · intro jk24 hjk24
        refine s_icmp_ge 164 dX8_search_135 (by decide) ?_ ?_
        · skip
          refine s_iload_n dX8_search_138 1 rfl rfl ?_
          refine s_sipush (v := 2816) dX8_search_139 (by decide) ?_
          refine s_icmp_ge 164 dX8_search_142 (by decide) ?_ ?_
          · skip
            refine s_aload_n dX8_search_145 0 rfl rfl ?_
            refine s_geti gf_X8_29 rfl (m14 hF) k14 (ft_of k14 rfl) dX8_search_146 ?_
            refine s_iconst (v := -1) dX8_search_149 (by decide) ?_
            refine s_icmp_ne 164 dX8_search_150 (by decide) ?_ ?_
            · skip
              refine s_aload_n dX8_search_153 0 rfl rfl ?_
              refine s_iload_n dX8_search_154 1 rfl rfl ?_
              refine s_callVwV (As := [.int x21]) mf_X8_expand vf_X8_expand ml_X8_80 (c_X8_expand _ E hF s20 x21) (m14 hF) k14 (by decide) rfl rfl rfl rfl (Nat.le_of_ble_eq_true rfl) rfl dX8_search_155 (fun _ s28 => ?_)
              refine s_iinc [(3, .int (x21 + 1)), (0, rV E 14)] dX8_search_158 1 rfl rfl (by decide) rfl ?_
              refine s_goto 130 dX8_search_161 (by decide) ?_
              refine s_sub [1, 0] rfl ?_
              exact ih23 s28 (x21 + 1)
            · skip
              refine s_sub [0] rfl ?_
              exact hjk24
          · skip
            refine s_sub [0] rfl ?_
            exact hjk24
        · skip
          refine s_sub [0] rfl ?_
          exact hjk24
  · intro jk2 hjk2
    refine s_icmp_ne 31 dX8_search_11 (by decide) ?_ ?_
    · skip
      refine s_aload_n dX8_search_14 0 rfl rfl ?_
      refine s_getS gf_X8_25 rfl (m14 hF) k14 (ft_of k14 rfl) (hF.2 _ _) dX8_search_15 (fun j29 hj29 => ?_)
      refine s_aload_n dX8_search_18 1 rfl rfl ?_
      refine s_acmp_ne 31 hF hj29 hk dX8_search_19 (by decide) ?_ ?_
      · skip
        refine s_aload_n dX8_search_22 0 rfl rfl ?_
        refine s_geti gf_X8_49 rfl (m14 hF) k14 (ft_of k14 rfl) dX8_search_23 ?_
        refine s_iload_n dX8_search_26 2 rfl rfl ?_
        refine s_icmp_ne 31 dX8_search_27 (by decide) ?_ ?_
        · skip
          exact s_return rfl rfl rfl dX8_search_30
        · skip
          exact hjk2
      · skip
        exact hjk2
    · skip
      exact hjk2
