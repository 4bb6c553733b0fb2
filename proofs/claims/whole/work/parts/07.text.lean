theorem dJ0_coder_7d493_0 : decode cJ0_coder_7d493 0 = .ok (.getstatic 38, 3) := by decide +kernel
theorem dJ0_coder_7d493_3 : decode cJ0_coder_7d493 3 = .ok (.ifCond .eq 10, 3) := by decide +kernel
theorem dJ0_coder_7d493_6 : decode cJ0_coder_7d493 6 = .ok (.aload_n 0, 1) := by decide +kernel
theorem dJ0_coder_7d493_7 : decode cJ0_coder_7d493 7 = .ok (.getfield 15, 3) := by decide +kernel
theorem dJ0_coder_7d493_10 : decode cJ0_coder_7d493 10 = .ok (.goto 4, 3) := by decide +kernel
theorem dJ0_coder_7d493_13 : decode cJ0_coder_7d493 13 = .ok (.iconst 1, 1) := by decide +kernel
theorem dJ0_coder_7d493_14 : decode cJ0_coder_7d493 14 = .ok (.ireturn, 1) := by decide +kernel
def f_J0_coder_7d493 (σ : St) (w : Nat) : Option Int32 :=
  (if (1 : Int32) = 0 then
    some (1 : Int32)
     else
    some (0 : Int32))
set_option maxHeartbeats 4000000 in
set_option maxRecDepth 100000 in
theorem c_J0_coder_7d493 (l : Launch) (E : Ev) (hF : Full E) (σ : St) (w : Nat) (hw : w < 3) : Ctr l enI (fun _ => σ) E md_J0_coder_7d493 [rV E (130 + w)] σ (f_J0_coder_7d493 σ w) := by
  refine ctr_of rfl (Nat.le_of_ble_eq_true rfl) (fun Γ => ?_)
  show Sim _ Γ _ E md_J0_coder_7d493 σ 0 [(0, rV E (130 + w))] [] _
  unfold f_J0_coder_7d493
  refine s_getCS rfl w_462 dJ0_coder_7d493_0 ?_
  refine s_if_eq 13 dJ0_coder_7d493_3 (by decide) ?_ ?_
  · skip
    refine s_iconst (v := 1) dJ0_coder_7d493_13 (by decide) ?_
    exact s_nreturn rfl rfl rfl rfl dJ0_coder_7d493_14
  · skip
    refine s_aload_n dJ0_coder_7d493_6 0 rfl rfl ?_
    refine s_getTC rfl hw w_1495 dJ0_coder_7d493_7 ?_
    refine s_goto 14 dJ0_coder_7d493_10 (by decide) ?_
    exact s_nreturn rfl rfl rfl rfl dJ0_coder_7d493_14
theorem dJ0_length_8abf5_0 : decode cJ0_length_8abf5 0 = .ok (.aload_n 0, 1) := by decide +kernel
theorem dJ0_length_8abf5_1 : decode cJ0_length_8abf5 1 = .ok (.getfield 9, 3) := by decide +kernel
theorem dJ0_length_8abf5_4 : decode cJ0_length_8abf5 4 = .ok (.arraylength, 1) := by decide +kernel
theorem dJ0_length_8abf5_5 : decode cJ0_length_8abf5 5 = .ok (.aload_n 0, 1) := by decide +kernel
theorem dJ0_length_8abf5_6 : decode cJ0_length_8abf5 6 = .ok (.invokevirtual 335, 3) := by decide +kernel
theorem dJ0_length_8abf5_9 : decode cJ0_length_8abf5 9 = .ok (.ishr, 1) := by decide +kernel
theorem dJ0_length_8abf5_10 : decode cJ0_length_8abf5 10 = .ok (.ireturn, 1) := by decide +kernel
def f_J0_length_8abf5 (σ : St) (w : Nat) : Option Int32 :=
  calP (f_J0_coder_7d493 σ w) fun r1 =>
    some ((nI (jsLen.getD w 0)) >>> (r1 &&& 31))
set_option maxHeartbeats 4000000 in
set_option maxRecDepth 100000 in
theorem c_J0_length_8abf5 (l : Launch) (E : Ev) (hF : Full E) (σ : St) (w : Nat) (hw : w < 3) : Ctr l enI (fun _ => σ) E md_J0_length_8abf5 [rV E (130 + w)] σ (f_J0_length_8abf5 σ w) := by
  refine ctr_of rfl (Nat.le_of_ble_eq_true rfl) (fun Γ => ?_)
  show Sim _ Γ _ E md_J0_length_8abf5 σ 0 [(0, rV E (130 + w))] [] _
  unfold f_J0_length_8abf5
  refine s_aload_n dJ0_length_8abf5_0 0 rfl rfl ?_
  refine s_getTV rfl hw w_1494 dJ0_length_8abf5_1 ?_
  refine s_lenT hw dJ0_length_8abf5_4 ?_
  refine s_aload_n dJ0_length_8abf5_5 0 rfl rfl ?_
  refine s_callTpI (As := []) mf_J0_coder_7d493 vf_J0_coder_7d493 ml_J0_335 rfl hw (c_J0_coder_7d493 _ E hF σ w hw) rfl rfl (Nat.le_of_ble_eq_true rfl) rfl dJ0_length_8abf5_6 (fun r1 => ?_)
  refine s_ishr dJ0_length_8abf5_9 ?_
  exact s_ireturn rfl rfl rfl dJ0_length_8abf5_10
theorem dJ0_isLatin1_aae02_0 : decode cJ0_isLatin1_aae02 0 = .ok (.getstatic 38, 3) := by decide +kernel
theorem dJ0_isLatin1_aae02_3 : decode cJ0_isLatin1_aae02 3 = .ok (.ifCond .eq 14, 3) := by decide +kernel
theorem dJ0_isLatin1_aae02_6 : decode cJ0_isLatin1_aae02 6 = .ok (.aload_n 0, 1) := by decide +kernel
theorem dJ0_isLatin1_aae02_7 : decode cJ0_isLatin1_aae02 7 = .ok (.getfield 15, 3) := by decide +kernel
theorem dJ0_isLatin1_aae02_10 : decode cJ0_isLatin1_aae02 10 = .ok (.ifCond .ne 7, 3) := by decide +kernel
theorem dJ0_isLatin1_aae02_13 : decode cJ0_isLatin1_aae02 13 = .ok (.iconst 1, 1) := by decide +kernel
theorem dJ0_isLatin1_aae02_14 : decode cJ0_isLatin1_aae02 14 = .ok (.goto 4, 3) := by decide +kernel
theorem dJ0_isLatin1_aae02_17 : decode cJ0_isLatin1_aae02 17 = .ok (.iconst 0, 1) := by decide +kernel
theorem dJ0_isLatin1_aae02_18 : decode cJ0_isLatin1_aae02 18 = .ok (.ireturn, 1) := by decide +kernel
def f_J0_isLatin1_aae02 (σ : St) (w : Nat) : Option Int32 :=
  (if (1 : Int32) = 0 then
    some (0 : Int32)
     else
    (if (0 : Int32) = 0 then
      some (1 : Int32)
       else
      some (0 : Int32)))
set_option maxHeartbeats 4000000 in
set_option maxRecDepth 100000 in
theorem c_J0_isLatin1_aae02 (l : Launch) (E : Ev) (hF : Full E) (σ : St) (w : Nat) (hw : w < 3) : Ctr l enI (fun _ => σ) E md_J0_isLatin1_aae02 [rV E (130 + w)] σ (f_J0_isLatin1_aae02 σ w) := by
  refine ctr_of rfl (Nat.le_of_ble_eq_true rfl) (fun Γ => ?_)
  show Sim _ Γ _ E md_J0_isLatin1_aae02 σ 0 [(0, rV E (130 + w))] [] _
  unfold f_J0_isLatin1_aae02
  refine s_getCS rfl w_462 dJ0_isLatin1_aae02_0 ?_
  refine s_if_eq 17 dJ0_isLatin1_aae02_3 (by decide) ?_ ?_
  · skip
    refine s_iconst (v := 0) dJ0_isLatin1_aae02_17 (by decide) ?_
    exact s_zreturn rfl (by decide) rfl rfl dJ0_isLatin1_aae02_18
  · skip
    refine s_aload_n dJ0_isLatin1_aae02_6 0 rfl rfl ?_
    refine s_getTC rfl hw w_1495 dJ0_isLatin1_aae02_7 ?_
    refine s_if_ne 17 dJ0_isLatin1_aae02_10 (by decide) ?_ ?_
    · skip
      refine s_iconst (v := 1) dJ0_isLatin1_aae02_13 (by decide) ?_
      refine s_goto 18 dJ0_isLatin1_aae02_14 (by decide) ?_
      exact s_zreturn rfl (by decide) rfl rfl dJ0_isLatin1_aae02_18
    · skip
      refine s_iconst (v := 0) dJ0_isLatin1_aae02_17 (by decide) ?_
      exact s_zreturn rfl (by decide) rfl rfl dJ0_isLatin1_aae02_18
theorem dJ3_checkIndex_8e157_0 : decode cJ3_checkIndex_8e157 0 = .ok (.iload_n 0, 1) := by decide +kernel
theorem dJ3_checkIndex_8e157_1 : decode cJ3_checkIndex_8e157 1 = .ok (.ifCond .lt 8, 3) := by decide +kernel
theorem dJ3_checkIndex_8e157_4 : decode cJ3_checkIndex_8e157 4 = .ok (.iload_n 0, 1) := by decide +kernel
theorem dJ3_checkIndex_8e157_5 : decode cJ3_checkIndex_8e157 5 = .ok (.iload_n 1, 1) := by decide +kernel
theorem dJ3_checkIndex_8e157_6 : decode cJ3_checkIndex_8e157 6 = .ok (.if_icmp .lt 10, 3) := by decide +kernel
theorem dJ3_checkIndex_8e157_9 : decode cJ3_checkIndex_8e157 9 = .ok (.aload_n 2, 1) := by decide +kernel
theorem dJ3_checkIndex_8e157_10 : decode cJ3_checkIndex_8e157 10 = .ok (.iload_n 0, 1) := by decide +kernel
theorem dJ3_checkIndex_8e157_11 : decode cJ3_checkIndex_8e157 11 = .ok (.iload_n 1, 1) := by decide +kernel
theorem dJ3_checkIndex_8e157_12 : decode cJ3_checkIndex_8e157 12 = .ok (.invokestatic 95, 3) := by decide +kernel
theorem dJ3_checkIndex_8e157_15 : decode cJ3_checkIndex_8e157 15 = .ok (.athrow, 1) := by decide +kernel
theorem dJ3_checkIndex_8e157_16 : decode cJ3_checkIndex_8e157 16 = .ok (.iload_n 0, 1) := by decide +kernel
theorem dJ3_checkIndex_8e157_17 : decode cJ3_checkIndex_8e157 17 = .ok (.ireturn, 1) := by decide +kernel
def f_J3_checkIndex_8e157 (σ : St) (v0 : Int32) (v1 : Int32) : Option Int32 :=
  (if v0 < 0 then
    none
     else
    (if v0 < v1 then
      some v0
       else
      none))
set_option maxHeartbeats 4000000 in
set_option maxRecDepth 100000 in
theorem c_J3_checkIndex_8e157 (l : Launch) (E : Ev) (hF : Full E) (σ : St) (v0 : Int32) (v1 : Int32) (q : Option Nat) : Ctr l enI (fun _ => σ) E md_J3_checkIndex_8e157 [.int v0, .int v1, va_rf q] σ (f_J3_checkIndex_8e157 σ v0 v1) := by
  refine ctr_of rfl (by cases q <;> exact Nat.le_of_ble_eq_true rfl) (fun Γ => ?_)
  show Sim _ Γ _ E md_J3_checkIndex_8e157 σ 0 [(0, .int v0), (1, .int v1), (2, va_rf q)] [] _
  unfold f_J3_checkIndex_8e157
  refine s_iload_n dJ3_checkIndex_8e157_0 0 rfl rfl ?_
  refine s_if_lt 9 dJ3_checkIndex_8e157_1 (by decide) ?_ ?_
  · skip
    exact s_none
  · skip
    refine s_iload_n dJ3_checkIndex_8e157_4 0 rfl rfl ?_
    refine s_iload_n dJ3_checkIndex_8e157_5 1 rfl rfl ?_
    refine s_icmp_lt 16 dJ3_checkIndex_8e157_6 (by decide) ?_ ?_
    · skip
      refine s_iload_n dJ3_checkIndex_8e157_16 0 rfl rfl ?_
      exact s_ireturn rfl rfl rfl dJ3_checkIndex_8e157_17
    · skip
      exact s_none
theorem dJ0_checkIndex_df160_0 : decode cJ0_checkIndex_df160 0 = .ok (.iload_n 0, 1) := by decide +kernel
theorem dJ0_checkIndex_df160_1 : decode cJ0_checkIndex_df160 1 = .ok (.iload_n 1, 1) := by decide +kernel
theorem dJ0_checkIndex_df160_2 : decode cJ0_checkIndex_df160 2 = .ok (.getstatic 1053, 3) := by decide +kernel
theorem dJ0_checkIndex_df160_5 : decode cJ0_checkIndex_df160 5 = .ok (.invokestatic 1059, 3) := by decide +kernel
theorem dJ0_checkIndex_df160_8 : decode cJ0_checkIndex_df160 8 = .ok (.pop, 1) := by decide +kernel
theorem dJ0_checkIndex_df160_9 : decode cJ0_checkIndex_df160 9 = .ok (.return_, 1) := by decide +kernel
def f_J0_checkIndex_df160 (σ : St) (v0 : Int32) (v1 : Int32) : Option Unit :=
  calP (f_J3_checkIndex_8e157 σ v0 v1) fun r2 =>
    some ()
set_option maxHeartbeats 4000000 in
set_option maxRecDepth 100000 in
theorem c_J0_checkIndex_df160 (l : Launch) (E : Ev) (hF : Full E) (σ : St) (v0 : Int32) (v1 : Int32) : Ctr l enV (fun _ => σ) E md_J0_checkIndex_df160 [.int v0, .int v1] σ (f_J0_checkIndex_df160 σ v0 v1) := by
  refine ctr_of rfl (Nat.le_of_ble_eq_true rfl) (fun Γ => ?_)
  show Sim _ Γ _ E md_J0_checkIndex_df160 σ 0 [(0, .int v0), (1, .int v1)] [] _
  unfold f_J0_checkIndex_df160
  refine s_iload_n dJ0_checkIndex_df160_0 0 rfl rfl ?_
  refine s_iload_n dJ0_checkIndex_df160_1 1 rfl rfl ?_
  refine s_getFM rfl w_478 dJ0_checkIndex_df160_2 (fun q1 => ?_)
  refine s_callSpI (As := [.int v0, .int v1, va_rf q1]) mf_J3_checkIndex_8e157 vf_J3_checkIndex_8e157 ml_J0_1059 (c_J3_checkIndex_8e157 _ E hF σ v0 v1 q1) rfl rfl (Nat.le_of_ble_eq_true rfl) rfl dJ0_checkIndex_df160_5 (fun r2 => ?_)
  refine s_pop dJ0_checkIndex_df160_8 rfl ?_
  exact s_return rfl rfl rfl dJ0_checkIndex_df160_9
theorem dJ1_charAt_3b067_0 : decode cJ1_charAt_3b067 0 = .ok (.iload_n 1, 1) := by decide +kernel
theorem dJ1_charAt_3b067_1 : decode cJ1_charAt_3b067 1 = .ok (.aload_n 0, 1) := by decide +kernel
theorem dJ1_charAt_3b067_2 : decode cJ1_charAt_3b067 2 = .ok (.arraylength, 1) := by decide +kernel
theorem dJ1_charAt_3b067_3 : decode cJ1_charAt_3b067 3 = .ok (.invokestatic 9, 3) := by decide +kernel
theorem dJ1_charAt_3b067_6 : decode cJ1_charAt_3b067 6 = .ok (.aload_n 0, 1) := by decide +kernel
theorem dJ1_charAt_3b067_7 : decode cJ1_charAt_3b067 7 = .ok (.iload_n 1, 1) := by decide +kernel
theorem dJ1_charAt_3b067_8 : decode cJ1_charAt_3b067 8 = .ok (.baload, 1) := by decide +kernel
theorem dJ1_charAt_3b067_9 : decode cJ1_charAt_3b067 9 = .ok (.sipush 255, 3) := by decide +kernel
theorem dJ1_charAt_3b067_12 : decode cJ1_charAt_3b067 12 = .ok (.iand, 1) := by decide +kernel
theorem dJ1_charAt_3b067_13 : decode cJ1_charAt_3b067 13 = .ok (.i2c, 1) := by decide +kernel
theorem dJ1_charAt_3b067_14 : decode cJ1_charAt_3b067 14 = .ok (.ireturn, 1) := by decide +kernel
def f_J1_charAt_3b067 (σ : St) (w : Nat) (v1 : Int32) : Option Int32 :=
  calP (f_J0_checkIndex_df160 σ v1 (nI (jsLen.getD w 0))) fun _ =>
    ck v1 (jsLen.getD w 0) <|
      some ((((jsByt.getD w []).getD v1.toNatClampNeg 0) &&& (255 : Int32)).toUInt32 % 65536).toInt32
set_option maxHeartbeats 4000000 in
set_option maxRecDepth 100000 in
theorem c_J1_charAt_3b067 (l : Launch) (E : Ev) (hF : Full E) (σ : St) (w : Nat) (hw : w < 3) (v1 : Int32) : Ctr l enI (fun _ => σ) E md_J1_charAt_3b067 [rV E (140 + w), .int v1] σ (f_J1_charAt_3b067 σ w v1) := by
  refine ctr_of rfl (Nat.le_of_ble_eq_true rfl) (fun Γ => ?_)
  show Sim _ Γ _ E md_J1_charAt_3b067 σ 0 [(0, rV E (140 + w)), (1, .int v1)] [] _
  unfold f_J1_charAt_3b067
  refine s_iload_n dJ1_charAt_3b067_0 1 rfl rfl ?_
  refine s_aload_n dJ1_charAt_3b067_1 0 rfl rfl ?_
  refine s_lenT hw dJ1_charAt_3b067_2 ?_
  refine s_callSpV (As := [.int v1, .int (nI (jsLen.getD w 0))]) mf_J0_checkIndex_df160 vf_J0_checkIndex_df160 ml_J1_9 (c_J0_checkIndex_df160 _ E hF σ v1 (nI (jsLen.getD w 0))) rfl rfl (Nat.le_of_ble_eq_true rfl) rfl dJ1_charAt_3b067_3 (fun _ => ?_)
  refine s_aload_n dJ1_charAt_3b067_6 0 rfl rfl ?_
  refine s_iload_n dJ1_charAt_3b067_7 1 rfl rfl ?_
  refine s_ldT hw dJ1_charAt_3b067_8 ?_
  refine s_sipush (v := 255) dJ1_charAt_3b067_9 (by decide) ?_
  refine s_iand dJ1_charAt_3b067_12 ?_
  refine s_i2c dJ1_charAt_3b067_13 rfl ?_
  exact s_nreturn rfl (pk_nc _) rfl rfl dJ1_charAt_3b067_14
theorem dJ0_charAt_5068e_0 : decode cJ0_charAt_5068e 0 = .ok (.aload_n 0, 1) := by decide +kernel
theorem dJ0_charAt_5068e_1 : decode cJ0_charAt_5068e 1 = .ok (.invokevirtual 492, 3) := by decide +kernel
theorem dJ0_charAt_5068e_4 : decode cJ0_charAt_5068e 4 = .ok (.ifCond .eq 12, 3) := by decide +kernel
theorem dJ0_charAt_5068e_7 : decode cJ0_charAt_5068e 7 = .ok (.aload_n 0, 1) := by decide +kernel
theorem dJ0_charAt_5068e_8 : decode cJ0_charAt_5068e 8 = .ok (.getfield 9, 3) := by decide +kernel
theorem dJ0_charAt_5068e_11 : decode cJ0_charAt_5068e 11 = .ok (.iload_n 1, 1) := by decide +kernel
theorem dJ0_charAt_5068e_12 : decode cJ0_charAt_5068e 12 = .ok (.invokestatic 495, 3) := by decide +kernel
theorem dJ0_charAt_5068e_15 : decode cJ0_charAt_5068e 15 = .ok (.ireturn, 1) := by decide +kernel
theorem dJ0_charAt_5068e_16 : decode cJ0_charAt_5068e 16 = .ok (.aload_n 0, 1) := by decide +kernel
theorem dJ0_charAt_5068e_17 : decode cJ0_charAt_5068e 17 = .ok (.getfield 9, 3) := by decide +kernel
theorem dJ0_charAt_5068e_20 : decode cJ0_charAt_5068e 20 = .ok (.iload_n 1, 1) := by decide +kernel
theorem dJ0_charAt_5068e_21 : decode cJ0_charAt_5068e 21 = .ok (.invokestatic 498, 3) := by decide +kernel
theorem dJ0_charAt_5068e_24 : decode cJ0_charAt_5068e 24 = .ok (.ireturn, 1) := by decide +kernel
def f_J0_charAt_5068e (σ : St) (w : Nat) (v1 : Int32) : Option Int32 :=
  calP (f_J0_isLatin1_aae02 σ w) fun r1 =>
    (if r1 = 0 then
      none
       else
      calP (f_J1_charAt_3b067 σ w v1) fun r2 =>
        ckC r2 <|
          some r2)
set_option maxHeartbeats 4000000 in
set_option maxRecDepth 100000 in
theorem c_J0_charAt_5068e (l : Launch) (E : Ev) (hF : Full E) (σ : St) (w : Nat) (hw : w < 3) (v1 : Int32) : Ctr l enI (fun _ => σ) E md_J0_charAt_5068e [rV E (130 + w), .int v1] σ (f_J0_charAt_5068e σ w v1) := by
  refine ctr_of rfl (Nat.le_of_ble_eq_true rfl) (fun Γ => ?_)
  show Sim _ Γ _ E md_J0_charAt_5068e σ 0 [(0, rV E (130 + w)), (1, .int v1)] [] _
  unfold f_J0_charAt_5068e
  refine s_aload_n dJ0_charAt_5068e_0 0 rfl rfl ?_
  refine s_callTpI (As := []) mf_J0_isLatin1_aae02 vf_J0_isLatin1_aae02 ml_J0_492 rfl hw (c_J0_isLatin1_aae02 _ E hF σ w hw) rfl rfl (Nat.le_of_ble_eq_true rfl) rfl dJ0_charAt_5068e_1 (fun r1 => ?_)
  refine s_if_eq 16 dJ0_charAt_5068e_4 (by decide) ?_ ?_
  · skip
    exact s_none
  · skip
    refine s_aload_n dJ0_charAt_5068e_7 0 rfl rfl ?_
    refine s_getTV rfl hw w_1494 dJ0_charAt_5068e_8 ?_
    refine s_iload_n dJ0_charAt_5068e_11 1 rfl rfl ?_
    refine s_callSpI (As := [rV E (140 + w), .int v1]) mf_J1_charAt_3b067 vf_J1_charAt_3b067 ml_J0_495 (c_J1_charAt_3b067 _ E hF σ w hw v1) rfl rfl (Nat.le_of_ble_eq_true rfl) rfl dJ0_charAt_5068e_12 (fun r2 => ?_)
    refine s_ckC (fun hz3 => ?_)
    exact s_nreturn rfl (by rw [← hz3]; exact sc_nar _) rfl rfl dJ0_charAt_5068e_15
theorem dX7_length_0 : decode cX7_length 0 = .ok (.aload_n 0, 1) := by decide +kernel
theorem dX7_length_1 : decode cX7_length 1 = .ok (.getfield 24, 3) := by decide +kernel
theorem dX7_length_4 : decode cX7_length 4 = .ok (.ireturn, 1) := by decide +kernel
def f_X7_length (σ : St) : Option Int32 :=
  some (σ.1 6 1)
set_option maxHeartbeats 4000000 in
set_option maxRecDepth 100000 in
theorem c_X7_length (l : Launch) (E : Ev) (hF : Full E) (σ : St) : Ctr l enI (fun _ => σ) E md_X7_length [rV E 6] σ (f_X7_length σ) := by
  refine ctr_of rfl (Nat.le_of_ble_eq_true rfl) (fun Γ => ?_)
  show Sim _ Γ _ E md_X7_length σ 0 [(0, rV E 6)] [] _
  unfold f_X7_length
  refine s_aload_n dX7_length_0 0 rfl rfl ?_
  refine s_geti gf_X7_24 rfl (m6 hF) k6 (ft_of k6 rfl) dX7_length_1 ?_
  exact s_ireturn rfl rfl rfl dX7_length_4
theorem dX7_drop_0 : decode cX7_drop 0 = .ok (.aload_n 0, 1) := by decide +kernel
theorem dX7_drop_1 : decode cX7_drop 1 = .ok (.iconst 0, 1) := by decide +kernel
theorem dX7_drop_2 : decode cX7_drop 2 = .ok (.putfield 24, 3) := by decide +kernel
theorem dX7_drop_5 : decode cX7_drop 5 = .ok (.return_, 1) := by decide +kernel
def f_X7_drop (σ : St) : Option (Unit × St) :=
  bd (setI σ 6 1 (0 : Int32)) fun s1 =>
    some ((), s1)
set_option maxHeartbeats 4000000 in
set_option maxRecDepth 100000 in
theorem c_X7_drop (l : Launch) (E : Ev) (hF : Full E) (σ : St) : Ctr l (en2 enV) (fun q => q.2) E md_X7_drop [rV E 6] σ (f_X7_drop σ) := by
  refine ctr_of rfl (Nat.le_of_ble_eq_true rfl) (fun Γ => ?_)
  show Sim _ Γ _ E md_X7_drop σ 0 [(0, rV E 6)] [] _
  unfold f_X7_drop
  refine s_aload_n dX7_drop_0 0 rfl rfl ?_
  refine s_iconst (v := 0) dX7_drop_1 (by decide) ?_
  refine s_puti gf_X7_24 rfl (m6 hF) k6 (ft_of k6 rfl) dX7_drop_2 (fun s1 => ?_)
  exact s_return rfl rfl rfl dX7_drop_5
theorem dX7_append_0 : decode cX7_append 0 = .ok (.iload_n 3, 1) := by decide +kernel
theorem dX7_append_1 : decode cX7_append 1 = .ok (.ifCond .lt 15, 3) := by decide +kernel
theorem dX7_append_4 : decode cX7_append 4 = .ok (.iload_n 3, 1) := by decide +kernel
theorem dX7_append_5 : decode cX7_append 5 = .ok (.sipush 160, 3) := by decide +kernel
theorem dX7_append_8 : decode cX7_append 8 = .ok (.aload_n 0, 1) := by decide +kernel
theorem dX7_append_9 : decode cX7_append 9 = .ok (.getfield 24, 3) := by decide +kernel
theorem dX7_append_12 : decode cX7_append 12 = .ok (.isub, 1) := by decide +kernel
theorem dX7_append_13 : decode cX7_append 13 = .ok (.if_icmp .le 5, 3) := by decide +kernel
theorem dX7_append_16 : decode cX7_append 16 = .ok (.iconst 0, 1) := by decide +kernel
theorem dX7_append_17 : decode cX7_append 17 = .ok (.ireturn, 1) := by decide +kernel
theorem dX7_append_18 : decode cX7_append 18 = .ok (.iconst 0, 1) := by decide +kernel
theorem dX7_append_19 : decode cX7_append 19 = .ok (.istore 4, 2) := by decide +kernel
theorem dX7_append_21 : decode cX7_append 21 = .ok (.iload 4, 2) := by decide +kernel
theorem dX7_append_23 : decode cX7_append 23 = .ok (.iload_n 3, 1) := by decide +kernel
theorem dX7_append_24 : decode cX7_append 24 = .ok (.if_icmp .ge 33, 3) := by decide +kernel
theorem dX7_append_27 : decode cX7_append 27 = .ok (.aload_n 0, 1) := by decide +kernel
theorem dX7_append_28 : decode cX7_append 28 = .ok (.getfield 11, 3) := by decide +kernel
theorem dX7_append_31 : decode cX7_append 31 = .ok (.aload_n 0, 1) := by decide +kernel
theorem dX7_append_32 : decode cX7_append 32 = .ok (.getfield 24, 3) := by decide +kernel
theorem dX7_append_35 : decode cX7_append 35 = .ok (.iload 4, 2) := by decide +kernel
theorem dX7_append_37 : decode cX7_append 37 = .ok (.iadd, 1) := by decide +kernel
theorem dX7_append_38 : decode cX7_append 38 = .ok (.lload_n 1, 1) := by decide +kernel
theorem dX7_append_39 : decode cX7_append 39 = .ok (.bipush 8, 2) := by decide +kernel
theorem dX7_append_41 : decode cX7_append 41 = .ok (.iload 4, 2) := by decide +kernel
theorem dX7_append_43 : decode cX7_append 43 = .ok (.imul, 1) := by decide +kernel
theorem dX7_append_44 : decode cX7_append 44 = .ok (.lshr, 1) := by decide +kernel
theorem dX7_append_45 : decode cX7_append 45 = .ok (.ldc2_w 28, 3) := by decide +kernel
theorem dX7_append_48 : decode cX7_append 48 = .ok (.land, 1) := by decide +kernel
theorem dX7_append_49 : decode cX7_append 49 = .ok (.l2i, 1) := by decide +kernel
theorem dX7_append_50 : decode cX7_append 50 = .ok (.iastore, 1) := by decide +kernel
theorem dX7_append_51 : decode cX7_append 51 = .ok (.iinc 4 1, 3) := by decide +kernel
theorem dX7_append_54 : decode cX7_append 54 = .ok (.goto (-33), 3) := by decide +kernel
theorem dX7_append_57 : decode cX7_append 57 = .ok (.aload_n 0, 1) := by decide +kernel
theorem dX7_append_58 : decode cX7_append 58 = .ok (.dup, 1) := by decide +kernel
theorem dX7_append_59 : decode cX7_append 59 = .ok (.getfield 24, 3) := by decide +kernel
theorem dX7_append_62 : decode cX7_append 62 = .ok (.iload_n 3, 1) := by decide +kernel
theorem dX7_append_63 : decode cX7_append 63 = .ok (.iadd, 1) := by decide +kernel
theorem dX7_append_64 : decode cX7_append 64 = .ok (.putfield 24, 3) := by decide +kernel
theorem dX7_append_67 : decode cX7_append 67 = .ok (.iconst 1, 1) := by decide +kernel
theorem dX7_append_68 : decode cX7_append 68 = .ok (.ireturn, 1) := by decide +kernel
def f_X7_append (σ : St) (v1 : Int64) (v3 : Int32) : Option (Int32 × St) :=
  (if v3 < 0 then
    some ((0 : Int32), σ)
     else
    (if ((160 : Int32) - (σ.1 6 1)) < v3 then
      some ((0 : Int32), σ)
       else
      lo2 FU (fun rec3 (s1 : St) (x2 : Int32) =>
        (if x2 < v3 then
          ck ((s1.1 6 1) + x2) 160 <|
            bd (setI s1 7 ((s1.1 6 1) + x2).toNatClampNeg ((v1 >>> (((8 : Int32) * x2).toInt64 &&& 63)) &&& (255 : Int64)).toInt32) fun s5 =>
              rec3 s5 (x2 + 1)
           else
          bd (setI s1 6 1 ((s1.1 6 1) + v3)) fun s6 =>
            some ((1 : Int32), s6))) σ (0 : Int32)))
set_option maxHeartbeats 4000000 in
set_option maxRecDepth 100000 in
theorem c_X7_append (l : Launch) (E : Ev) (hF : Full E) (σ : St) (v1 : Int64) (v3 : Int32) : Ctr l (en2 enI) (fun q => q.2) E md_X7_append [rV E 6, .long v1, .int v3] σ (f_X7_append σ v1 v3) := by
  refine ctr_of rfl (Nat.le_of_ble_eq_true rfl) (fun Γ => ?_)
  show Sim _ Γ _ E md_X7_append σ 0 [(0, rV E 6), (1, .long v1), (3, .int v3)] [] _
  unfold f_X7_append
  refine s_iload_n dX7_append_0 2 rfl rfl ?_
  refine s_if_lt 16 dX7_append_1 (by decide) ?_ ?_
  · skip
    refine s_iconst (v := 0) dX7_append_16 (by decide) ?_
    exact s_zreturn rfl (by decide) rfl rfl dX7_append_17
  · skip
    refine s_iload_n dX7_append_4 2 rfl rfl ?_
    refine s_sipush (v := 160) dX7_append_5 (by decide) ?_
    refine s_aload_n dX7_append_8 0 rfl rfl ?_
    refine s_geti gf_X7_24 rfl (m6 hF) k6 (ft_of k6 rfl) dX7_append_9 ?_
    refine s_isub dX7_append_12 ?_
    refine s_icmp_le 18 dX7_append_13 (by decide) ?_ ?_
    · skip
      refine s_iconst (v := 0) dX7_append_16 (by decide) ?_
      exact s_zreturn rfl (by decide) rfl rfl dX7_append_17
    · skip
      refine s_iconst (v := 0) dX7_append_18 (by decide) ?_
      refine s_istore [(4, .int (0 : Int32)), (0, rV E 6), (1, .long v1), (3, .int v3)] dX7_append_19 (by decide) rfl ?_
      refine s_sub (lv' := [(0, rV E 6), (1, .long v1), (3, .int v3), (4, .int (0 : Int32))]) [1, 2, 3, 0] rfl ?_
      refine s_lo2 (σf := fun s1 x2 => s1) (lvf := fun s1 x2 => [(0, rV E 6), (1, .long v1), (3, .int v3), (4, .int x2)]) (fun rec3 ih4 s1 x2 => ?_)
      refine s_iload dX7_append_21 3 rfl ?_
      refine s_iload_n dX7_append_23 2 rfl rfl ?_
      refine s_icmp_ge 57 dX7_append_24 (by decide) ?_ ?_
      · skip
        refine s_aload_n dX7_append_27 0 rfl rfl ?_
        refine s_getr (b := 7) gf_X7_11 rfl (m6 hF) k6 (ft_of k6 rfl) (hF.2 _ _) rfl dX7_append_28 ?_
        refine s_aload_n dX7_append_31 0 rfl rfl ?_
        refine s_geti gf_X7_24 rfl (m6 hF) k6 (ft_of k6 rfl) dX7_append_32 ?_
        refine s_iload dX7_append_35 3 rfl ?_
        refine s_iadd dX7_append_37 ?_
        refine s_lload_n dX7_append_38 1 rfl rfl ?_
        refine s_bipush (v := 8) dX7_append_39 (by decide) ?_
        refine s_iload dX7_append_41 3 rfl ?_
        refine s_imul dX7_append_43 ?_
        refine s_lshr dX7_append_44 rfl ?_
        refine s_ldc2 (v := 255) rfl w_401 dX7_append_45 ?_
        refine s_land dX7_append_48 ?_
        refine s_l2i dX7_append_49 rfl ?_
        refine s_iast (m7 hF) k7 l7 dX7_append_50 (fun s5 => ?_)
        refine s_iinc [(4, .int (x2 + 1)), (0, rV E 6), (1, .long v1), (3, .int v3)] dX7_append_51 3 rfl rfl (by decide) rfl ?_
        refine s_goto 21 dX7_append_54 (by decide) ?_
        refine s_sub [1, 2, 3, 0] rfl ?_
        exact ih4 s5 (x2 + 1)
      · skip
        refine s_aload_n dX7_append_57 0 rfl rfl ?_
        refine s_dup dX7_append_58 rfl ?_
        refine s_geti gf_X7_24 rfl (m6 hF) k6 (ft_of k6 rfl) dX7_append_59 ?_
        refine s_iload_n dX7_append_62 2 rfl rfl ?_
        refine s_iadd dX7_append_63 ?_
        refine s_puti gf_X7_24 rfl (m6 hF) k6 (ft_of k6 rfl) dX7_append_64 (fun s6 => ?_)
        refine s_iconst (v := 1) dX7_append_67 (by decide) ?_
        exact s_zreturn rfl (by decide) rfl rfl dX7_append_68
theorem dX7_byteAt_0 : decode cX7_byteAt 0 = .ok (.iload_n 1, 1) := by decide +kernel
theorem dX7_byteAt_1 : decode cX7_byteAt 1 = .ok (.ifCond .lt 27, 3) := by decide +kernel
theorem dX7_byteAt_4 : decode cX7_byteAt 4 = .ok (.iload_n 1, 1) := by decide +kernel
theorem dX7_byteAt_5 : decode cX7_byteAt 5 = .ok (.aload_n 0, 1) := by decide +kernel
theorem dX7_byteAt_6 : decode cX7_byteAt 6 = .ok (.getfield 24, 3) := by decide +kernel
theorem dX7_byteAt_9 : decode cX7_byteAt 9 = .ok (.if_icmp .ge 19, 3) := by decide +kernel
theorem dX7_byteAt_12 : decode cX7_byteAt 12 = .ok (.iload_n 1, 1) := by decide +kernel
theorem dX7_byteAt_13 : decode cX7_byteAt 13 = .ok (.sipush 160, 3) := by decide +kernel
theorem dX7_byteAt_16 : decode cX7_byteAt 16 = .ok (.if_icmp .ge 12, 3) := by decide +kernel
theorem dX7_byteAt_19 : decode cX7_byteAt 19 = .ok (.aload_n 0, 1) := by decide +kernel
theorem dX7_byteAt_20 : decode cX7_byteAt 20 = .ok (.getfield 11, 3) := by decide +kernel
theorem dX7_byteAt_23 : decode cX7_byteAt 23 = .ok (.iload_n 1, 1) := by decide +kernel
theorem dX7_byteAt_24 : decode cX7_byteAt 24 = .ok (.iaload, 1) := by decide +kernel
theorem dX7_byteAt_25 : decode cX7_byteAt 25 = .ok (.goto 4, 3) := by decide +kernel
theorem dX7_byteAt_28 : decode cX7_byteAt 28 = .ok (.iconst (-1), 1) := by decide +kernel
theorem dX7_byteAt_29 : decode cX7_byteAt 29 = .ok (.ireturn, 1) := by decide +kernel
def f_X7_byteAt (σ : St) (v1 : Int32) : Option Int32 :=
  (if v1 < 0 then
    some (-1 : Int32)
     else
    (if v1 < (σ.1 6 1) then
      (if v1 < (160 : Int32) then
        ck v1 160 <|
          some (σ.1 7 v1.toNatClampNeg)
         else
        some (-1 : Int32))
       else
      some (-1 : Int32)))
set_option maxHeartbeats 4000000 in
set_option maxRecDepth 100000 in
theorem c_X7_byteAt (l : Launch) (E : Ev) (hF : Full E) (σ : St) (v1 : Int32) : Ctr l enI (fun _ => σ) E md_X7_byteAt [rV E 6, .int v1] σ (f_X7_byteAt σ v1) := by
  refine ctr_of rfl (Nat.le_of_ble_eq_true rfl) (fun Γ => ?_)
  show Sim _ Γ _ E md_X7_byteAt σ 0 [(0, rV E 6), (1, .int v1)] [] _
  unfold f_X7_byteAt
  refine s_iload_n dX7_byteAt_0 1 rfl rfl ?_
  refine s_if_lt 28 dX7_byteAt_1 (by decide) ?_ ?_
  · skip
    refine s_iconst (v := -1) dX7_byteAt_28 (by decide) ?_
    exact s_ireturn rfl rfl rfl dX7_byteAt_29
  · skip
    refine s_iload_n dX7_byteAt_4 1 rfl rfl ?_
    refine s_aload_n dX7_byteAt_5 0 rfl rfl ?_
    refine s_geti gf_X7_24 rfl (m6 hF) k6 (ft_of k6 rfl) dX7_byteAt_6 ?_
    refine s_icmp_ge 28 dX7_byteAt_9 (by decide) ?_ ?_
    · skip
      refine s_iload_n dX7_byteAt_12 1 rfl rfl ?_
      refine s_sipush (v := 160) dX7_byteAt_13 (by decide) ?_
      refine s_icmp_ge 28 dX7_byteAt_16 (by decide) ?_ ?_
      · skip
        refine s_aload_n dX7_byteAt_19 0 rfl rfl ?_
        refine s_getr (b := 7) gf_X7_11 rfl (m6 hF) k6 (ft_of k6 rfl) (hF.2 _ _) rfl dX7_byteAt_20 ?_
        refine s_iload_n dX7_byteAt_23 1 rfl rfl ?_
        refine s_iald (m7 hF) k7 l7 dX7_byteAt_24 ?_
        refine s_goto 29 dX7_byteAt_25 (by decide) ?_
        exact s_ireturn rfl rfl rfl dX7_byteAt_29
      · skip
        refine s_iconst (v := -1) dX7_byteAt_28 (by decide) ?_
        exact s_ireturn rfl rfl rfl dX7_byteAt_29
    · skip
      refine s_iconst (v := -1) dX7_byteAt_28 (by decide) ?_
      exact s_ireturn rfl rfl rfl dX7_byteAt_29
theorem dX7_kindAt_0 : decode cX7_kindAt 0 = .ok (.aload_n 0, 1) := by decide +kernel
theorem dX7_kindAt_1 : decode cX7_kindAt 1 = .ok (.iload_n 1, 1) := by decide +kernel
theorem dX7_kindAt_2 : decode cX7_kindAt 2 = .ok (.invokevirtual 49, 3) := by decide +kernel
theorem dX7_kindAt_5 : decode cX7_kindAt 5 = .ok (.istore_n 2, 1) := by decide +kernel
theorem dX7_kindAt_6 : decode cX7_kindAt 6 = .ok (.iload_n 2, 1) := by decide +kernel
theorem dX7_kindAt_7 : decode cX7_kindAt 7 = .ok (.bipush 97, 2) := by decide +kernel
theorem dX7_kindAt_9 : decode cX7_kindAt 9 = .ok (.if_icmp .lt 11, 3) := by decide +kernel
theorem dX7_kindAt_12 : decode cX7_kindAt 12 = .ok (.iload_n 2, 1) := by decide +kernel
theorem dX7_kindAt_13 : decode cX7_kindAt 13 = .ok (.bipush 122, 2) := by decide +kernel
theorem dX7_kindAt_15 : decode cX7_kindAt 15 = .ok (.if_icmp .gt 5, 3) := by decide +kernel
theorem dX7_kindAt_18 : decode cX7_kindAt 18 = .ok (.iconst 1, 1) := by decide +kernel
theorem dX7_kindAt_19 : decode cX7_kindAt 19 = .ok (.ireturn, 1) := by decide +kernel
theorem dX7_kindAt_20 : decode cX7_kindAt 20 = .ok (.iload_n 2, 1) := by decide +kernel
theorem dX7_kindAt_21 : decode cX7_kindAt 21 = .ok (.bipush 48, 2) := by decide +kernel
theorem dX7_kindAt_23 : decode cX7_kindAt 23 = .ok (.if_icmp .lt 13, 3) := by decide +kernel
theorem dX7_kindAt_26 : decode cX7_kindAt 26 = .ok (.iload_n 2, 1) := by decide +kernel
theorem dX7_kindAt_27 : decode cX7_kindAt 27 = .ok (.bipush 57, 2) := by decide +kernel
theorem dX7_kindAt_29 : decode cX7_kindAt 29 = .ok (.if_icmp .gt 7, 3) := by decide +kernel
theorem dX7_kindAt_32 : decode cX7_kindAt 32 = .ok (.iconst 2, 1) := by decide +kernel
theorem dX7_kindAt_33 : decode cX7_kindAt 33 = .ok (.goto 4, 3) := by decide +kernel
theorem dX7_kindAt_36 : decode cX7_kindAt 36 = .ok (.iconst 0, 1) := by decide +kernel
theorem dX7_kindAt_37 : decode cX7_kindAt 37 = .ok (.ireturn, 1) := by decide +kernel
def f_X7_kindAt (σ : St) (v1 : Int32) : Option Int32 :=
  calP (f_X7_byteAt σ v1) fun r1 =>
    jn0 (fun jk2 =>
      (if r1 < (97 : Int32) then
        jk2
         else
        (if (122 : Int32) < r1 then
          jk2
           else
          some (1 : Int32))))
      (
      (if r1 < (48 : Int32) then
          some (0 : Int32)
           else
          (if (57 : Int32) < r1 then
            some (0 : Int32)
             else
            some (2 : Int32))))
set_option maxHeartbeats 4000000 in
set_option maxRecDepth 100000 in
theorem c_X7_kindAt (l : Launch) (E : Ev) (hF : Full E) (σ : St) (v1 : Int32) : Ctr l enI (fun _ => σ) E md_X7_kindAt [rV E 6, .int v1] σ (f_X7_kindAt σ v1) := by
  refine ctr_of rfl (Nat.le_of_ble_eq_true rfl) (fun Γ => ?_)
  show Sim _ Γ _ E md_X7_kindAt σ 0 [(0, rV E 6), (1, .int v1)] [] _
  unfold f_X7_kindAt
  refine s_aload_n dX7_kindAt_0 0 rfl rfl ?_
  refine s_iload_n dX7_kindAt_1 1 rfl rfl ?_
  refine s_callVpI (As := [.int v1]) mf_X7_byteAt vf_X7_byteAt ml_X7_49 (c_X7_byteAt _ E hF σ v1) (m6 hF) k6 (by decide) rfl rfl rfl rfl (Nat.le_of_ble_eq_true rfl) rfl dX7_kindAt_2 (fun r1 => ?_)
  refine s_istore_n [(2, .int r1), (0, rV E 6), (1, .int v1)] dX7_kindAt_5 rfl (by decide) rfl ?_
  refine s_iload_n dX7_kindAt_6 0 rfl rfl ?_
  refine s_bipush (v := 97) dX7_kindAt_7 (by decide) ?_
  refine s_jn0 σ 20 [(2, .int r1)] [] ?_ ?_
  · skip
    refine s_iload_n dX7_kindAt_20 0 rfl rfl ?_
    refine s_bipush (v := 48) dX7_kindAt_21 (by decide) ?_
    refine s_icmp_lt 36 dX7_kindAt_23 (by decide) ?_ ?_
    · skip
      refine s_iconst (v := 0) dX7_kindAt_36 (by decide) ?_
      exact s_ireturn rfl rfl rfl dX7_kindAt_37
    · skip
      refine s_iload_n dX7_kindAt_26 0 rfl rfl ?_
      refine s_bipush (v := 57) dX7_kindAt_27 (by decide) ?_
      refine s_icmp_gt 36 dX7_kindAt_29 (by decide) ?_ ?_
      · skip
        refine s_iconst (v := 0) dX7_kindAt_36 (by decide) ?_
        exact s_ireturn rfl rfl rfl dX7_kindAt_37
      · skip
        refine s_iconst (v := 2) dX7_kindAt_32 (by decide) ?_
        refine s_goto 37 dX7_kindAt_33 (by decide) ?_
        exact s_ireturn rfl rfl rfl dX7_kindAt_37
  · intro jk2 hjk2
    refine s_icmp_lt 20 dX7_kindAt_9 (by decide) ?_ ?_
    · skip
      refine s_sub [0] rfl ?_
      exact hjk2
    · skip
      refine s_iload_n dX7_kindAt_12 0 rfl rfl ?_
      refine s_bipush (v := 122) dX7_kindAt_13 (by decide) ?_
      refine s_icmp_gt 20 dX7_kindAt_15 (by decide) ?_ ?_
      · skip
        refine s_sub [0] rfl ?_
        exact hjk2
      · skip
        refine s_iconst (v := 1) dX7_kindAt_18 (by decide) ?_
        exact s_ireturn rfl rfl rfl dX7_kindAt_19
theorem dX7_nextToken_0 : decode cX7_nextToken 0 = .ok (.aload_n 0, 1) := by decide +kernel
theorem dX7_nextToken_1 : decode cX7_nextToken 1 = .ok (.aload_n 0, 1) := by decide +kernel
theorem dX7_nextToken_2 : decode cX7_nextToken 2 = .ok (.getfield 30, 3) := by decide +kernel
theorem dX7_nextToken_5 : decode cX7_nextToken 5 = .ok (.putfield 43, 3) := by decide +kernel
theorem dX7_nextToken_8 : decode cX7_nextToken 8 = .ok (.aload_n 0, 1) := by decide +kernel
theorem dX7_nextToken_9 : decode cX7_nextToken 9 = .ok (.getfield 43, 3) := by decide +kernel
theorem dX7_nextToken_12 : decode cX7_nextToken 12 = .ok (.aload_n 0, 1) := by decide +kernel
theorem dX7_nextToken_13 : decode cX7_nextToken 13 = .ok (.getfield 24, 3) := by decide +kernel
theorem dX7_nextToken_16 : decode cX7_nextToken 16 = .ok (.if_icmp .ge 29, 3) := by decide +kernel
theorem dX7_nextToken_19 : decode cX7_nextToken 19 = .ok (.aload_n 0, 1) := by decide +kernel
theorem dX7_nextToken_20 : decode cX7_nextToken 20 = .ok (.aload_n 0, 1) := by decide +kernel
theorem dX7_nextToken_21 : decode cX7_nextToken 21 = .ok (.getfield 43, 3) := by decide +kernel
theorem dX7_nextToken_24 : decode cX7_nextToken 24 = .ok (.invokevirtual 49, 3) := by decide +kernel
theorem dX7_nextToken_27 : decode cX7_nextToken 27 = .ok (.bipush 32, 2) := by decide +kernel
theorem dX7_nextToken_29 : decode cX7_nextToken 29 = .ok (.if_icmp .ne 16, 3) := by decide +kernel
theorem dX7_nextToken_32 : decode cX7_nextToken 32 = .ok (.aload_n 0, 1) := by decide +kernel
theorem dX7_nextToken_33 : decode cX7_nextToken 33 = .ok (.dup, 1) := by decide +kernel
theorem dX7_nextToken_34 : decode cX7_nextToken 34 = .ok (.getfield 43, 3) := by decide +kernel
theorem dX7_nextToken_37 : decode cX7_nextToken 37 = .ok (.iconst 1, 1) := by decide +kernel
theorem dX7_nextToken_38 : decode cX7_nextToken 38 = .ok (.iadd, 1) := by decide +kernel
theorem dX7_nextToken_39 : decode cX7_nextToken 39 = .ok (.putfield 43, 3) := by decide +kernel
theorem dX7_nextToken_42 : decode cX7_nextToken 42 = .ok (.goto (-34), 3) := by decide +kernel
theorem dX7_nextToken_45 : decode cX7_nextToken 45 = .ok (.aload_n 0, 1) := by decide +kernel
theorem dX7_nextToken_46 : decode cX7_nextToken 46 = .ok (.aload_n 0, 1) := by decide +kernel
theorem dX7_nextToken_47 : decode cX7_nextToken 47 = .ok (.getfield 43, 3) := by decide +kernel
theorem dX7_nextToken_50 : decode cX7_nextToken 50 = .ok (.iconst 1, 1) := by decide +kernel
theorem dX7_nextToken_51 : decode cX7_nextToken 51 = .ok (.iadd, 1) := by decide +kernel
theorem dX7_nextToken_52 : decode cX7_nextToken 52 = .ok (.aload_n 0, 1) := by decide +kernel
theorem dX7_nextToken_53 : decode cX7_nextToken 53 = .ok (.getfield 24, 3) := by decide +kernel
theorem dX7_nextToken_56 : decode cX7_nextToken 56 = .ok (.invokestatic 73, 3) := by decide +kernel
theorem dX7_nextToken_59 : decode cX7_nextToken 59 = .ok (.putfield 30, 3) := by decide +kernel
theorem dX7_nextToken_62 : decode cX7_nextToken 62 = .ok (.aload_n 0, 1) := by decide +kernel
theorem dX7_nextToken_63 : decode cX7_nextToken 63 = .ok (.aload_n 0, 1) := by decide +kernel
theorem dX7_nextToken_64 : decode cX7_nextToken 64 = .ok (.getfield 43, 3) := by decide +kernel
theorem dX7_nextToken_67 : decode cX7_nextToken 67 = .ok (.invokevirtual 79, 3) := by decide +kernel
theorem dX7_nextToken_70 : decode cX7_nextToken 70 = .ok (.istore_n 1, 1) := by decide +kernel
theorem dX7_nextToken_71 : decode cX7_nextToken 71 = .ok (.aload_n 0, 1) := by decide +kernel
theorem dX7_nextToken_72 : decode cX7_nextToken 72 = .ok (.getfield 30, 3) := by decide +kernel
theorem dX7_nextToken_75 : decode cX7_nextToken 75 = .ok (.aload_n 0, 1) := by decide +kernel
theorem dX7_nextToken_76 : decode cX7_nextToken 76 = .ok (.getfield 24, 3) := by decide +kernel
theorem dX7_nextToken_79 : decode cX7_nextToken 79 = .ok (.if_icmp .ge 32, 3) := by decide +kernel
theorem dX7_nextToken_82 : decode cX7_nextToken 82 = .ok (.iload_n 1, 1) := by decide +kernel
theorem dX7_nextToken_83 : decode cX7_nextToken 83 = .ok (.ifCond .eq 28, 3) := by decide +kernel
theorem dX7_nextToken_86 : decode cX7_nextToken 86 = .ok (.aload_n 0, 1) := by decide +kernel
theorem dX7_nextToken_87 : decode cX7_nextToken 87 = .ok (.aload_n 0, 1) := by decide +kernel
theorem dX7_nextToken_88 : decode cX7_nextToken 88 = .ok (.getfield 30, 3) := by decide +kernel
theorem dX7_nextToken_91 : decode cX7_nextToken 91 = .ok (.invokevirtual 79, 3) := by decide +kernel
theorem dX7_nextToken_94 : decode cX7_nextToken 94 = .ok (.iload_n 1, 1) := by decide +kernel
theorem dX7_nextToken_95 : decode cX7_nextToken 95 = .ok (.if_icmp .ne 16, 3) := by decide +kernel
theorem dX7_nextToken_98 : decode cX7_nextToken 98 = .ok (.aload_n 0, 1) := by decide +kernel
theorem dX7_nextToken_99 : decode cX7_nextToken 99 = .ok (.dup, 1) := by decide +kernel
theorem dX7_nextToken_100 : decode cX7_nextToken 100 = .ok (.getfield 30, 3) := by decide +kernel
theorem dX7_nextToken_103 : decode cX7_nextToken 103 = .ok (.iconst 1, 1) := by decide +kernel
theorem dX7_nextToken_104 : decode cX7_nextToken 104 = .ok (.iadd, 1) := by decide +kernel
theorem dX7_nextToken_105 : decode cX7_nextToken 105 = .ok (.putfield 30, 3) := by decide +kernel
theorem dX7_nextToken_108 : decode cX7_nextToken 108 = .ok (.goto (-37), 3) := by decide +kernel
theorem dX7_nextToken_111 : decode cX7_nextToken 111 = .ok (.return_, 1) := by decide +kernel
def f_X7_nextToken (σ : St) : Option (Unit × St) :=
  bd (setI σ 6 2 (σ.1 6 3)) fun s1 =>
    lo1 FU (fun rec3 (s2 : St) =>
      jn0 (fun jk5 =>
        (if (s2.1 6 2) < (s2.1 6 1) then
          calP (f_X7_byteAt s2 (s2.1 6 2)) fun r13 =>
            (if r13 = (32 : Int32) then
              bd (setI s2 6 2 ((s2.1 6 2) + (1 : Int32))) fun s14 =>
                rec3 s14
               else
              jk5)
           else
          jk5))
        (
        bd (setI s2 6 3 (if (s2.1 6 1) < ((s2.1 6 2) + (1 : Int32)) then (s2.1 6 1) else ((s2.1 6 2) + (1 : Int32)))) fun s6 =>
            calP (f_X7_kindAt s6 (s6.1 6 2)) fun r7 =>
              lo1 FU (fun rec9 (s8 : St) =>
                (if (s8.1 6 3) < (s8.1 6 1) then
                  (if r7 = 0 then
                    some ((), s8)
                     else
                    calP (f_X7_kindAt s8 (s8.1 6 3)) fun r11 =>
                      (if r11 = r7 then
                        bd (setI s8 6 3 ((s8.1 6 3) + (1 : Int32))) fun s12 =>
                          rec9 s12
                         else
                        some ((), s8)))
                   else
                  some ((), s8))) s6)) s1
set_option maxHeartbeats 4000000 in
set_option maxRecDepth 100000 in
theorem c_X7_nextToken (l : Launch) (E : Ev) (hF : Full E) (σ : St) : Ctr l (en2 enV) (fun q => q.2) E md_X7_nextToken [rV E 6] σ (f_X7_nextToken σ) := by
  refine ctr_of rfl (Nat.le_of_ble_eq_true rfl) (fun Γ => ?_)
  show Sim _ Γ _ E md_X7_nextToken σ 0 [(0, rV E 6)] [] _
  unfold f_X7_nextToken
  refine s_aload_n dX7_nextToken_0 0 rfl rfl ?_
  refine s_aload_n dX7_nextToken_1 0 rfl rfl ?_
  refine s_geti gf_X7_30 rfl (m6 hF) k6 (ft_of k6 rfl) dX7_nextToken_2 ?_
  refine s_puti gf_X7_43 rfl (m6 hF) k6 (ft_of k6 rfl) dX7_nextToken_5 (fun s1 => ?_)
  refine s_lo1 (σf := fun s2 => s2) (lvf := fun s2 => [(0, rV E 6)]) (fun rec3 ih4 s2 => ?_)
  refine s_aload_n dX7_nextToken_8 0 rfl rfl ?_
  refine s_geti gf_X7_43 rfl (m6 hF) k6 (ft_of k6 rfl) dX7_nextToken_9 ?_
  refine s_aload_n dX7_nextToken_12 0 rfl rfl ?_
  refine s_geti gf_X7_24 rfl (m6 hF) k6 (ft_of k6 rfl) dX7_nextToken_13 ?_
  refine s_jn0 s2 45 [(0, rV E 6)] [] ?_ ?_
  · skip
    refine s_aload_n dX7_nextToken_45 0 rfl rfl ?_
    refine s_aload_n dX7_nextToken_46 0 rfl rfl ?_
    refine s_geti gf_X7_43 rfl (m6 hF) k6 (ft_of k6 rfl) dX7_nextToken_47 ?_
    refine s_iconst (v := 1) dX7_nextToken_50 (by decide) ?_
    refine s_iadd dX7_nextToken_51 ?_
    refine s_aload_n dX7_nextToken_52 0 rfl rfl ?_
    refine s_geti gf_X7_24 rfl (m6 hF) k6 (ft_of k6 rfl) dX7_nextToken_53 ?_
    refine s_mmin ml_X7_73 rfl dX7_nextToken_56 ?_
    refine s_puti gf_X7_30 rfl (m6 hF) k6 (ft_of k6 rfl) dX7_nextToken_59 (fun s6 => ?_)
    refine s_aload_n dX7_nextToken_62 0 rfl rfl ?_
    refine s_aload_n dX7_nextToken_63 0 rfl rfl ?_
    refine s_geti gf_X7_43 rfl (m6 hF) k6 (ft_of k6 rfl) dX7_nextToken_64 ?_
    refine s_callVpI (As := [.int (s6.1 6 2)]) mf_X7_kindAt vf_X7_kindAt ml_X7_79 (c_X7_kindAt _ E hF s6 (s6.1 6 2)) (m6 hF) k6 (by decide) rfl rfl rfl rfl (Nat.le_of_ble_eq_true rfl) rfl dX7_nextToken_67 (fun r7 => ?_)
    refine s_istore_n [(1, .int r7), (0, rV E 6)] dX7_nextToken_70 rfl (by decide) rfl ?_
    refine s_sub (lv' := [(0, rV E 6), (1, .int r7)]) [1, 0] rfl ?_
    refine s_lo1 (σf := fun s8 => s8) (lvf := fun s8 => [(0, rV E 6), (1, .int r7)]) (fun rec9 ih10 s8 => ?_)
    refine s_aload_n dX7_nextToken_71 0 rfl rfl ?_
    refine s_geti gf_X7_30 rfl (m6 hF) k6 (ft_of k6 rfl) dX7_nextToken_72 ?_
    refine s_aload_n dX7_nextToken_75 0 rfl rfl ?_
    refine s_geti gf_X7_24 rfl (m6 hF) k6 (ft_of k6 rfl) dX7_nextToken_76 ?_
    refine s_icmp_ge 111 dX7_nextToken_79 (by decide) ?_ ?_
    · skip
      refine s_iload_n dX7_nextToken_82 1 rfl rfl ?_
      refine s_if_eq 111 dX7_nextToken_83 (by decide) ?_ ?_
      · skip
        exact s_return rfl rfl rfl dX7_nextToken_111
      · skip
        refine s_aload_n dX7_nextToken_86 0 rfl rfl ?_
        refine s_aload_n dX7_nextToken_87 0 rfl rfl ?_
        refine s_geti gf_X7_30 rfl (m6 hF) k6 (ft_of k6 rfl) dX7_nextToken_88 ?_
        refine s_callVpI (As := [.int (s8.1 6 3)]) mf_X7_kindAt vf_X7_kindAt ml_X7_79 (c_X7_kindAt _ E hF s8 (s8.1 6 3)) (m6 hF) k6 (by decide) rfl rfl rfl rfl (Nat.le_of_ble_eq_true rfl) rfl dX7_nextToken_91 (fun r11 => ?_)
        refine s_iload_n dX7_nextToken_94 1 rfl rfl ?_
        refine s_icmp_ne 111 dX7_nextToken_95 (by decide) ?_ ?_
        · skip
          refine s_aload_n dX7_nextToken_98 0 rfl rfl ?_
          refine s_dup dX7_nextToken_99 rfl ?_
          refine s_geti gf_X7_30 rfl (m6 hF) k6 (ft_of k6 rfl) dX7_nextToken_100 ?_
          refine s_iconst (v := 1) dX7_nextToken_103 (by decide) ?_
          refine s_iadd dX7_nextToken_104 ?_
          refine s_puti gf_X7_30 rfl (m6 hF) k6 (ft_of k6 rfl) dX7_nextToken_105 (fun s12 => ?_)
          refine s_goto 71 dX7_nextToken_108 (by decide) ?_
          exact ih10 s12
        · skip
          exact s_return rfl rfl rfl dX7_nextToken_111
    · skip
      exact s_return rfl rfl rfl dX7_nextToken_111
  · intro jk5 hjk5
    refine s_icmp_ge 45 dX7_nextToken_16 (by decide) ?_ ?_
    · skip
      refine s_aload_n dX7_nextToken_19 0 rfl rfl ?_
      refine s_aload_n dX7_nextToken_20 0 rfl rfl ?_
      refine s_geti gf_X7_43 rfl (m6 hF) k6 (ft_of k6 rfl) dX7_nextToken_21 ?_
      refine s_callVpI (As := [.int (s2.1 6 2)]) mf_X7_byteAt vf_X7_byteAt ml_X7_49 (c_X7_byteAt _ E hF s2 (s2.1 6 2)) (m6 hF) k6 (by decide) rfl rfl rfl rfl (Nat.le_of_ble_eq_true rfl) rfl dX7_nextToken_24 (fun r13 => ?_)
      refine s_bipush (v := 32) dX7_nextToken_27 (by decide) ?_
      refine s_icmp_ne 45 dX7_nextToken_29 (by decide) ?_ ?_
      · skip
        refine s_aload_n dX7_nextToken_32 0 rfl rfl ?_
        refine s_dup dX7_nextToken_33 rfl ?_
        refine s_geti gf_X7_43 rfl (m6 hF) k6 (ft_of k6 rfl) dX7_nextToken_34 ?_
        refine s_iconst (v := 1) dX7_nextToken_37 (by decide) ?_
        refine s_iadd dX7_nextToken_38 ?_
        refine s_puti gf_X7_43 rfl (m6 hF) k6 (ft_of k6 rfl) dX7_nextToken_39 (fun s14 => ?_)
        refine s_goto 8 dX7_nextToken_42 (by decide) ?_
        exact ih4 s14
      · skip
        exact hjk5
    · skip
      exact hjk5
theorem dX7_isWord_0 : decode cX7_isWord 0 = .ok (.aload_n 0, 1) := by decide +kernel
theorem dX7_isWord_1 : decode cX7_isWord 1 = .ok (.getfield 30, 3) := by decide +kernel
theorem dX7_isWord_4 : decode cX7_isWord 4 = .ok (.aload_n 0, 1) := by decide +kernel
theorem dX7_isWord_5 : decode cX7_isWord 5 = .ok (.getfield 43, 3) := by decide +kernel
theorem dX7_isWord_8 : decode cX7_isWord 8 = .ok (.isub, 1) := by decide +kernel
theorem dX7_isWord_9 : decode cX7_isWord 9 = .ok (.aload_n 1, 1) := by decide +kernel
theorem dX7_isWord_10 : decode cX7_isWord 10 = .ok (.invokevirtual 92, 3) := by decide +kernel
theorem dX7_isWord_13 : decode cX7_isWord 13 = .ok (.if_icmp .eq 5, 3) := by decide +kernel
theorem dX7_isWord_16 : decode cX7_isWord 16 = .ok (.iconst 0, 1) := by decide +kernel
theorem dX7_isWord_17 : decode cX7_isWord 17 = .ok (.ireturn, 1) := by decide +kernel
theorem dX7_isWord_18 : decode cX7_isWord 18 = .ok (.iconst 0, 1) := by decide +kernel
theorem dX7_isWord_19 : decode cX7_isWord 19 = .ok (.istore_n 2, 1) := by decide +kernel
theorem dX7_isWord_20 : decode cX7_isWord 20 = .ok (.iload_n 2, 1) := by decide +kernel
theorem dX7_isWord_21 : decode cX7_isWord 21 = .ok (.aload_n 1, 1) := by decide +kernel
theorem dX7_isWord_22 : decode cX7_isWord 22 = .ok (.invokevirtual 92, 3) := by decide +kernel
theorem dX7_isWord_25 : decode cX7_isWord 25 = .ok (.if_icmp .ge 29, 3) := by decide +kernel
theorem dX7_isWord_28 : decode cX7_isWord 28 = .ok (.aload_n 0, 1) := by decide +kernel
theorem dX7_isWord_29 : decode cX7_isWord 29 = .ok (.aload_n 0, 1) := by decide +kernel
theorem dX7_isWord_30 : decode cX7_isWord 30 = .ok (.getfield 43, 3) := by decide +kernel
theorem dX7_isWord_33 : decode cX7_isWord 33 = .ok (.iload_n 2, 1) := by decide +kernel
theorem dX7_isWord_34 : decode cX7_isWord 34 = .ok (.iadd, 1) := by decide +kernel
theorem dX7_isWord_35 : decode cX7_isWord 35 = .ok (.invokevirtual 49, 3) := by decide +kernel
theorem dX7_isWord_38 : decode cX7_isWord 38 = .ok (.aload_n 1, 1) := by decide +kernel
theorem dX7_isWord_39 : decode cX7_isWord 39 = .ok (.iload_n 2, 1) := by decide +kernel
theorem dX7_isWord_40 : decode cX7_isWord 40 = .ok (.invokevirtual 96, 3) := by decide +kernel
theorem dX7_isWord_43 : decode cX7_isWord 43 = .ok (.if_icmp .eq 5, 3) := by decide +kernel
theorem dX7_isWord_46 : decode cX7_isWord 46 = .ok (.iconst 0, 1) := by decide +kernel
theorem dX7_isWord_47 : decode cX7_isWord 47 = .ok (.ireturn, 1) := by decide +kernel
theorem dX7_isWord_48 : decode cX7_isWord 48 = .ok (.iinc 2 1, 3) := by decide +kernel
theorem dX7_isWord_51 : decode cX7_isWord 51 = .ok (.goto (-31), 3) := by decide +kernel
theorem dX7_isWord_54 : decode cX7_isWord 54 = .ok (.iconst 1, 1) := by decide +kernel
theorem dX7_isWord_55 : decode cX7_isWord 55 = .ok (.ireturn, 1) := by decide +kernel
def f_X7_isWord (σ : St) (w : Nat) : Option Int32 :=
  calP (f_J0_length_8abf5 σ w) fun r1 =>
    (if ((σ.1 6 3) - (σ.1 6 2)) = r1 then
      lo1 FU (fun rec3 (x2 : Int32) =>
        calP (f_J0_length_8abf5 σ w) fun r5 =>
          (if x2 < r5 then
            calP (f_X7_byteAt σ ((σ.1 6 2) + x2)) fun r6 =>
              calP (f_J0_charAt_5068e σ w x2) fun r7 =>
                (if r6 = r7 then
                  rec3 (x2 + 1)
                   else
                  some (0 : Int32))
             else
            some (1 : Int32))) (0 : Int32)
       else
      some (0 : Int32))
set_option maxHeartbeats 4000000 in
set_option maxRecDepth 100000 in
theorem c_X7_isWord (l : Launch) (E : Ev) (hF : Full E) (σ : St) (w : Nat) (hw : w < 3) : Ctr l enI (fun _ => σ) E md_X7_isWord [rV E 6, rV E (130 + w)] σ (f_X7_isWord σ w) := by
  refine ctr_of rfl (Nat.le_of_ble_eq_true rfl) (fun Γ => ?_)
  show Sim _ Γ _ E md_X7_isWord σ 0 [(0, rV E 6), (1, rV E (130 + w))] [] _
  unfold f_X7_isWord
  refine s_aload_n dX7_isWord_0 0 rfl rfl ?_
  refine s_geti gf_X7_30 rfl (m6 hF) k6 (ft_of k6 rfl) dX7_isWord_1 ?_
  refine s_aload_n dX7_isWord_4 0 rfl rfl ?_
  refine s_geti gf_X7_43 rfl (m6 hF) k6 (ft_of k6 rfl) dX7_isWord_5 ?_
  refine s_isub dX7_isWord_8 ?_
  refine s_aload_n dX7_isWord_9 1 rfl rfl ?_
  refine s_callTpI (As := []) mf_J0_length_8abf5 vf_J0_length_8abf5 ml_X7_92 rfl hw (c_J0_length_8abf5 _ E hF σ w hw) rfl rfl (Nat.le_of_ble_eq_true rfl) rfl dX7_isWord_10 (fun r1 => ?_)
  refine s_icmp_eq 18 dX7_isWord_13 (by decide) ?_ ?_
  · skip
    refine s_iconst (v := 0) dX7_isWord_18 (by decide) ?_
    refine s_istore_n [(2, .int (0 : Int32)), (0, rV E 6), (1, rV E (130 + w))] dX7_isWord_19 rfl (by decide) rfl ?_
    refine s_sub (lv' := [(0, rV E 6), (1, rV E (130 + w)), (2, .int (0 : Int32))]) [1, 2, 0] rfl ?_
    refine s_lo1 (σf := fun x2 => σ) (lvf := fun x2 => [(0, rV E 6), (1, rV E (130 + w)), (2, .int x2)]) (fun rec3 ih4 x2 => ?_)
    refine s_iload_n dX7_isWord_20 2 rfl rfl ?_
    refine s_aload_n dX7_isWord_21 1 rfl rfl ?_
    refine s_callTpI (As := []) mf_J0_length_8abf5 vf_J0_length_8abf5 ml_X7_92 rfl hw (c_J0_length_8abf5 _ E hF σ w hw) rfl rfl (Nat.le_of_ble_eq_true rfl) rfl dX7_isWord_22 (fun r5 => ?_)
    refine s_icmp_ge 54 dX7_isWord_25 (by decide) ?_ ?_
    · skip
      refine s_aload_n dX7_isWord_28 0 rfl rfl ?_
      refine s_aload_n dX7_isWord_29 0 rfl rfl ?_
      refine s_geti gf_X7_43 rfl (m6 hF) k6 (ft_of k6 rfl) dX7_isWord_30 ?_
      refine s_iload_n dX7_isWord_33 2 rfl rfl ?_
      refine s_iadd dX7_isWord_34 ?_
      refine s_callVpI (As := [.int ((σ.1 6 2) + x2)]) mf_X7_byteAt vf_X7_byteAt ml_X7_49 (c_X7_byteAt _ E hF σ ((σ.1 6 2) + x2)) (m6 hF) k6 (by decide) rfl rfl rfl rfl (Nat.le_of_ble_eq_true rfl) rfl dX7_isWord_35 (fun r6 => ?_)
      refine s_aload_n dX7_isWord_38 1 rfl rfl ?_
      refine s_iload_n dX7_isWord_39 2 rfl rfl ?_
      refine s_callTpI (As := [.int x2]) mf_J0_charAt_5068e vf_J0_charAt_5068e ml_X7_96 rfl hw (c_J0_charAt_5068e _ E hF σ w hw x2) rfl rfl (Nat.le_of_ble_eq_true rfl) rfl dX7_isWord_40 (fun r7 => ?_)
      refine s_icmp_eq 48 dX7_isWord_43 (by decide) ?_ ?_
      · skip
        refine s_iinc [(2, .int (x2 + 1)), (0, rV E 6), (1, rV E (130 + w))] dX7_isWord_48 2 rfl rfl (by decide) rfl ?_
        refine s_goto 20 dX7_isWord_51 (by decide) ?_
        refine s_sub [1, 2, 0] rfl ?_
        exact ih4 (x2 + 1)
      · skip
        refine s_iconst (v := 0) dX7_isWord_46 (by decide) ?_
        exact s_zreturn rfl (by decide) rfl rfl dX7_isWord_47
    · skip
      refine s_iconst (v := 1) dX7_isWord_54 (by decide) ?_
      exact s_zreturn rfl (by decide) rfl rfl dX7_isWord_55
  · skip
    refine s_iconst (v := 0) dX7_isWord_16 (by decide) ?_
    exact s_zreturn rfl (by decide) rfl rfl dX7_isWord_17
theorem dX7_lineKind_0 : decode cX7_lineKind 0 = .ok (.aload_n 0, 1) := by decide +kernel
theorem dX7_lineKind_1 : decode cX7_lineKind 1 = .ok (.ldc 82, 2) := by decide +kernel
theorem dX7_lineKind_3 : decode cX7_lineKind 3 = .ok (.invokevirtual 84, 3) := by decide +kernel
theorem dX7_lineKind_6 : decode cX7_lineKind 6 = .ok (.ifCond .eq 5, 3) := by decide +kernel
theorem dX7_lineKind_9 : decode cX7_lineKind 9 = .ok (.iconst 0, 1) := by decide +kernel
theorem dX7_lineKind_10 : decode cX7_lineKind 10 = .ok (.ireturn, 1) := by decide +kernel
theorem dX7_lineKind_11 : decode cX7_lineKind 11 = .ok (.aload_n 0, 1) := by decide +kernel
theorem dX7_lineKind_12 : decode cX7_lineKind 12 = .ok (.ldc 88, 2) := by decide +kernel
theorem dX7_lineKind_14 : decode cX7_lineKind 14 = .ok (.invokevirtual 84, 3) := by decide +kernel
theorem dX7_lineKind_17 : decode cX7_lineKind 17 = .ok (.ifCond .eq 5, 3) := by decide +kernel
theorem dX7_lineKind_20 : decode cX7_lineKind 20 = .ok (.iconst 1, 1) := by decide +kernel
theorem dX7_lineKind_21 : decode cX7_lineKind 21 = .ok (.ireturn, 1) := by decide +kernel
theorem dX7_lineKind_22 : decode cX7_lineKind 22 = .ok (.aload_n 0, 1) := by decide +kernel
theorem dX7_lineKind_23 : decode cX7_lineKind 23 = .ok (.ldc 90, 2) := by decide +kernel
theorem dX7_lineKind_25 : decode cX7_lineKind 25 = .ok (.invokevirtual 84, 3) := by decide +kernel
theorem dX7_lineKind_28 : decode cX7_lineKind 28 = .ok (.ifCond .eq 7, 3) := by decide +kernel
theorem dX7_lineKind_31 : decode cX7_lineKind 31 = .ok (.iconst 2, 1) := by decide +kernel
theorem dX7_lineKind_32 : decode cX7_lineKind 32 = .ok (.goto 4, 3) := by decide +kernel
theorem dX7_lineKind_35 : decode cX7_lineKind 35 = .ok (.iconst (-1), 1) := by decide +kernel
theorem dX7_lineKind_36 : decode cX7_lineKind 36 = .ok (.ireturn, 1) := by decide +kernel
def f_X7_lineKind (σ : St) : Option Int32 :=
  calP (f_X7_isWord σ 0) fun r1 =>
    (if r1 = 0 then
      calP (f_X7_isWord σ 1) fun r2 =>
        (if r2 = 0 then
          calP (f_X7_isWord σ 2) fun r3 =>
            (if r3 = 0 then
              some (-1 : Int32)
               else
              some (2 : Int32))
           else
          some (1 : Int32))
       else
      some (0 : Int32))
set_option maxHeartbeats 4000000 in
set_option maxRecDepth 100000 in
theorem c_X7_lineKind (l : Launch) (E : Ev) (hF : Full E) (σ : St) : Ctr l enI (fun _ => σ) E md_X7_lineKind [rV E 6] σ (f_X7_lineKind σ) := by
  refine ctr_of rfl (Nat.le_of_ble_eq_true rfl) (fun Γ => ?_)
  show Sim _ Γ _ E md_X7_lineKind σ 0 [(0, rV E 6)] [] _
  unfold f_X7_lineKind
  refine s_aload_n dX7_lineKind_0 0 rfl rfl ?_
  refine s_ldcT0 rfl dX7_lineKind_1 ?_
  refine s_callVpI (As := [rV E (130 + 0)]) mf_X7_isWord vf_X7_isWord ml_X7_84 (c_X7_isWord _ E hF σ 0 (by decide)) (m6 hF) k6 (by decide) rfl rfl rfl rfl (Nat.le_of_ble_eq_true rfl) rfl dX7_lineKind_3 (fun r1 => ?_)
  refine s_if_eq 11 dX7_lineKind_6 (by decide) ?_ ?_
  · skip
    refine s_aload_n dX7_lineKind_11 0 rfl rfl ?_
    refine s_ldcT1 rfl dX7_lineKind_12 ?_
    refine s_callVpI (As := [rV E (130 + 1)]) mf_X7_isWord vf_X7_isWord ml_X7_84 (c_X7_isWord _ E hF σ 1 (by decide)) (m6 hF) k6 (by decide) rfl rfl rfl rfl (Nat.le_of_ble_eq_true rfl) rfl dX7_lineKind_14 (fun r2 => ?_)
    refine s_if_eq 22 dX7_lineKind_17 (by decide) ?_ ?_
    · skip
      refine s_aload_n dX7_lineKind_22 0 rfl rfl ?_
      refine s_ldcT2 rfl dX7_lineKind_23 ?_
      refine s_callVpI (As := [rV E (130 + 2)]) mf_X7_isWord vf_X7_isWord ml_X7_84 (c_X7_isWord _ E hF σ 2 (by decide)) (m6 hF) k6 (by decide) rfl rfl rfl rfl (Nat.le_of_ble_eq_true rfl) rfl dX7_lineKind_25 (fun r3 => ?_)
      refine s_if_eq 35 dX7_lineKind_28 (by decide) ?_ ?_
      · skip
        refine s_iconst (v := -1) dX7_lineKind_35 (by decide) ?_
        exact s_ireturn rfl rfl rfl dX7_lineKind_36
      · skip
        refine s_iconst (v := 2) dX7_lineKind_31 (by decide) ?_
        refine s_goto 36 dX7_lineKind_32 (by decide) ?_
        exact s_ireturn rfl rfl rfl dX7_lineKind_36
    · skip
      refine s_iconst (v := 1) dX7_lineKind_20 (by decide) ?_
      exact s_ireturn rfl rfl rfl dX7_lineKind_21
  · skip
    refine s_iconst (v := 0) dX7_lineKind_9 (by decide) ?_
    exact s_ireturn rfl rfl rfl dX7_lineKind_10
theorem dX7_number_0 : decode cX7_number 0 = .ok (.aload_n 0, 1) := by decide +kernel
theorem dX7_number_1 : decode cX7_number 1 = .ok (.getfield 30, 3) := by decide +kernel
theorem dX7_number_4 : decode cX7_number 4 = .ok (.aload_n 0, 1) := by decide +kernel
theorem dX7_number_5 : decode cX7_number 5 = .ok (.getfield 43, 3) := by decide +kernel
theorem dX7_number_8 : decode cX7_number 8 = .ok (.isub, 1) := by decide +kernel
theorem dX7_number_9 : decode cX7_number 9 = .ok (.iconst 1, 1) := by decide +kernel
theorem dX7_number_10 : decode cX7_number 10 = .ok (.if_icmp .ne 19, 3) := by decide +kernel
theorem dX7_number_13 : decode cX7_number 13 = .ok (.aload_n 0, 1) := by decide +kernel
theorem dX7_number_14 : decode cX7_number 14 = .ok (.aload_n 0, 1) := by decide +kernel
theorem dX7_number_15 : decode cX7_number 15 = .ok (.getfield 43, 3) := by decide +kernel
theorem dX7_number_18 : decode cX7_number 18 = .ok (.invokevirtual 79, 3) := by decide +kernel
theorem dX7_number_21 : decode cX7_number 21 = .ok (.iconst 2, 1) := by decide +kernel
theorem dX7_number_22 : decode cX7_number 22 = .ok (.if_icmp .ne 7, 3) := by decide +kernel
theorem dX7_number_25 : decode cX7_number 25 = .ok (.iconst 1, 1) := by decide +kernel
theorem dX7_number_26 : decode cX7_number 26 = .ok (.goto 4, 3) := by decide +kernel
theorem dX7_number_29 : decode cX7_number 29 = .ok (.iconst 0, 1) := by decide +kernel
theorem dX7_number_30 : decode cX7_number 30 = .ok (.istore_n 1, 1) := by decide +kernel
theorem dX7_number_31 : decode cX7_number 31 = .ok (.iload_n 1, 1) := by decide +kernel
theorem dX7_number_32 : decode cX7_number 32 = .ok (.ifCond .eq 17, 3) := by decide +kernel
theorem dX7_number_35 : decode cX7_number 35 = .ok (.aload_n 0, 1) := by decide +kernel
theorem dX7_number_36 : decode cX7_number 36 = .ok (.aload_n 0, 1) := by decide +kernel
theorem dX7_number_37 : decode cX7_number 37 = .ok (.getfield 43, 3) := by decide +kernel
theorem dX7_number_40 : decode cX7_number 40 = .ok (.invokevirtual 49, 3) := by decide +kernel
theorem dX7_number_43 : decode cX7_number 43 = .ok (.bipush 48, 2) := by decide +kernel
theorem dX7_number_45 : decode cX7_number 45 = .ok (.isub, 1) := by decide +kernel
theorem dX7_number_46 : decode cX7_number 46 = .ok (.goto 4, 3) := by decide +kernel
theorem dX7_number_49 : decode cX7_number 49 = .ok (.iconst (-1), 1) := by decide +kernel
theorem dX7_number_50 : decode cX7_number 50 = .ok (.ireturn, 1) := by decide +kernel
def f_X7_number (σ : St) : Option Int32 :=
  jn1 (fun jk2 =>
    (if ((σ.1 6 3) - (σ.1 6 2)) = (1 : Int32) then
      calP (f_X7_kindAt σ (σ.1 6 2)) fun r4 =>
        (if r4 = (2 : Int32) then
          jk2 (1 : Int32)
           else
          jk2 (0 : Int32))
       else
      jk2 (0 : Int32)))
    (fun (x1 : Int32) => 
    (if x1 = 0 then
        some (-1 : Int32)
         else
        calP (f_X7_byteAt σ (σ.1 6 2)) fun r3 =>
          some (r3 - (48 : Int32))))
set_option maxHeartbeats 4000000 in
set_option maxRecDepth 100000 in
theorem c_X7_number (l : Launch) (E : Ev) (hF : Full E) (σ : St) : Ctr l enI (fun _ => σ) E md_X7_number [rV E 6] σ (f_X7_number σ) := by
  refine ctr_of rfl (Nat.le_of_ble_eq_true rfl) (fun Γ => ?_)
  show Sim _ Γ _ E md_X7_number σ 0 [(0, rV E 6)] [] _
  unfold f_X7_number
  refine s_aload_n dX7_number_0 0 rfl rfl ?_
  refine s_geti gf_X7_30 rfl (m6 hF) k6 (ft_of k6 rfl) dX7_number_1 ?_
  refine s_aload_n dX7_number_4 0 rfl rfl ?_
  refine s_geti gf_X7_43 rfl (m6 hF) k6 (ft_of k6 rfl) dX7_number_5 ?_
  refine s_isub dX7_number_8 ?_
  refine s_iconst (v := 1) dX7_number_9 (by decide) ?_
  refine s_jn1 30 (fun x1 => σ) (fun x1 => [(0, rV E 6)]) (fun x1 => [.int x1]) ?_ ?_
  · intro x1
    refine s_istore_n [(1, .int x1), (0, rV E 6)] dX7_number_30 rfl (by decide) rfl ?_
    refine s_iload_n dX7_number_31 0 rfl rfl ?_
    refine s_if_eq 49 dX7_number_32 (by decide) ?_ ?_
    · skip
      refine s_iconst (v := -1) dX7_number_49 (by decide) ?_
      exact s_ireturn rfl rfl rfl dX7_number_50
    · skip
      refine s_aload_n dX7_number_35 1 rfl rfl ?_
      refine s_aload_n dX7_number_36 1 rfl rfl ?_
      refine s_geti gf_X7_43 rfl (m6 hF) k6 (ft_of k6 rfl) dX7_number_37 ?_
      refine s_callVpI (As := [.int (σ.1 6 2)]) mf_X7_byteAt vf_X7_byteAt ml_X7_49 (c_X7_byteAt _ E hF σ (σ.1 6 2)) (m6 hF) k6 (by decide) rfl rfl rfl rfl (Nat.le_of_ble_eq_true rfl) rfl dX7_number_40 (fun r3 => ?_)
      refine s_bipush (v := 48) dX7_number_43 (by decide) ?_
      refine s_isub dX7_number_45 ?_
      refine s_goto 50 dX7_number_46 (by decide) ?_
      exact s_ireturn rfl rfl rfl dX7_number_50
  · intro jk2 hjk2
    refine s_icmp_ne 29 dX7_number_10 (by decide) ?_ ?_
    · skip
      refine s_aload_n dX7_number_13 0 rfl rfl ?_
      refine s_aload_n dX7_number_14 0 rfl rfl ?_
      refine s_geti gf_X7_43 rfl (m6 hF) k6 (ft_of k6 rfl) dX7_number_15 ?_
      refine s_callVpI (As := [.int (σ.1 6 2)]) mf_X7_kindAt vf_X7_kindAt ml_X7_79 (c_X7_kindAt _ E hF σ (σ.1 6 2)) (m6 hF) k6 (by decide) rfl rfl rfl rfl (Nat.le_of_ble_eq_true rfl) rfl dX7_number_18 (fun r4 => ?_)
      refine s_iconst (v := 2) dX7_number_21 (by decide) ?_
      refine s_icmp_ne 29 dX7_number_22 (by decide) ?_ ?_
      · skip
        refine s_iconst (v := 1) dX7_number_25 (by decide) ?_
        refine s_goto 30 dX7_number_26 (by decide) ?_
        exact hjk2 (1 : Int32)
      · skip
        refine s_iconst (v := 0) dX7_number_29 (by decide) ?_
        exact hjk2 (0 : Int32)
    · skip
      refine s_iconst (v := 0) dX7_number_29 (by decide) ?_
      exact hjk2 (0 : Int32)
theorem dX7_readLine_0 : decode cX7_readLine 0 = .ok (.aload_n 0, 1) := by decide +kernel
theorem dX7_readLine_1 : decode cX7_readLine 1 = .ok (.invokevirtual 46, 3) := by decide +kernel
theorem dX7_readLine_4 : decode cX7_readLine 4 = .ok (.aload_n 0, 1) := by decide +kernel
theorem dX7_readLine_5 : decode cX7_readLine 5 = .ok (.invokevirtual 66, 3) := by decide +kernel
theorem dX7_readLine_8 : decode cX7_readLine 8 = .ok (.istore_n 2, 1) := by decide +kernel
theorem dX7_readLine_9 : decode cX7_readLine 9 = .ok (.iload_n 2, 1) := by decide +kernel
theorem dX7_readLine_10 : decode cX7_readLine 10 = .ok (.iconst (-1), 1) := by decide +kernel
theorem dX7_readLine_11 : decode cX7_readLine 11 = .ok (.if_icmp .ne 5, 3) := by decide +kernel
theorem dX7_readLine_14 : decode cX7_readLine 14 = .ok (.iconst 0, 1) := by decide +kernel
theorem dX7_readLine_15 : decode cX7_readLine 15 = .ok (.ireturn, 1) := by decide +kernel
theorem dX7_readLine_16 : decode cX7_readLine 16 = .ok (.aload_n 0, 1) := by decide +kernel
theorem dX7_readLine_17 : decode cX7_readLine 17 = .ok (.invokevirtual 46, 3) := by decide +kernel
theorem dX7_readLine_20 : decode cX7_readLine 20 = .ok (.aload_n 0, 1) := by decide +kernel
theorem dX7_readLine_21 : decode cX7_readLine 21 = .ok (.invokevirtual 70, 3) := by decide +kernel
theorem dX7_readLine_24 : decode cX7_readLine 24 = .ok (.istore_n 3, 1) := by decide +kernel
theorem dX7_readLine_25 : decode cX7_readLine 25 = .ok (.iconst (-1), 1) := by decide +kernel
theorem dX7_readLine_26 : decode cX7_readLine 26 = .ok (.istore 4, 2) := by decide +kernel
theorem dX7_readLine_28 : decode cX7_readLine 28 = .ok (.iload_n 2, 1) := by decide +kernel
theorem dX7_readLine_29 : decode cX7_readLine 29 = .ok (.iconst 2, 1) := by decide +kernel
theorem dX7_readLine_30 : decode cX7_readLine 30 = .ok (.if_icmp .ne 24, 3) := by decide +kernel
theorem dX7_readLine_33 : decode cX7_readLine 33 = .ok (.iload_n 3, 1) := by decide +kernel
theorem dX7_readLine_34 : decode cX7_readLine 34 = .ok (.iconst 1, 1) := by decide +kernel
theorem dX7_readLine_35 : decode cX7_readLine 35 = .ok (.if_icmp .lt 9, 3) := by decide +kernel
theorem dX7_readLine_38 : decode cX7_readLine 38 = .ok (.iload_n 3, 1) := by decide +kernel
theorem dX7_readLine_39 : decode cX7_readLine 39 = .ok (.bipush 8, 2) := by decide +kernel
theorem dX7_readLine_41 : decode cX7_readLine 41 = .ok (.if_icmp .le 5, 3) := by decide +kernel
theorem dX7_readLine_44 : decode cX7_readLine 44 = .ok (.iconst 0, 1) := by decide +kernel
theorem dX7_readLine_45 : decode cX7_readLine 45 = .ok (.ireturn, 1) := by decide +kernel
theorem dX7_readLine_46 : decode cX7_readLine 46 = .ok (.aload_n 0, 1) := by decide +kernel
theorem dX7_readLine_47 : decode cX7_readLine 47 = .ok (.iload_n 3, 1) := by decide +kernel
theorem dX7_readLine_48 : decode cX7_readLine 48 = .ok (.putfield 33, 3) := by decide +kernel
theorem dX7_readLine_51 : decode cX7_readLine 51 = .ok (.goto 49, 3) := by decide +kernel
theorem dX7_readLine_54 : decode cX7_readLine 54 = .ok (.iload_n 3, 1) := by decide +kernel
theorem dX7_readLine_55 : decode cX7_readLine 55 = .ok (.ifCond .lt 11, 3) := by decide +kernel
theorem dX7_readLine_58 : decode cX7_readLine 58 = .ok (.iload_n 3, 1) := by decide +kernel
theorem dX7_readLine_59 : decode cX7_readLine 59 = .ok (.aload_n 0, 1) := by decide +kernel
theorem dX7_readLine_60 : decode cX7_readLine 60 = .ok (.getfield 33, 3) := by decide +kernel
theorem dX7_readLine_63 : decode cX7_readLine 63 = .ok (.if_icmp .lt 5, 3) := by decide +kernel
theorem dX7_readLine_66 : decode cX7_readLine 66 = .ok (.iconst 0, 1) := by decide +kernel
theorem dX7_readLine_67 : decode cX7_readLine 67 = .ok (.ireturn, 1) := by decide +kernel
theorem dX7_readLine_68 : decode cX7_readLine 68 = .ok (.aload_n 0, 1) := by decide +kernel
theorem dX7_readLine_69 : decode cX7_readLine 69 = .ok (.invokevirtual 46, 3) := by decide +kernel
theorem dX7_readLine_72 : decode cX7_readLine 72 = .ok (.aload_n 0, 1) := by decide +kernel
theorem dX7_readLine_73 : decode cX7_readLine 73 = .ok (.invokevirtual 70, 3) := by decide +kernel
theorem dX7_readLine_76 : decode cX7_readLine 76 = .ok (.istore 4, 2) := by decide +kernel
theorem dX7_readLine_78 : decode cX7_readLine 78 = .ok (.iload 4, 2) := by decide +kernel
theorem dX7_readLine_80 : decode cX7_readLine 80 = .ok (.ifCond .lt 18, 3) := by decide +kernel
theorem dX7_readLine_83 : decode cX7_readLine 83 = .ok (.iload 4, 2) := by decide +kernel
theorem dX7_readLine_85 : decode cX7_readLine 85 = .ok (.aload_n 0, 1) := by decide +kernel
theorem dX7_readLine_86 : decode cX7_readLine 86 = .ok (.getfield 33, 3) := by decide +kernel
theorem dX7_readLine_89 : decode cX7_readLine 89 = .ok (.if_icmp .ge 9, 3) := by decide +kernel
theorem dX7_readLine_92 : decode cX7_readLine 92 = .ok (.iload 4, 2) := by decide +kernel
theorem dX7_readLine_94 : decode cX7_readLine 94 = .ok (.iload_n 3, 1) := by decide +kernel
theorem dX7_readLine_95 : decode cX7_readLine 95 = .ok (.if_icmp .ne 5, 3) := by decide +kernel
theorem dX7_readLine_98 : decode cX7_readLine 98 = .ok (.iconst 0, 1) := by decide +kernel
theorem dX7_readLine_99 : decode cX7_readLine 99 = .ok (.ireturn, 1) := by decide +kernel
theorem dX7_readLine_100 : decode cX7_readLine 100 = .ok (.aload_n 0, 1) := by decide +kernel
theorem dX7_readLine_101 : decode cX7_readLine 101 = .ok (.getfield 15, 3) := by decide +kernel
theorem dX7_readLine_104 : decode cX7_readLine 104 = .ok (.iload_n 1, 1) := by decide +kernel
theorem dX7_readLine_105 : decode cX7_readLine 105 = .ok (.iload_n 2, 1) := by decide +kernel
theorem dX7_readLine_106 : decode cX7_readLine 106 = .ok (.iastore, 1) := by decide +kernel
theorem dX7_readLine_107 : decode cX7_readLine 107 = .ok (.aload_n 0, 1) := by decide +kernel
theorem dX7_readLine_108 : decode cX7_readLine 108 = .ok (.getfield 18, 3) := by decide +kernel
theorem dX7_readLine_111 : decode cX7_readLine 111 = .ok (.iload_n 1, 1) := by decide +kernel
theorem dX7_readLine_112 : decode cX7_readLine 112 = .ok (.iload_n 3, 1) := by decide +kernel
theorem dX7_readLine_113 : decode cX7_readLine 113 = .ok (.iastore, 1) := by decide +kernel
theorem dX7_readLine_114 : decode cX7_readLine 114 = .ok (.aload_n 0, 1) := by decide +kernel
theorem dX7_readLine_115 : decode cX7_readLine 115 = .ok (.getfield 21, 3) := by decide +kernel
theorem dX7_readLine_118 : decode cX7_readLine 118 = .ok (.iload_n 1, 1) := by decide +kernel
theorem dX7_readLine_119 : decode cX7_readLine 119 = .ok (.iload 4, 2) := by decide +kernel
theorem dX7_readLine_121 : decode cX7_readLine 121 = .ok (.iastore, 1) := by decide +kernel
theorem dX7_readLine_122 : decode cX7_readLine 122 = .ok (.iconst 1, 1) := by decide +kernel
theorem dX7_readLine_123 : decode cX7_readLine 123 = .ok (.ireturn, 1) := by decide +kernel
def f_X7_readLine (σ : St) (v1 : Int32) : Option (Int32 × St) :=
  cal (f_X7_nextToken σ) fun _ s1 =>
    calP (f_X7_lineKind s1) fun r2 =>
      (if r2 = (-1 : Int32) then
        some ((0 : Int32), s1)
         else
        cal (f_X7_nextToken s1) fun _ s3 =>
          calP (f_X7_number s3) fun r4 =>
            jn2 (fun jk7 =>
              (if r2 = (2 : Int32) then
                (if r4 < (1 : Int32) then
                  some ((0 : Int32), s3)
                   else
                  (if (8 : Int32) < r4 then
                    some ((0 : Int32), s3)
                     else
                    bd (setI s3 6 4 r4) fun s11 =>
                      jk7 s11 (-1 : Int32)))
                 else
                (if r4 < 0 then
                  some ((0 : Int32), s3)
                   else
                  (if r4 < (s3.1 6 4) then
                    cal (f_X7_nextToken s3) fun _ s12 =>
                      calP (f_X7_number s12) fun r13 =>
                        (if r13 < 0 then
                          some ((0 : Int32), s12)
                           else
                          (if r13 < (s12.1 6 4) then
                            (if r13 = r4 then
                              some ((0 : Int32), s12)
                               else
                              jk7 s12 r13)
                             else
                            some ((0 : Int32), s12)))
                     else
                    some ((0 : Int32), s3)))))
              (fun (s5 : St) (x6 : Int32) => 
              ck v1 16 <|
                  bd (setI s5 8 v1.toNatClampNeg r2) fun s8 =>
                    ck v1 16 <|
                      bd (setI s8 9 v1.toNatClampNeg r4) fun s9 =>
                        ck v1 16 <|
                          bd (setI s9 10 v1.toNatClampNeg x6) fun s10 =>
                            some ((1 : Int32), s10)))
set_option maxHeartbeats 4000000 in
set_option maxRecDepth 100000 in
theorem c_X7_readLine (l : Launch) (E : Ev) (hF : Full E) (σ : St) (v1 : Int32) : Ctr l (en2 enI) (fun q => q.2) E md_X7_readLine [rV E 6, .int v1] σ (f_X7_readLine σ v1) := by
  refine ctr_of rfl (Nat.le_of_ble_eq_true rfl) (fun Γ => ?_)
  show Sim _ Γ _ E md_X7_readLine σ 0 [(0, rV E 6), (1, .int v1)] [] _
  unfold f_X7_readLine
  refine s_aload_n dX7_readLine_0 0 rfl rfl ?_
  refine s_callVwV (As := []) mf_X7_nextToken vf_X7_nextToken ml_X7_46 (c_X7_nextToken _ E hF σ) (m6 hF) k6 (by decide) rfl rfl rfl rfl (Nat.le_of_ble_eq_true rfl) rfl dX7_readLine_1 (fun _ s1 => ?_)
  refine s_aload_n dX7_readLine_4 0 rfl rfl ?_
  refine s_callVpI (As := []) mf_X7_lineKind vf_X7_lineKind ml_X7_66 (c_X7_lineKind _ E hF s1) (m6 hF) k6 (by decide) rfl rfl rfl rfl (Nat.le_of_ble_eq_true rfl) rfl dX7_readLine_5 (fun r2 => ?_)
  refine s_istore_n [(2, .int r2), (0, rV E 6), (1, .int v1)] dX7_readLine_8 rfl (by decide) rfl ?_
  refine s_iload_n dX7_readLine_9 0 rfl rfl ?_
  refine s_iconst (v := -1) dX7_readLine_10 (by decide) ?_
  refine s_icmp_ne 16 dX7_readLine_11 (by decide) ?_ ?_
  · skip
    refine s_iconst (v := 0) dX7_readLine_14 (by decide) ?_
    exact s_zreturn rfl (by decide) rfl rfl dX7_readLine_15
  · skip
    refine s_aload_n dX7_readLine_16 1 rfl rfl ?_
    refine s_callVwV (As := []) mf_X7_nextToken vf_X7_nextToken ml_X7_46 (c_X7_nextToken _ E hF s1) (m6 hF) k6 (by decide) rfl rfl rfl rfl (Nat.le_of_ble_eq_true rfl) rfl dX7_readLine_17 (fun _ s3 => ?_)
    refine s_aload_n dX7_readLine_20 1 rfl rfl ?_
    refine s_callVpI (As := []) mf_X7_number vf_X7_number ml_X7_70 (c_X7_number _ E hF s3) (m6 hF) k6 (by decide) rfl rfl rfl rfl (Nat.le_of_ble_eq_true rfl) rfl dX7_readLine_21 (fun r4 => ?_)
    refine s_istore_n [(3, .int r4), (2, .int r2), (0, rV E 6), (1, .int v1)] dX7_readLine_24 rfl (by decide) rfl ?_
    refine s_iconst (v := -1) dX7_readLine_25 (by decide) ?_
    refine s_istore [(4, .int (-1 : Int32)), (3, .int r4), (2, .int r2), (0, rV E 6), (1, .int v1)] dX7_readLine_26 (by decide) rfl ?_
    refine s_iload_n dX7_readLine_28 2 rfl rfl ?_
    refine s_iconst (v := 2) dX7_readLine_29 (by decide) ?_
    refine s_jn2 100 (fun s5 x6 => s5) (fun s5 x6 => [(0, rV E 6), (1, .int v1), (2, .int r2), (3, .int r4), (4, .int x6)]) (fun s5 x6 => []) ?_ ?_
    · intro s5 x6
      refine s_aload_n dX7_readLine_100 0 rfl rfl ?_
      refine s_getr (b := 8) gf_X7_15 rfl (m6 hF) k6 (ft_of k6 rfl) (hF.2 _ _) rfl dX7_readLine_101 ?_
      refine s_iload_n dX7_readLine_104 1 rfl rfl ?_
      refine s_iload_n dX7_readLine_105 2 rfl rfl ?_
      refine s_iast (m8 hF) k8 l8 dX7_readLine_106 (fun s8 => ?_)
      refine s_aload_n dX7_readLine_107 0 rfl rfl ?_
      refine s_getr (b := 9) gf_X7_18 rfl (m6 hF) k6 (ft_of k6 rfl) (hF.2 _ _) rfl dX7_readLine_108 ?_
      refine s_iload_n dX7_readLine_111 1 rfl rfl ?_
      refine s_iload_n dX7_readLine_112 3 rfl rfl ?_
      refine s_iast (m9 hF) k9 l9 dX7_readLine_113 (fun s9 => ?_)
      refine s_aload_n dX7_readLine_114 0 rfl rfl ?_
      refine s_getr (b := 10) gf_X7_21 rfl (m6 hF) k6 (ft_of k6 rfl) (hF.2 _ _) rfl dX7_readLine_115 ?_
      refine s_iload_n dX7_readLine_118 1 rfl rfl ?_
      refine s_iload dX7_readLine_119 4 rfl ?_
      refine s_iast (m10 hF) k10 l10 dX7_readLine_121 (fun s10 => ?_)
      refine s_iconst (v := 1) dX7_readLine_122 (by decide) ?_
      exact s_zreturn rfl (by decide) rfl rfl dX7_readLine_123
    · intro jk7 hjk7
      refine s_icmp_ne 54 dX7_readLine_30 (by decide) ?_ ?_
      · skip
        refine s_iload_n dX7_readLine_33 1 rfl rfl ?_
        refine s_iconst (v := 1) dX7_readLine_34 (by decide) ?_
        refine s_icmp_lt 44 dX7_readLine_35 (by decide) ?_ ?_
        · skip
          refine s_iconst (v := 0) dX7_readLine_44 (by decide) ?_
          exact s_zreturn rfl (by decide) rfl rfl dX7_readLine_45
        · skip
          refine s_iload_n dX7_readLine_38 1 rfl rfl ?_
          refine s_bipush (v := 8) dX7_readLine_39 (by decide) ?_
          refine s_icmp_le 46 dX7_readLine_41 (by decide) ?_ ?_
          · skip
            refine s_iconst (v := 0) dX7_readLine_44 (by decide) ?_
            exact s_zreturn rfl (by decide) rfl rfl dX7_readLine_45
          · skip
            refine s_aload_n dX7_readLine_46 3 rfl rfl ?_
            refine s_iload_n dX7_readLine_47 1 rfl rfl ?_
            refine s_puti gf_X7_33 rfl (m6 hF) k6 (ft_of k6 rfl) dX7_readLine_48 (fun s11 => ?_)
            refine s_goto 100 dX7_readLine_51 (by decide) ?_
            refine s_sub [3, 4, 2, 1, 0] rfl ?_
            exact hjk7 s11 (-1 : Int32)
      · skip
        refine s_iload_n dX7_readLine_54 1 rfl rfl ?_
        refine s_if_lt 66 dX7_readLine_55 (by decide) ?_ ?_
        · skip
          refine s_iconst (v := 0) dX7_readLine_66 (by decide) ?_
          exact s_zreturn rfl (by decide) rfl rfl dX7_readLine_67
        · skip
          refine s_iload_n dX7_readLine_58 1 rfl rfl ?_
          refine s_aload_n dX7_readLine_59 3 rfl rfl ?_
          refine s_geti gf_X7_33 rfl (m6 hF) k6 (ft_of k6 rfl) dX7_readLine_60 ?_
          refine s_icmp_lt 68 dX7_readLine_63 (by decide) ?_ ?_
          · skip
            refine s_aload_n dX7_readLine_68 3 rfl rfl ?_
            refine s_callVwV (As := []) mf_X7_nextToken vf_X7_nextToken ml_X7_46 (c_X7_nextToken _ E hF s3) (m6 hF) k6 (by decide) rfl rfl rfl rfl (Nat.le_of_ble_eq_true rfl) rfl dX7_readLine_69 (fun _ s12 => ?_)
            refine s_aload_n dX7_readLine_72 3 rfl rfl ?_
            refine s_callVpI (As := []) mf_X7_number vf_X7_number ml_X7_70 (c_X7_number _ E hF s12) (m6 hF) k6 (by decide) rfl rfl rfl rfl (Nat.le_of_ble_eq_true rfl) rfl dX7_readLine_73 (fun r13 => ?_)
            refine s_istore [(4, .int r13), (3, .int r4), (2, .int r2), (0, rV E 6), (1, .int v1)] dX7_readLine_76 (by decide) rfl ?_
            refine s_iload dX7_readLine_78 0 rfl ?_
            refine s_if_lt 98 dX7_readLine_80 (by decide) ?_ ?_
            · skip
              refine s_iconst (v := 0) dX7_readLine_98 (by decide) ?_
              exact s_zreturn rfl (by decide) rfl rfl dX7_readLine_99
            · skip
              refine s_iload dX7_readLine_83 0 rfl ?_
              refine s_aload_n dX7_readLine_85 3 rfl rfl ?_
              refine s_geti gf_X7_33 rfl (m6 hF) k6 (ft_of k6 rfl) dX7_readLine_86 ?_
              refine s_icmp_ge 98 dX7_readLine_89 (by decide) ?_ ?_
              · skip
                refine s_iload dX7_readLine_92 0 rfl ?_
                refine s_iload_n dX7_readLine_94 1 rfl rfl ?_
                refine s_icmp_ne 100 dX7_readLine_95 (by decide) ?_ ?_
                · skip
                  refine s_iconst (v := 0) dX7_readLine_98 (by decide) ?_
                  exact s_zreturn rfl (by decide) rfl rfl dX7_readLine_99
                · skip
                  refine s_sub [3, 4, 2, 1, 0] rfl ?_
                  exact hjk7 s12 r13
              · skip
                refine s_iconst (v := 0) dX7_readLine_98 (by decide) ?_
                exact s_zreturn rfl (by decide) rfl rfl dX7_readLine_99
          · skip
            refine s_iconst (v := 0) dX7_readLine_66 (by decide) ?_
            exact s_zreturn rfl (by decide) rfl rfl dX7_readLine_67
theorem dX7_read_0 : decode cX7_read 0 = .ok (.aload_n 0, 1) := by decide +kernel
theorem dX7_read_1 : decode cX7_read 1 = .ok (.iconst 0, 1) := by decide +kernel
theorem dX7_read_2 : decode cX7_read 2 = .ok (.putfield 30, 3) := by decide +kernel
theorem dX7_read_5 : decode cX7_read 5 = .ok (.aload_n 0, 1) := by decide +kernel
theorem dX7_read_6 : decode cX7_read 6 = .ok (.iload_n 1, 1) := by decide +kernel
theorem dX7_read_7 : decode cX7_read 7 = .ok (.putfield 33, 3) := by decide +kernel
theorem dX7_read_10 : decode cX7_read 10 = .ok (.aload_n 0, 1) := by decide +kernel
theorem dX7_read_11 : decode cX7_read 11 = .ok (.iconst 0, 1) := by decide +kernel
theorem dX7_read_12 : decode cX7_read 12 = .ok (.putfield 36, 3) := by decide +kernel
theorem dX7_read_15 : decode cX7_read 15 = .ok (.iconst 0, 1) := by decide +kernel
theorem dX7_read_16 : decode cX7_read 16 = .ok (.istore_n 2, 1) := by decide +kernel
theorem dX7_read_17 : decode cX7_read 17 = .ok (.iload_n 2, 1) := by decide +kernel
theorem dX7_read_18 : decode cX7_read 18 = .ok (.bipush 16, 2) := by decide +kernel
theorem dX7_read_20 : decode cX7_read 20 = .ok (.if_icmp .ge 73, 3) := by decide +kernel
theorem dX7_read_23 : decode cX7_read 23 = .ok (.aload_n 0, 1) := by decide +kernel
theorem dX7_read_24 : decode cX7_read 24 = .ok (.iload_n 2, 1) := by decide +kernel
theorem dX7_read_25 : decode cX7_read 25 = .ok (.invokevirtual 39, 3) := by decide +kernel
theorem dX7_read_28 : decode cX7_read 28 = .ok (.ifCond .ne 8, 3) := by decide +kernel
theorem dX7_read_31 : decode cX7_read 31 = .ok (.aload_n 0, 1) := by decide +kernel
theorem dX7_read_32 : decode cX7_read 32 = .ok (.getfield 43, 3) := by decide +kernel
theorem dX7_read_35 : decode cX7_read 35 = .ok (.ireturn, 1) := by decide +kernel
theorem dX7_read_36 : decode cX7_read 36 = .ok (.aload_n 0, 1) := by decide +kernel
theorem dX7_read_37 : decode cX7_read 37 = .ok (.iload_n 2, 1) := by decide +kernel
theorem dX7_read_38 : decode cX7_read 38 = .ok (.iconst 1, 1) := by decide +kernel
theorem dX7_read_39 : decode cX7_read 39 = .ok (.iadd, 1) := by decide +kernel
theorem dX7_read_40 : decode cX7_read 40 = .ok (.putfield 36, 3) := by decide +kernel
theorem dX7_read_43 : decode cX7_read 43 = .ok (.aload_n 0, 1) := by decide +kernel
theorem dX7_read_44 : decode cX7_read 44 = .ok (.invokevirtual 46, 3) := by decide +kernel
theorem dX7_read_47 : decode cX7_read 47 = .ok (.aload_n 0, 1) := by decide +kernel
theorem dX7_read_48 : decode cX7_read 48 = .ok (.getfield 43, 3) := by decide +kernel
theorem dX7_read_51 : decode cX7_read 51 = .ok (.aload_n 0, 1) := by decide +kernel
theorem dX7_read_52 : decode cX7_read 52 = .ok (.getfield 24, 3) := by decide +kernel
theorem dX7_read_55 : decode cX7_read 55 = .ok (.if_icmp .lt 5, 3) := by decide +kernel
theorem dX7_read_58 : decode cX7_read 58 = .ok (.iconst (-1), 1) := by decide +kernel
theorem dX7_read_59 : decode cX7_read 59 = .ok (.ireturn, 1) := by decide +kernel
theorem dX7_read_60 : decode cX7_read 60 = .ok (.aload_n 0, 1) := by decide +kernel
theorem dX7_read_61 : decode cX7_read 61 = .ok (.aload_n 0, 1) := by decide +kernel
theorem dX7_read_62 : decode cX7_read 62 = .ok (.getfield 43, 3) := by decide +kernel
theorem dX7_read_65 : decode cX7_read 65 = .ok (.invokevirtual 49, 3) := by decide +kernel
theorem dX7_read_68 : decode cX7_read 68 = .ok (.bipush 59, 2) := by decide +kernel
theorem dX7_read_70 : decode cX7_read 70 = .ok (.if_icmp .ne 12, 3) := by decide +kernel
theorem dX7_read_73 : decode cX7_read 73 = .ok (.aload_n 0, 1) := by decide +kernel
theorem dX7_read_74 : decode cX7_read 74 = .ok (.getfield 36, 3) := by decide +kernel
theorem dX7_read_77 : decode cX7_read 77 = .ok (.bipush 16, 2) := by decide +kernel
theorem dX7_read_79 : decode cX7_read 79 = .ok (.if_icmp .ne 8, 3) := by decide +kernel
theorem dX7_read_82 : decode cX7_read 82 = .ok (.aload_n 0, 1) := by decide +kernel
theorem dX7_read_83 : decode cX7_read 83 = .ok (.getfield 43, 3) := by decide +kernel
theorem dX7_read_86 : decode cX7_read 86 = .ok (.ireturn, 1) := by decide +kernel
theorem dX7_read_87 : decode cX7_read 87 = .ok (.iinc 2 1, 3) := by decide +kernel
theorem dX7_read_90 : decode cX7_read 90 = .ok (.goto (-73), 3) := by decide +kernel
theorem dX7_read_93 : decode cX7_read 93 = .ok (.aload_n 0, 1) := by decide +kernel
theorem dX7_read_94 : decode cX7_read 94 = .ok (.getfield 43, 3) := by decide +kernel
theorem dX7_read_97 : decode cX7_read 97 = .ok (.ireturn, 1) := by decide +kernel
def f_X7_read (σ : St) (v1 : Int32) : Option (Int32 × St) :=
  bd (setI σ 6 3 (0 : Int32)) fun s1 =>
    bd (setI s1 6 4 v1) fun s2 =>
      bd (setI s2 6 5 (0 : Int32)) fun s3 =>
        lo2 FU (fun rec6 (s4 : St) (x5 : Int32) =>
          (if x5 < (16 : Int32) then
            cal (f_X7_readLine s4 x5) fun r8 s9 =>
              (if r8 = 0 then
                some ((s9.1 6 2), s9)
                 else
                bd (setI s9 6 5 (x5 + (1 : Int32))) fun s10 =>
                  cal (f_X7_nextToken s10) fun _ s11 =>
                    (if (s11.1 6 2) < (s11.1 6 1) then
                      calP (f_X7_byteAt s11 (s11.1 6 2)) fun r12 =>
                        (if r12 = (59 : Int32) then
                          (if (s11.1 6 5) = (16 : Int32) then
                            some ((s11.1 6 2), s11)
                             else
                            rec6 s11 (x5 + 1))
                           else
                          some ((s11.1 6 2), s11))
                       else
                      some ((-1 : Int32), s11)))
             else
            some ((s4.1 6 2), s4))) s3 (0 : Int32)
set_option maxHeartbeats 4000000 in
set_option maxRecDepth 100000 in
theorem c_X7_read (l : Launch) (E : Ev) (hF : Full E) (σ : St) (v1 : Int32) : Ctr l (en2 enI) (fun q => q.2) E md_X7_read [rV E 6, .int v1] σ (f_X7_read σ v1) := by
  refine ctr_of rfl (Nat.le_of_ble_eq_true rfl) (fun Γ => ?_)
  show Sim _ Γ _ E md_X7_read σ 0 [(0, rV E 6), (1, .int v1)] [] _
  unfold f_X7_read
  refine s_aload_n dX7_read_0 0 rfl rfl ?_
  refine s_iconst (v := 0) dX7_read_1 (by decide) ?_
  refine s_puti gf_X7_30 rfl (m6 hF) k6 (ft_of k6 rfl) dX7_read_2 (fun s1 => ?_)
  refine s_aload_n dX7_read_5 0 rfl rfl ?_
  refine s_iload_n dX7_read_6 1 rfl rfl ?_
  refine s_puti gf_X7_33 rfl (m6 hF) k6 (ft_of k6 rfl) dX7_read_7 (fun s2 => ?_)
  refine s_aload_n dX7_read_10 0 rfl rfl ?_
  refine s_iconst (v := 0) dX7_read_11 (by decide) ?_
  refine s_puti gf_X7_36 rfl (m6 hF) k6 (ft_of k6 rfl) dX7_read_12 (fun s3 => ?_)
  refine s_iconst (v := 0) dX7_read_15 (by decide) ?_
  refine s_istore_n [(2, .int (0 : Int32)), (0, rV E 6), (1, .int v1)] dX7_read_16 rfl (by decide) rfl ?_
  refine s_sub (lv' := [(0, rV E 6), (2, .int (0 : Int32))]) [1, 0] rfl ?_
  refine s_lo2 (σf := fun s4 x5 => s4) (lvf := fun s4 x5 => [(0, rV E 6), (2, .int x5)]) (fun rec6 ih7 s4 x5 => ?_)
  refine s_iload_n dX7_read_17 1 rfl rfl ?_
  refine s_bipush (v := 16) dX7_read_18 (by decide) ?_
  refine s_icmp_ge 93 dX7_read_20 (by decide) ?_ ?_
  · skip
    refine s_aload_n dX7_read_23 0 rfl rfl ?_
    refine s_iload_n dX7_read_24 1 rfl rfl ?_
    refine s_callVwI (As := [.int x5]) mf_X7_readLine vf_X7_readLine ml_X7_39 (c_X7_readLine _ E hF s4 x5) (m6 hF) k6 (by decide) rfl rfl rfl rfl (Nat.le_of_ble_eq_true rfl) rfl dX7_read_25 (fun r8 s9 => ?_)
    refine s_if_ne 36 dX7_read_28 (by decide) ?_ ?_
    · skip
      refine s_aload_n dX7_read_31 0 rfl rfl ?_
      refine s_geti gf_X7_43 rfl (m6 hF) k6 (ft_of k6 rfl) dX7_read_32 ?_
      exact s_ireturn rfl rfl rfl dX7_read_35
    · skip
      refine s_aload_n dX7_read_36 0 rfl rfl ?_
      refine s_iload_n dX7_read_37 1 rfl rfl ?_
      refine s_iconst (v := 1) dX7_read_38 (by decide) ?_
      refine s_iadd dX7_read_39 ?_
      refine s_puti gf_X7_36 rfl (m6 hF) k6 (ft_of k6 rfl) dX7_read_40 (fun s10 => ?_)
      refine s_aload_n dX7_read_43 0 rfl rfl ?_
      refine s_callVwV (As := []) mf_X7_nextToken vf_X7_nextToken ml_X7_46 (c_X7_nextToken _ E hF s10) (m6 hF) k6 (by decide) rfl rfl rfl rfl (Nat.le_of_ble_eq_true rfl) rfl dX7_read_44 (fun _ s11 => ?_)
      refine s_aload_n dX7_read_47 0 rfl rfl ?_
      refine s_geti gf_X7_43 rfl (m6 hF) k6 (ft_of k6 rfl) dX7_read_48 ?_
      refine s_aload_n dX7_read_51 0 rfl rfl ?_
      refine s_geti gf_X7_24 rfl (m6 hF) k6 (ft_of k6 rfl) dX7_read_52 ?_
      refine s_icmp_lt 60 dX7_read_55 (by decide) ?_ ?_
      · skip
        refine s_aload_n dX7_read_60 0 rfl rfl ?_
        refine s_aload_n dX7_read_61 0 rfl rfl ?_
        refine s_geti gf_X7_43 rfl (m6 hF) k6 (ft_of k6 rfl) dX7_read_62 ?_
        refine s_callVpI (As := [.int (s11.1 6 2)]) mf_X7_byteAt vf_X7_byteAt ml_X7_49 (c_X7_byteAt _ E hF s11 (s11.1 6 2)) (m6 hF) k6 (by decide) rfl rfl rfl rfl (Nat.le_of_ble_eq_true rfl) rfl dX7_read_65 (fun r12 => ?_)
        refine s_bipush (v := 59) dX7_read_68 (by decide) ?_
        refine s_icmp_ne 82 dX7_read_70 (by decide) ?_ ?_
        · skip
          refine s_aload_n dX7_read_73 0 rfl rfl ?_
          refine s_geti gf_X7_36 rfl (m6 hF) k6 (ft_of k6 rfl) dX7_read_74 ?_
          refine s_bipush (v := 16) dX7_read_77 (by decide) ?_
          refine s_icmp_ne 87 dX7_read_79 (by decide) ?_ ?_
          · skip
            refine s_aload_n dX7_read_82 0 rfl rfl ?_
            refine s_geti gf_X7_43 rfl (m6 hF) k6 (ft_of k6 rfl) dX7_read_83 ?_
            exact s_ireturn rfl rfl rfl dX7_read_86
          · skip
            refine s_iinc [(2, .int (x5 + 1)), (0, rV E 6)] dX7_read_87 1 rfl rfl (by decide) rfl ?_
            refine s_goto 17 dX7_read_90 (by decide) ?_
            refine s_sub [1, 0] rfl ?_
            exact ih7 s11 (x5 + 1)
        · skip
          refine s_aload_n dX7_read_82 0 rfl rfl ?_
          refine s_geti gf_X7_43 rfl (m6 hF) k6 (ft_of k6 rfl) dX7_read_83 ?_
          exact s_ireturn rfl rfl rfl dX7_read_86
      · skip
        refine s_iconst (v := -1) dX7_read_58 (by decide) ?_
        exact s_ireturn rfl rfl rfl dX7_read_59
  · skip
    refine s_aload_n dX7_read_93 0 rfl rfl ?_
    refine s_geti gf_X7_43 rfl (m6 hF) k6 (ft_of k6 rfl) dX7_read_94 ?_
    exact s_ireturn rfl rfl rfl dX7_read_97
theorem dX7_layOn_0 : decode cX7_layOn 0 = .ok (.iconst 0, 1) := by decide +kernel
theorem dX7_layOn_1 : decode cX7_layOn 1 = .ok (.istore_n 2, 1) := by decide +kernel
theorem dX7_layOn_2 : decode cX7_layOn 2 = .ok (.iload_n 2, 1) := by decide +kernel
theorem dX7_layOn_3 : decode cX7_layOn 3 = .ok (.aload_n 0, 1) := by decide +kernel
theorem dX7_layOn_4 : decode cX7_layOn 4 = .ok (.getfield 36, 3) := by decide +kernel
theorem dX7_layOn_7 : decode cX7_layOn 7 = .ok (.if_icmp .ge 81, 3) := by decide +kernel
theorem dX7_layOn_10 : decode cX7_layOn 10 = .ok (.iload_n 2, 1) := by decide +kernel
theorem dX7_layOn_11 : decode cX7_layOn 11 = .ok (.bipush 16, 2) := by decide +kernel
theorem dX7_layOn_13 : decode cX7_layOn 13 = .ok (.if_icmp .ge 75, 3) := by decide +kernel
theorem dX7_layOn_16 : decode cX7_layOn 16 = .ok (.aload_n 0, 1) := by decide +kernel
theorem dX7_layOn_17 : decode cX7_layOn 17 = .ok (.getfield 15, 3) := by decide +kernel
theorem dX7_layOn_20 : decode cX7_layOn 20 = .ok (.iload_n 2, 1) := by decide +kernel
theorem dX7_layOn_21 : decode cX7_layOn 21 = .ok (.iaload, 1) := by decide +kernel
theorem dX7_layOn_22 : decode cX7_layOn 22 = .ok (.iconst 2, 1) := by decide +kernel
theorem dX7_layOn_23 : decode cX7_layOn 23 = .ok (.if_icmp .ne 16, 3) := by decide +kernel
theorem dX7_layOn_26 : decode cX7_layOn 26 = .ok (.aload_n 1, 1) := by decide +kernel
theorem dX7_layOn_27 : decode cX7_layOn 27 = .ok (.aload_n 0, 1) := by decide +kernel
theorem dX7_layOn_28 : decode cX7_layOn 28 = .ok (.getfield 18, 3) := by decide +kernel
theorem dX7_layOn_31 : decode cX7_layOn 31 = .ok (.iload_n 2, 1) := by decide +kernel
theorem dX7_layOn_32 : decode cX7_layOn 32 = .ok (.iaload, 1) := by decide +kernel
theorem dX7_layOn_33 : decode cX7_layOn 33 = .ok (.invokevirtual 53, 3) := by decide +kernel
theorem dX7_layOn_36 : decode cX7_layOn 36 = .ok (.goto 20, 3) := by decide +kernel
theorem dX7_layOn_39 : decode cX7_layOn 39 = .ok (.aload_n 1, 1) := by decide +kernel
theorem dX7_layOn_40 : decode cX7_layOn 40 = .ok (.aload_n 0, 1) := by decide +kernel
theorem dX7_layOn_41 : decode cX7_layOn 41 = .ok (.getfield 18, 3) := by decide +kernel
theorem dX7_layOn_44 : decode cX7_layOn 44 = .ok (.iload_n 2, 1) := by decide +kernel
theorem dX7_layOn_45 : decode cX7_layOn 45 = .ok (.iaload, 1) := by decide +kernel
theorem dX7_layOn_46 : decode cX7_layOn 46 = .ok (.aload_n 0, 1) := by decide +kernel
theorem dX7_layOn_47 : decode cX7_layOn 47 = .ok (.getfield 21, 3) := by decide +kernel
theorem dX7_layOn_50 : decode cX7_layOn 50 = .ok (.iload_n 2, 1) := by decide +kernel
theorem dX7_layOn_51 : decode cX7_layOn 51 = .ok (.iaload, 1) := by decide +kernel
theorem dX7_layOn_52 : decode cX7_layOn 52 = .ok (.iconst 1, 1) := by decide +kernel
theorem dX7_layOn_53 : decode cX7_layOn 53 = .ok (.invokevirtual 59, 3) := by decide +kernel
theorem dX7_layOn_56 : decode cX7_layOn 56 = .ok (.aload_n 0, 1) := by decide +kernel
theorem dX7_layOn_57 : decode cX7_layOn 57 = .ok (.getfield 15, 3) := by decide +kernel
theorem dX7_layOn_60 : decode cX7_layOn 60 = .ok (.iload_n 2, 1) := by decide +kernel
theorem dX7_layOn_61 : decode cX7_layOn 61 = .ok (.iaload, 1) := by decide +kernel
theorem dX7_layOn_62 : decode cX7_layOn 62 = .ok (.ifCond .ne 20, 3) := by decide +kernel
theorem dX7_layOn_65 : decode cX7_layOn 65 = .ok (.aload_n 1, 1) := by decide +kernel
theorem dX7_layOn_66 : decode cX7_layOn 66 = .ok (.aload_n 0, 1) := by decide +kernel
theorem dX7_layOn_67 : decode cX7_layOn 67 = .ok (.getfield 21, 3) := by decide +kernel
theorem dX7_layOn_70 : decode cX7_layOn 70 = .ok (.iload_n 2, 1) := by decide +kernel
theorem dX7_layOn_71 : decode cX7_layOn 71 = .ok (.iaload, 1) := by decide +kernel
theorem dX7_layOn_72 : decode cX7_layOn 72 = .ok (.aload_n 0, 1) := by decide +kernel
theorem dX7_layOn_73 : decode cX7_layOn 73 = .ok (.getfield 18, 3) := by decide +kernel
theorem dX7_layOn_76 : decode cX7_layOn 76 = .ok (.iload_n 2, 1) := by decide +kernel
theorem dX7_layOn_77 : decode cX7_layOn 77 = .ok (.iaload, 1) := by decide +kernel
theorem dX7_layOn_78 : decode cX7_layOn 78 = .ok (.iconst 1, 1) := by decide +kernel
theorem dX7_layOn_79 : decode cX7_layOn 79 = .ok (.invokevirtual 59, 3) := by decide +kernel
theorem dX7_layOn_82 : decode cX7_layOn 82 = .ok (.iinc 2 1, 3) := by decide +kernel
theorem dX7_layOn_85 : decode cX7_layOn 85 = .ok (.goto (-83), 3) := by decide +kernel
theorem dX7_layOn_88 : decode cX7_layOn 88 = .ok (.aload_n 1, 1) := by decide +kernel
theorem dX7_layOn_89 : decode cX7_layOn 89 = .ok (.invokevirtual 63, 3) := by decide +kernel
theorem dX7_layOn_92 : decode cX7_layOn 92 = .ok (.return_, 1) := by decide +kernel
def f_X7_layOn (σ : St) : Option (Unit × St) :=
  lo2 FU (fun rec3 (s1 : St) (x2 : Int32) =>
    (if x2 < (s1.1 6 5) then
      (if x2 < (16 : Int32) then
        ck x2 16 <|
          jn1 (fun jk6 =>
            (if (s1.1 8 x2.toNatClampNeg) = (2 : Int32) then
              ck x2 16 <|
                cal (f_X3_reset s1 (s1.1 9 x2.toNatClampNeg)) fun _ s8 =>
                  jk6 s8
               else
              ck x2 16 <|
                ck x2 16 <|
                  cal (f_X3_set s1 (s1.1 9 x2.toNatClampNeg) (s1.1 10 x2.toNatClampNeg) (1 : Int32)) fun _ s9 =>
                    jk6 s9))
            (fun (s5 : St) => 
            ck x2 16 <|
                (if (s5.1 8 x2.toNatClampNeg) = 0 then
                  ck x2 16 <|
                    ck x2 16 <|
                      cal (f_X3_set s5 (s5.1 10 x2.toNatClampNeg) (s5.1 9 x2.toNatClampNeg) (1 : Int32)) fun _ s7 =>
                        rec3 s7 (x2 + 1)
                   else
                  rec3 s5 (x2 + 1)))
         else
        cal (f_X3_settle s1) fun _ s10 =>
          some ((), s10))
       else
      cal (f_X3_settle s1) fun _ s11 =>
        some ((), s11))) σ (0 : Int32)
set_option maxHeartbeats 4000000 in
set_option maxRecDepth 100000 in
theorem c_X7_layOn (l : Launch) (E : Ev) (hF : Full E) (σ : St) : Ctr l (en2 enV) (fun q => q.2) E md_X7_layOn [rV E 6, rV E 1] σ (f_X7_layOn σ) := by
  refine ctr_of rfl (Nat.le_of_ble_eq_true rfl) (fun Γ => ?_)
  show Sim _ Γ _ E md_X7_layOn σ 0 [(0, rV E 6), (1, rV E 1)] [] _
  unfold f_X7_layOn
  refine s_iconst (v := 0) dX7_layOn_0 (by decide) ?_
  refine s_istore_n [(2, .int (0 : Int32)), (0, rV E 6), (1, rV E 1)] dX7_layOn_1 rfl (by decide) rfl ?_
  refine s_sub (lv' := [(0, rV E 6), (1, rV E 1), (2, .int (0 : Int32))]) [1, 2, 0] rfl ?_
  refine s_lo2 (σf := fun s1 x2 => s1) (lvf := fun s1 x2 => [(0, rV E 6), (1, rV E 1), (2, .int x2)]) (fun rec3 ih4 s1 x2 => ?_)
  refine s_iload_n dX7_layOn_2 2 rfl rfl ?_
  refine s_aload_n dX7_layOn_3 0 rfl rfl ?_
  refine s_geti gf_X7_36 rfl (m6 hF) k6 (ft_of k6 rfl) dX7_layOn_4 ?_
  refine s_icmp_ge 88 dX7_layOn_7 (by decide) ?_ ?_
  · skip
    refine s_iload_n dX7_layOn_10 2 rfl rfl ?_
    refine s_bipush (v := 16) dX7_layOn_11 (by decide) ?_
    refine s_icmp_ge 88 dX7_layOn_13 (by decide) ?_ ?_
    · skip
      refine s_aload_n dX7_layOn_16 0 rfl rfl ?_
      refine s_getr (b := 8) gf_X7_15 rfl (m6 hF) k6 (ft_of k6 rfl) (hF.2 _ _) rfl dX7_layOn_17 ?_
      refine s_iload_n dX7_layOn_20 2 rfl rfl ?_
      refine s_iald (m8 hF) k8 l8 dX7_layOn_21 ?_
      refine s_iconst (v := 2) dX7_layOn_22 (by decide) ?_
      refine s_jn1 56 (fun s5 => s5) (fun s5 => [(0, rV E 6), (1, rV E 1), (2, .int x2)]) (fun s5 => []) ?_ ?_
      · intro s5
        refine s_aload_n dX7_layOn_56 0 rfl rfl ?_
        refine s_getr (b := 8) gf_X7_15 rfl (m6 hF) k6 (ft_of k6 rfl) (hF.2 _ _) rfl dX7_layOn_57 ?_
        refine s_iload_n dX7_layOn_60 2 rfl rfl ?_
        refine s_iald (m8 hF) k8 l8 dX7_layOn_61 ?_
        refine s_if_ne 82 dX7_layOn_62 (by decide) ?_ ?_
        · skip
          refine s_aload_n dX7_layOn_65 1 rfl rfl ?_
          refine s_aload_n dX7_layOn_66 0 rfl rfl ?_
          refine s_getr (b := 10) gf_X7_21 rfl (m6 hF) k6 (ft_of k6 rfl) (hF.2 _ _) rfl dX7_layOn_67 ?_
          refine s_iload_n dX7_layOn_70 2 rfl rfl ?_
          refine s_iald (m10 hF) k10 l10 dX7_layOn_71 ?_
          refine s_aload_n dX7_layOn_72 0 rfl rfl ?_
          refine s_getr (b := 9) gf_X7_18 rfl (m6 hF) k6 (ft_of k6 rfl) (hF.2 _ _) rfl dX7_layOn_73 ?_
          refine s_iload_n dX7_layOn_76 2 rfl rfl ?_
          refine s_iald (m9 hF) k9 l9 dX7_layOn_77 ?_
          refine s_iconst (v := 1) dX7_layOn_78 (by decide) ?_
          refine s_callVwV (As := [.int (s5.1 10 x2.toNatClampNeg), .int (s5.1 9 x2.toNatClampNeg), .int (1 : Int32)]) mf_X3_set vf_X3_set ml_X7_59 (c_X3_set _ E hF s5 (s5.1 10 x2.toNatClampNeg) (s5.1 9 x2.toNatClampNeg) (1 : Int32)) (m1 hF) k1 (by decide) rfl rfl rfl rfl (Nat.le_of_ble_eq_true rfl) rfl dX7_layOn_79 (fun _ s7 => ?_)
          refine s_iinc [(2, .int (x2 + 1)), (0, rV E 6), (1, rV E 1)] dX7_layOn_82 2 rfl rfl (by decide) rfl ?_
          refine s_goto 2 dX7_layOn_85 (by decide) ?_
          refine s_sub [1, 2, 0] rfl ?_
          exact ih4 s7 (x2 + 1)
        · skip
          refine s_iinc [(2, .int (x2 + 1)), (0, rV E 6), (1, rV E 1)] dX7_layOn_82 2 rfl rfl (by decide) rfl ?_
          refine s_goto 2 dX7_layOn_85 (by decide) ?_
          refine s_sub [1, 2, 0] rfl ?_
          exact ih4 s5 (x2 + 1)
      · intro jk6 hjk6
        refine s_icmp_ne 39 dX7_layOn_23 (by decide) ?_ ?_
        · skip
          refine s_aload_n dX7_layOn_26 1 rfl rfl ?_
          refine s_aload_n dX7_layOn_27 0 rfl rfl ?_
          refine s_getr (b := 9) gf_X7_18 rfl (m6 hF) k6 (ft_of k6 rfl) (hF.2 _ _) rfl dX7_layOn_28 ?_
          refine s_iload_n dX7_layOn_31 2 rfl rfl ?_
          refine s_iald (m9 hF) k9 l9 dX7_layOn_32 ?_
          refine s_callVwV (As := [.int (s1.1 9 x2.toNatClampNeg)]) mf_X3_reset vf_X3_reset ml_X7_53 (c_X3_reset _ E hF s1 (s1.1 9 x2.toNatClampNeg)) (m1 hF) k1 (by decide) rfl rfl rfl rfl (Nat.le_of_ble_eq_true rfl) rfl dX7_layOn_33 (fun _ s8 => ?_)
          refine s_goto 56 dX7_layOn_36 (by decide) ?_
          exact hjk6 s8
        · skip
          refine s_aload_n dX7_layOn_39 1 rfl rfl ?_
          refine s_aload_n dX7_layOn_40 0 rfl rfl ?_
          refine s_getr (b := 9) gf_X7_18 rfl (m6 hF) k6 (ft_of k6 rfl) (hF.2 _ _) rfl dX7_layOn_41 ?_
          refine s_iload_n dX7_layOn_44 2 rfl rfl ?_
          refine s_iald (m9 hF) k9 l9 dX7_layOn_45 ?_
          refine s_aload_n dX7_layOn_46 0 rfl rfl ?_
          refine s_getr (b := 10) gf_X7_21 rfl (m6 hF) k6 (ft_of k6 rfl) (hF.2 _ _) rfl dX7_layOn_47 ?_
          refine s_iload_n dX7_layOn_50 2 rfl rfl ?_
          refine s_iald (m10 hF) k10 l10 dX7_layOn_51 ?_
          refine s_iconst (v := 1) dX7_layOn_52 (by decide) ?_
          refine s_callVwV (As := [.int (s1.1 9 x2.toNatClampNeg), .int (s1.1 10 x2.toNatClampNeg), .int (1 : Int32)]) mf_X3_set vf_X3_set ml_X7_59 (c_X3_set _ E hF s1 (s1.1 9 x2.toNatClampNeg) (s1.1 10 x2.toNatClampNeg) (1 : Int32)) (m1 hF) k1 (by decide) rfl rfl rfl rfl (Nat.le_of_ble_eq_true rfl) rfl dX7_layOn_53 (fun _ s9 => ?_)
          exact hjk6 s9
    · skip
      refine s_aload_n dX7_layOn_88 1 rfl rfl ?_
      refine s_callVwV (As := []) mf_X3_settle vf_X3_settle ml_X7_63 (c_X3_settle _ E hF s1) (m1 hF) k1 (by decide) rfl rfl rfl rfl (Nat.le_of_ble_eq_true rfl) rfl dX7_layOn_89 (fun _ s10 => ?_)
      exact s_return rfl rfl rfl dX7_layOn_92
  · skip
    refine s_aload_n dX7_layOn_88 1 rfl rfl ?_
    refine s_callVwV (As := []) mf_X3_settle vf_X3_settle ml_X7_63 (c_X3_settle _ E hF s1) (m1 hF) k1 (by decide) rfl rfl rfl rfl (Nat.le_of_ble_eq_true rfl) rfl dX7_layOn_89 (fun _ s11 => ?_)
    exact s_return rfl rfl rfl dX7_layOn_92
